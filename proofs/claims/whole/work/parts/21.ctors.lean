section
theorem wz_arr_I : Cond.arrayClass .int ∈ lw_ok := lw_up_1 (List.mem_of_getElem? (i := 36) rfl) rfl
theorem wz_arr_B : Cond.arrayClass .byte ∈ lw_ok := lw_up_1 (List.mem_of_getElem? (i := 50) rfl) rfl
theorem wz_arr_Z : Cond.arrayClass .boolean ∈ lw_ok := lw_up_1 (List.mem_of_getElem? (i := 143) rfl) rfl
theorem wz_oi : Cond.instanceMethod Lib.objectInit ∈ lw_ok := lw_up_1 (List.mem_of_getElem? (i := 20) rfl) rfl
theorem wz_oc : Cond.code Lib.objectInit ⟨#[0xb1]⟩ 1 none ∈ lw_ok := lw_up_1 (List.mem_of_getElem? (i := 21) rfl) rfl
theorem wz_cl_LS : Cond.instantiable "LastSeen" 14 ∈ lw_ok := lw_up_1 (List.mem_of_getElem? (i := 15) rfl) rfl
theorem wz_cl_La : Cond.instantiable "LastSeen$Land" 2 ∈ lw_ok := lw_up_1 (List.mem_of_getElem? (i := 23) rfl) rfl
theorem wz_cl_Ta : Cond.instantiable "LastSeen$Tape" 2 ∈ lw_ok := lw_up_1 (List.mem_of_getElem? (i := 38) rfl) rfl
theorem wz_cl_Na : Cond.instantiable "LastSeen$Names" 15 ∈ lw_ok := lw_up_1 (List.mem_of_getElem? (i := 52) rfl) rfl
theorem wz_cl_Wo : Cond.instantiable "LastSeen$Words" 11 ∈ lw_ok := lw_up_1 (List.mem_of_getElem? (i := 104) rfl) rfl
theorem wz_cl_Wa : Cond.instantiable "LastSeen$Walk" 7 ∈ lw_ok := lw_up_1 (List.mem_of_getElem? (i := 147) rfl) rfl
theorem wz_cl_He : Cond.instantiable "LastSeen$Hearing" 15 ∈ lw_ok := lw_up_1 (List.mem_of_getElem? (i := 145) rfl) rfl
theorem wz_cl_Ru : Cond.instantiable "LastSeen$Rules" 13 ∈ lw_ok := lw_up_1 (List.mem_of_getElem? (i := 225) rfl) rfl
theorem wz_cl_Bn : Cond.instantiable "LastSeen$Bones" 3 ∈ lw_ok := lw_up_2 (List.mem_of_getElem? (i := 31) rfl) rfl
theorem wz_cl_Gr : Cond.instantiable "LastSeen$Graves" 18 ∈ lw_ok := lw_up_2 (List.mem_of_getElem? (i := 47) rfl) rfl
theorem wz_cl_Md : Cond.instantiable "LastSeenModel" 75 ∈ lw_ok := lw_up_5 (List.mem_of_getElem? (i := 200) rfl) rfl
theorem wl_La_1 : Cond.methodLink "LastSeen$Land" 1 Lib.objectInit ∈ lw_ok := lw_up_1 (List.mem_of_getElem? (i := 27) rfl) rfl
theorem wz_La_watches : Cond.fieldLink "LastSeen$Land" 9 "LastSeen$Land" "watches" "[I" ∈ lw_ok := lw_up_1 (List.mem_of_getElem? (i := 29) rfl) rfl
theorem wk_La_13 : Cond.constant "LastSeen$Land" 13 (1000000) ∈ lw_ok := lw_up_1 (List.mem_of_getElem? (i := 28) rfl) rfl
theorem wl_Ta_1 : Cond.methodLink "LastSeen$Tape" 1 Lib.objectInit ∈ lw_ok := lw_up_1 (List.mem_of_getElem? (i := 42) rfl) rfl
theorem wz_Ta_bytes : Cond.fieldLink "LastSeen$Tape" 9 "LastSeen$Tape" "bytes" "[B" ∈ lw_ok := lw_up_1 (List.mem_of_getElem? (i := 43) rfl) rfl
theorem wl_Na_3 : Cond.methodLink "LastSeen$Names" 3 Lib.objectInit ∈ lw_ok := lw_up_1 (List.mem_of_getElem? (i := 56) rfl) rfl
theorem wz_Na_letters : Cond.fieldLink "LastSeen$Names" 11 "LastSeen$Names" "letters" "[I" ∈ lw_ok := lw_up_1 (List.mem_of_getElem? (i := 57) rfl) rfl
theorem wz_Na_keySizes : Cond.fieldLink "LastSeen$Names" 15 "LastSeen$Names" "keySizes" "[I" ∈ lw_ok := lw_up_1 (List.mem_of_getElem? (i := 58) rfl) rfl
theorem wz_Na_enteredAt : Cond.fieldLink "LastSeen$Names" 18 "LastSeen$Names" "enteredAt" "[I" ∈ lw_ok := lw_up_1 (List.mem_of_getElem? (i := 59) rfl) rfl
theorem wz_Na_decreeA : Cond.fieldLink "LastSeen$Names" 21 "LastSeen$Names" "decreeA" "[I" ∈ lw_ok := lw_up_1 (List.mem_of_getElem? (i := 61) rfl) rfl
theorem wz_Na_decreeB : Cond.fieldLink "LastSeen$Names" 24 "LastSeen$Names" "decreeB" "[I" ∈ lw_ok := lw_up_1 (List.mem_of_getElem? (i := 62) rfl) rfl
theorem wz_Na_decreeBond : Cond.fieldLink "LastSeen$Names" 27 "LastSeen$Names" "decreeBond" "[I" ∈ lw_ok := lw_up_1 (List.mem_of_getElem? (i := 63) rfl) rfl
theorem wz_Na_decreedAt : Cond.fieldLink "LastSeen$Names" 30 "LastSeen$Names" "decreedAt" "[I" ∈ lw_ok := lw_up_1 (List.mem_of_getElem? (i := 64) rfl) rfl
theorem wz_Na_bonds : Cond.fieldLink "LastSeen$Names" 33 "LastSeen$Names" "bonds" "[I" ∈ lw_ok := lw_up_1 (List.mem_of_getElem? (i := 66) rfl) rfl
theorem wz_Na_persons : Cond.fieldLink "LastSeen$Names" 36 "LastSeen$Names" "persons" "[I" ∈ lw_ok := lw_up_1 (List.mem_of_getElem? (i := 67) rfl) rfl
theorem wz_Na_row : Cond.fieldLink "LastSeen$Names" 39 "LastSeen$Names" "row" "[I" ∈ lw_ok := lw_up_1 (List.mem_of_getElem? (i := 69) rfl) rfl
theorem wz_Na_steps : Cond.fieldLink "LastSeen$Names" 42 "LastSeen$Names" "steps" "[I" ∈ lw_ok := lw_up_1 (List.mem_of_getElem? (i := 70) rfl) rfl
theorem wz_Na_spelled : Cond.fieldLink "LastSeen$Names" 45 "LastSeen$Names" "spelled" "[I" ∈ lw_ok := lw_up_1 (List.mem_of_getElem? (i := 71) rfl) rfl
theorem wl_Wo_3 : Cond.methodLink "LastSeen$Words" 3 Lib.objectInit ∈ lw_ok := lw_up_1 (List.mem_of_getElem? (i := 108) rfl) rfl
theorem wz_Wo_witness : Cond.fieldLink "LastSeen$Words" 11 "LastSeen$Words" "witness" "[I" ∈ lw_ok := lw_up_1 (List.mem_of_getElem? (i := 109) rfl) rfl
theorem wz_Wo_names : Cond.fieldLink "LastSeen$Words" 15 "LastSeen$Words" "names" "[I" ∈ lw_ok := lw_up_1 (List.mem_of_getElem? (i := 110) rfl) rfl
theorem wz_Wo_places : Cond.fieldLink "LastSeen$Words" 18 "LastSeen$Words" "places" "[I" ∈ lw_ok := lw_up_1 (List.mem_of_getElem? (i := 111) rfl) rfl
theorem wz_Wo_first : Cond.fieldLink "LastSeen$Words" 21 "LastSeen$Words" "first" "[I" ∈ lw_ok := lw_up_1 (List.mem_of_getElem? (i := 112) rfl) rfl
theorem wz_Wo_last : Cond.fieldLink "LastSeen$Words" 24 "LastSeen$Words" "last" "[I" ∈ lw_ok := lw_up_1 (List.mem_of_getElem? (i := 113) rfl) rfl
theorem wz_Wo_heardOf : Cond.fieldLink "LastSeen$Words" 27 "LastSeen$Words" "heardOf" "[I" ∈ lw_ok := lw_up_1 (List.mem_of_getElem? (i := 114) rfl) rfl
theorem wz_Wo_roots : Cond.fieldLink "LastSeen$Words" 30 "LastSeen$Words" "roots" "[I" ∈ lw_ok := lw_up_1 (List.mem_of_getElem? (i := 115) rfl) rfl
theorem wz_Wo_enteredAt : Cond.fieldLink "LastSeen$Words" 33 "LastSeen$Words" "enteredAt" "[I" ∈ lw_ok := lw_up_1 (List.mem_of_getElem? (i := 116) rfl) rfl
theorem wz_Wo_droppedAt : Cond.fieldLink "LastSeen$Words" 36 "LastSeen$Words" "droppedAt" "[I" ∈ lw_ok := lw_up_1 (List.mem_of_getElem? (i := 117) rfl) rfl
theorem wz_Wo_standing : Cond.fieldLink "LastSeen$Words" 39 "LastSeen$Words" "standing" "[Z" ∈ lw_ok := lw_up_1 (List.mem_of_getElem? (i := 119) rfl) rfl
theorem wl_Wa_3 : Cond.methodLink "LastSeen$Walk" 3 Lib.objectInit ∈ lw_ok := lw_up_1 (List.mem_of_getElem? (i := 151) rfl) rfl
theorem wz_Wa_places : Cond.fieldLink "LastSeen$Walk" 11 "LastSeen$Walk" "places" "[I" ∈ lw_ok := lw_up_1 (List.mem_of_getElem? (i := 153) rfl) rfl
theorem wz_Wa_first : Cond.fieldLink "LastSeen$Walk" 15 "LastSeen$Walk" "first" "[I" ∈ lw_ok := lw_up_1 (List.mem_of_getElem? (i := 154) rfl) rfl
theorem wz_Wa_last : Cond.fieldLink "LastSeen$Walk" 18 "LastSeen$Walk" "last" "[I" ∈ lw_ok := lw_up_1 (List.mem_of_getElem? (i := 155) rfl) rfl
theorem wz_Wa_soonest : Cond.fieldLink "LastSeen$Walk" 21 "LastSeen$Walk" "soonest" "[I" ∈ lw_ok := lw_up_1 (List.mem_of_getElem? (i := 157) rfl) rfl
theorem wz_Wa_reach : Cond.fieldLink "LastSeen$Walk" 24 "LastSeen$Walk" "reach" "[I" ∈ lw_ok := lw_up_1 (List.mem_of_getElem? (i := 158) rfl) rfl
theorem wz_Wa_land : Cond.fieldLink "LastSeen$Walk" 27 "LastSeen$Walk" "land" "LLastSeen$Land;" ∈ lw_ok := lw_up_1 (List.mem_of_getElem? (i := 152) rfl) rfl
theorem wl_He_3 : Cond.methodLink "LastSeen$Hearing" 3 Lib.objectInit ∈ lw_ok := lw_up_1 (List.mem_of_getElem? (i := 177) rfl) rfl
theorem wz_He_isRoot : Cond.fieldLink "LastSeen$Hearing" 11 "LastSeen$Hearing" "isRoot" "[Z" ∈ lw_ok := lw_up_1 (List.mem_of_getElem? (i := 181) rfl) rfl
theorem wz_He_isLeanedOn : Cond.fieldLink "LastSeen$Hearing" 17 "LastSeen$Hearing" "isLeanedOn" "[Z" ∈ lw_ok := lw_up_1 (List.mem_of_getElem? (i := 182) rfl) rfl
theorem wz_He_roots : Cond.fieldLink "LastSeen$Hearing" 20 "LastSeen$Hearing" "roots" "[I" ∈ lw_ok := lw_up_1 (List.mem_of_getElem? (i := 183) rfl) rfl
theorem wz_He_names : Cond.fieldLink "LastSeen$Hearing" 24 "LastSeen$Hearing" "names" "LLastSeen$Names;" ∈ lw_ok := lw_up_1 (List.mem_of_getElem? (i := 178) rfl) rfl
theorem wz_He_words : Cond.fieldLink "LastSeen$Hearing" 28 "LastSeen$Hearing" "words" "LLastSeen$Words;" ∈ lw_ok := lw_up_1 (List.mem_of_getElem? (i := 179) rfl) rfl
theorem wz_He_walk : Cond.fieldLink "LastSeen$Hearing" 32 "LastSeen$Hearing" "walk" "LLastSeen$Walk;" ∈ lw_ok := lw_up_1 (List.mem_of_getElem? (i := 180) rfl) rfl
theorem wl_Ru_1 : Cond.methodLink "LastSeen$Rules" 1 Lib.objectInit ∈ lw_ok := lw_up_1 (List.mem_of_getElem? (i := 229) rfl) rfl
theorem wz_Ru_texts : Cond.fieldLink "LastSeen$Rules" 11 "LastSeen$Rules" "texts" "[B" ∈ lw_ok := lw_up_1 (List.mem_of_getElem? (i := 230) rfl) rfl
theorem wz_Ru_sizes : Cond.fieldLink "LastSeen$Rules" 15 "LastSeen$Rules" "sizes" "[I" ∈ lw_ok := lw_up_1 (List.mem_of_getElem? (i := 231) rfl) rfl
theorem wz_Ru_clauseCounts : Cond.fieldLink "LastSeen$Rules" 19 "LastSeen$Rules" "clauseCounts" "[I" ∈ lw_ok := lw_up_1 (List.mem_of_getElem? (i := 232) rfl) rfl
theorem wz_Ru_enteredAt : Cond.fieldLink "LastSeen$Rules" 22 "LastSeen$Rules" "enteredAt" "[I" ∈ lw_ok := lw_up_1 (List.mem_of_getElem? (i := 233) rfl) rfl
theorem wz_Ru_anyRow : Cond.fieldLink "LastSeen$Rules" 25 "LastSeen$Rules" "anyRow" "[Z" ∈ lw_ok := lw_up_2 (List.mem_of_getElem? (i := 0) rfl) rfl
theorem wz_Ru_thisRow : Cond.fieldLink "LastSeen$Rules" 29 "LastSeen$Rules" "thisRow" "[Z" ∈ lw_ok := lw_up_2 (List.mem_of_getElem? (i := 1) rfl) rfl
theorem wz_Ru_turned : Cond.fieldLink "LastSeen$Rules" 32 "LastSeen$Rules" "turned" "[Z" ∈ lw_ok := lw_up_2 (List.mem_of_getElem? (i := 2) rfl) rfl
theorem wl_Bn_1 : Cond.methodLink "LastSeen$Bones" 1 Lib.objectInit ∈ lw_ok := lw_up_2 (List.mem_of_getElem? (i := 35) rfl) rfl
theorem wz_Bn_sizes : Cond.fieldLink "LastSeen$Bones" 11 "LastSeen$Bones" "sizes" "[I" ∈ lw_ok := lw_up_2 (List.mem_of_getElem? (i := 36) rfl) rfl
theorem wz_Bn_counts : Cond.fieldLink "LastSeen$Bones" 15 "LastSeen$Bones" "counts" "[I" ∈ lw_ok := lw_up_2 (List.mem_of_getElem? (i := 37) rfl) rfl
theorem wz_Bn_most : Cond.fieldLink "LastSeen$Bones" 18 "LastSeen$Bones" "most" "I" ∈ lw_ok := lw_up_2 (List.mem_of_getElem? (i := 38) rfl) rfl
theorem wl_Gr_1 : Cond.methodLink "LastSeen$Graves" 1 Lib.objectInit ∈ lw_ok := lw_up_2 (List.mem_of_getElem? (i := 51) rfl) rfl
theorem wz_Gr_grave : Cond.fieldLink "LastSeen$Graves" 9 "LastSeen$Graves" "grave" "[I" ∈ lw_ok := lw_up_2 (List.mem_of_getElem? (i := 53) rfl) rfl
theorem wz_Gr_low : Cond.fieldLink "LastSeen$Graves" 13 "LastSeen$Graves" "low" "[I" ∈ lw_ok := lw_up_2 (List.mem_of_getElem? (i := 54) rfl) rfl
theorem wz_Gr_high : Cond.fieldLink "LastSeen$Graves" 16 "LastSeen$Graves" "high" "[I" ∈ lw_ok := lw_up_2 (List.mem_of_getElem? (i := 55) rfl) rfl
theorem wz_Gr_has : Cond.fieldLink "LastSeen$Graves" 19 "LastSeen$Graves" "has" "[I" ∈ lw_ok := lw_up_2 (List.mem_of_getElem? (i := 56) rfl) rfl
theorem wz_Gr_hasNot : Cond.fieldLink "LastSeen$Graves" 22 "LastSeen$Graves" "hasNot" "[I" ∈ lw_ok := lw_up_2 (List.mem_of_getElem? (i := 57) rfl) rfl
theorem wz_Gr_given : Cond.fieldLink "LastSeen$Graves" 25 "LastSeen$Graves" "given" "[I" ∈ lw_ok := lw_up_2 (List.mem_of_getElem? (i := 58) rfl) rfl
theorem wz_Gr_givenTurn : Cond.fieldLink "LastSeen$Graves" 28 "LastSeen$Graves" "givenTurn" "[I" ∈ lw_ok := lw_up_2 (List.mem_of_getElem? (i := 59) rfl) rfl
theorem wz_Gr_lostNames : Cond.fieldLink "LastSeen$Graves" 31 "LastSeen$Graves" "lostNames" "[I" ∈ lw_ok := lw_up_2 (List.mem_of_getElem? (i := 62) rfl) rfl
theorem wz_Gr_height : Cond.fieldLink "LastSeen$Graves" 34 "LastSeen$Graves" "height" "[I" ∈ lw_ok := lw_up_2 (List.mem_of_getElem? (i := 63) rfl) rfl
theorem wz_Gr_had : Cond.fieldLink "LastSeen$Graves" 37 "LastSeen$Graves" "had" "[I" ∈ lw_ok := lw_up_2 (List.mem_of_getElem? (i := 64) rfl) rfl
theorem wz_Gr_hadNot : Cond.fieldLink "LastSeen$Graves" 40 "LastSeen$Graves" "hadNot" "[I" ∈ lw_ok := lw_up_2 (List.mem_of_getElem? (i := 65) rfl) rfl
theorem wz_Gr_same : Cond.fieldLink "LastSeen$Graves" 43 "LastSeen$Graves" "same" "[I" ∈ lw_ok := lw_up_2 (List.mem_of_getElem? (i := 67) rfl) rfl
theorem wz_Gr_choices : Cond.fieldLink "LastSeen$Graves" 46 "LastSeen$Graves" "choices" "[I" ∈ lw_ok := lw_up_2 (List.mem_of_getElem? (i := 68) rfl) rfl
theorem wz_Gr_perSubset : Cond.fieldLink "LastSeen$Graves" 49 "LastSeen$Graves" "perSubset" "[I" ∈ lw_ok := lw_up_2 (List.mem_of_getElem? (i := 69) rfl) rfl
theorem wz_Gr_names : Cond.fieldLink "LastSeen$Graves" 52 "LastSeen$Graves" "names" "LLastSeen$Names;" ∈ lw_ok := lw_up_2 (List.mem_of_getElem? (i := 52) rfl) rfl
theorem wl_Md_1 : Cond.methodLink "LastSeenModel" 1 Lib.objectInit ∈ lw_ok := lw_up_5 (List.mem_of_getElem? (i := 204) rfl) rfl
theorem wz_Md_far : Cond.fieldLink "LastSeenModel" 7 "LastSeenModel" "far" "[I" ∈ lw_ok := lw_up_5 (List.mem_of_getElem? (i := 207) rfl) rfl
theorem wz_Md_entryIs : Cond.fieldLink "LastSeenModel" 13 "LastSeenModel" "entryIs" "[I" ∈ lw_ok := lw_up_5 (List.mem_of_getElem? (i := 209) rfl) rfl
theorem wz_Md_entryA : Cond.fieldLink "LastSeenModel" 16 "LastSeenModel" "entryA" "[I" ∈ lw_ok := lw_up_5 (List.mem_of_getElem? (i := 210) rfl) rfl
theorem wz_Md_entryB : Cond.fieldLink "LastSeenModel" 19 "LastSeenModel" "entryB" "[I" ∈ lw_ok := lw_up_5 (List.mem_of_getElem? (i := 211) rfl) rfl
theorem wz_Md_tape : Cond.fieldLink "LastSeenModel" 22 "LastSeenModel" "tape" "[I" ∈ lw_ok := lw_up_5 (List.mem_of_getElem? (i := 213) rfl) rfl
theorem wz_Md_key : Cond.fieldLink "LastSeenModel" 25 "LastSeenModel" "key" "[I" ∈ lw_ok := lw_up_5 (List.mem_of_getElem? (i := 214) rfl) rfl
theorem wz_Md_keySize : Cond.fieldLink "LastSeenModel" 28 "LastSeenModel" "keySize" "[I" ∈ lw_ok := lw_up_5 (List.mem_of_getElem? (i := 215) rfl) rfl
theorem wz_Md_spelled : Cond.fieldLink "LastSeenModel" 31 "LastSeenModel" "spelled" "[I" ∈ lw_ok := lw_up_5 (List.mem_of_getElem? (i := 218) rfl) rfl
theorem wz_Md_isLinked : Cond.fieldLink "LastSeenModel" 34 "LastSeenModel" "isLinked" "[Z" ∈ lw_ok := lw_up_5 (List.mem_of_getElem? (i := 223) rfl) rfl
theorem wz_Md_isParted : Cond.fieldLink "LastSeenModel" 38 "LastSeenModel" "isParted" "[Z" ∈ lw_ok := lw_up_5 (List.mem_of_getElem? (i := 224) rfl) rfl
theorem wz_Md_isGone : Cond.fieldLink "LastSeenModel" 41 "LastSeenModel" "isGone" "[Z" ∈ lw_ok := lw_up_5 (List.mem_of_getElem? (i := 225) rfl) rfl
theorem wz_Md_stands : Cond.fieldLink "LastSeenModel" 44 "LastSeenModel" "stands" "[Z" ∈ lw_ok := lw_up_5 (List.mem_of_getElem? (i := 226) rfl) rfl
theorem wz_Md_standsNow : Cond.fieldLink "LastSeenModel" 47 "LastSeenModel" "standsNow" "[Z" ∈ lw_ok := lw_up_5 (List.mem_of_getElem? (i := 227) rfl) rfl
theorem wz_Md_person : Cond.fieldLink "LastSeenModel" 50 "LastSeenModel" "person" "[I" ∈ lw_ok := lw_up_5 (List.mem_of_getElem? (i := 228) rfl) rfl
theorem wz_Md_steps : Cond.fieldLink "LastSeenModel" 53 "LastSeenModel" "steps" "[I" ∈ lw_ok := lw_up_5 (List.mem_of_getElem? (i := 229) rfl) rfl
theorem wz_Md_way : Cond.fieldLink "LastSeenModel" 56 "LastSeenModel" "way" "[I" ∈ lw_ok := lw_up_5 (List.mem_of_getElem? (i := 230) rfl) rfl
theorem wz_Md_witness : Cond.fieldLink "LastSeenModel" 59 "LastSeenModel" "witness" "[I" ∈ lw_ok := lw_up_5 (List.mem_of_getElem? (i := 231) rfl) rfl
theorem wz_Md_ofName : Cond.fieldLink "LastSeenModel" 62 "LastSeenModel" "ofName" "[I" ∈ lw_ok := lw_up_5 (List.mem_of_getElem? (i := 232) rfl) rfl
theorem wz_Md_places : Cond.fieldLink "LastSeenModel" 65 "LastSeenModel" "places" "[I" ∈ lw_ok := lw_up_5 (List.mem_of_getElem? (i := 233) rfl) rfl
theorem wz_Md_first : Cond.fieldLink "LastSeenModel" 68 "LastSeenModel" "first" "[I" ∈ lw_ok := lw_up_5 (List.mem_of_getElem? (i := 234) rfl) rfl
theorem wz_Md_last : Cond.fieldLink "LastSeenModel" 71 "LastSeenModel" "last" "[I" ∈ lw_ok := lw_up_5 (List.mem_of_getElem? (i := 235) rfl) rfl
theorem wz_Md_heardOf : Cond.fieldLink "LastSeenModel" 74 "LastSeenModel" "heardOf" "[I" ∈ lw_ok := lw_up_5 (List.mem_of_getElem? (i := 236) rfl) rfl
theorem wz_Md_rootOf : Cond.fieldLink "LastSeenModel" 77 "LastSeenModel" "rootOf" "[I" ∈ lw_ok := lw_up_5 (List.mem_of_getElem? (i := 237) rfl) rfl
theorem wz_Md_root : Cond.fieldLink "LastSeenModel" 80 "LastSeenModel" "root" "[I" ∈ lw_ok := lw_up_5 (List.mem_of_getElem? (i := 239) rfl) rfl
theorem wk_Md_83 : Cond.constant "LastSeenModel" 83 (46080) ∈ lw_ok := lw_up_5 (List.mem_of_getElem? (i := 205) rfl) rfl
theorem wz_Md_earliest : Cond.fieldLink "LastSeenModel" 84 "LastSeenModel" "earliest" "[I" ∈ lw_ok := lw_up_6 (List.mem_of_getElem? (i := 1) rfl) rfl
theorem wz_Md_itemPlaces : Cond.fieldLink "LastSeenModel" 87 "LastSeenModel" "itemPlaces" "[I" ∈ lw_ok := lw_up_6 (List.mem_of_getElem? (i := 2) rfl) rfl
theorem wz_Md_itemFirst : Cond.fieldLink "LastSeenModel" 90 "LastSeenModel" "itemFirst" "[I" ∈ lw_ok := lw_up_6 (List.mem_of_getElem? (i := 3) rfl) rfl
theorem wz_Md_itemLast : Cond.fieldLink "LastSeenModel" 93 "LastSeenModel" "itemLast" "[I" ∈ lw_ok := lw_up_6 (List.mem_of_getElem? (i := 4) rfl) rfl
theorem wz_Md_code : Cond.fieldLink "LastSeenModel" 96 "LastSeenModel" "code" "[I" ∈ lw_ok := lw_up_6 (List.mem_of_getElem? (i := 6) rfl) rfl
theorem wz_Md_clauseEnd : Cond.fieldLink "LastSeenModel" 99 "LastSeenModel" "clauseEnd" "[I" ∈ lw_ok := lw_up_6 (List.mem_of_getElem? (i := 7) rfl) rfl
theorem wz_Md_clauseDigit : Cond.fieldLink "LastSeenModel" 102 "LastSeenModel" "clauseDigit" "[I" ∈ lw_ok := lw_up_6 (List.mem_of_getElem? (i := 8) rfl) rfl
theorem wz_Md_clauses : Cond.fieldLink "LastSeenModel" 105 "LastSeenModel" "clauses" "[I" ∈ lw_ok := lw_up_6 (List.mem_of_getElem? (i := 9) rfl) rfl
theorem wz_Md_elseDigit : Cond.fieldLink "LastSeenModel" 108 "LastSeenModel" "elseDigit" "[I" ∈ lw_ok := lw_up_6 (List.mem_of_getElem? (i := 10) rfl) rfl
theorem wz_Md_stack : Cond.fieldLink "LastSeenModel" 111 "LastSeenModel" "stack" "[I" ∈ lw_ok := lw_up_6 (List.mem_of_getElem? (i := 11) rfl) rfl
theorem wz_Md_fact : Cond.fieldLink "LastSeenModel" 114 "LastSeenModel" "fact" "[I" ∈ lw_ok := lw_up_6 (List.mem_of_getElem? (i := 17) rfl) rfl
theorem wz_Md_foundName : Cond.fieldLink "LastSeenModel" 117 "LastSeenModel" "foundName" "[I" ∈ lw_ok := lw_up_6 (List.mem_of_getElem? (i := 18) rfl) rfl
theorem wz_Md_foundBy : Cond.fieldLink "LastSeenModel" 120 "LastSeenModel" "foundBy" "[I" ∈ lw_ok := lw_up_6 (List.mem_of_getElem? (i := 19) rfl) rfl
theorem wz_Md_foundDigit : Cond.fieldLink "LastSeenModel" 123 "LastSeenModel" "foundDigit" "[I" ∈ lw_ok := lw_up_6 (List.mem_of_getElem? (i := 20) rfl) rfl
theorem wz_Md_boneMany : Cond.fieldLink "LastSeenModel" 126 "LastSeenModel" "boneMany" "[I" ∈ lw_ok := lw_up_6 (List.mem_of_getElem? (i := 22) rfl) rfl
theorem wz_Md_boneSize : Cond.fieldLink "LastSeenModel" 129 "LastSeenModel" "boneSize" "[I" ∈ lw_ok := lw_up_6 (List.mem_of_getElem? (i := 23) rfl) rfl
theorem wz_Md_bound : Cond.fieldLink "LastSeenModel" 132 "LastSeenModel" "bound" "I" ∈ lw_ok := lw_up_6 (List.mem_of_getElem? (i := 24) rfl) rfl
theorem wz_Md_setGrave : Cond.fieldLink "LastSeenModel" 136 "LastSeenModel" "setGrave" "[I" ∈ lw_ok := lw_up_6 (List.mem_of_getElem? (i := 25) rfl) rfl
theorem wz_Md_low : Cond.fieldLink "LastSeenModel" 139 "LastSeenModel" "low" "[I" ∈ lw_ok := lw_up_6 (List.mem_of_getElem? (i := 26) rfl) rfl
theorem wz_Md_high : Cond.fieldLink "LastSeenModel" 142 "LastSeenModel" "high" "[I" ∈ lw_ok := lw_up_6 (List.mem_of_getElem? (i := 27) rfl) rfl
theorem wz_Md_has : Cond.fieldLink "LastSeenModel" 145 "LastSeenModel" "has" "[I" ∈ lw_ok := lw_up_6 (List.mem_of_getElem? (i := 28) rfl) rfl
theorem wz_Md_hasNot : Cond.fieldLink "LastSeenModel" 148 "LastSeenModel" "hasNot" "[I" ∈ lw_ok := lw_up_6 (List.mem_of_getElem? (i := 29) rfl) rfl
theorem wz_Md_given : Cond.fieldLink "LastSeenModel" 151 "LastSeenModel" "given" "[I" ∈ lw_ok := lw_up_6 (List.mem_of_getElem? (i := 30) rfl) rfl
theorem wz_Md_givenAt : Cond.fieldLink "LastSeenModel" 154 "LastSeenModel" "givenAt" "[I" ∈ lw_ok := lw_up_6 (List.mem_of_getElem? (i := 31) rfl) rfl
theorem wz_Md_missing : Cond.fieldLink "LastSeenModel" 157 "LastSeenModel" "missing" "[I" ∈ lw_ok := lw_up_6 (List.mem_of_getElem? (i := 32) rfl) rfl
theorem wz_Md_height : Cond.fieldLink "LastSeenModel" 160 "LastSeenModel" "height" "[I" ∈ lw_ok := lw_up_6 (List.mem_of_getElem? (i := 33) rfl) rfl
theorem wz_Md_had : Cond.fieldLink "LastSeenModel" 163 "LastSeenModel" "had" "[I" ∈ lw_ok := lw_up_6 (List.mem_of_getElem? (i := 34) rfl) rfl
theorem wz_Md_hadNot : Cond.fieldLink "LastSeenModel" 166 "LastSeenModel" "hadNot" "[I" ∈ lw_ok := lw_up_6 (List.mem_of_getElem? (i := 35) rfl) rfl
theorem wz_Md_first1 : Cond.fieldLink "LastSeenModel" 169 "LastSeenModel" "first1" "[I" ∈ lw_ok := lw_up_6 (List.mem_of_getElem? (i := 39) rfl) rfl
theorem wz_Md_ways : Cond.fieldLink "LastSeenModel" 172 "LastSeenModel" "ways" "[I" ∈ lw_ok := lw_up_6 (List.mem_of_getElem? (i := 40) rfl) rfl
theorem wz_Md_waysBefore : Cond.fieldLink "LastSeenModel" 175 "LastSeenModel" "waysBefore" "[I" ∈ lw_ok := lw_up_6 (List.mem_of_getElem? (i := 41) rfl) rfl
def u_of (l : List Nat) (k : Nat) : Nat := l.getD k 0
def df_LS : List Value := [.null, .null, .null, .null, .null, .null, .null, .null, .null, .null, .null, .null, vI 0, vI 0]
theorem dfo_LS : ∀ j, j < 14 → defaultValue (t_LS j) = vp_V df_LS j := by
  intro j hj
  match j, hj with
  | 0, _ => rfl
  | 1, _ => rfl
  | 2, _ => rfl
  | 3, _ => rfl
  | 4, _ => rfl
  | 5, _ => rfl
  | 6, _ => rfl
  | 7, _ => rfl
  | 8, _ => rfl
  | 9, _ => rfl
  | 10, _ => rfl
  | 11, _ => rfl
  | 12, _ => rfl
  | 13, _ => rfl
  | q + 14, h => exact absurd h (by omega)
def df_La : List Value := [.null, vI 0]
theorem dfo_La : ∀ j, j < 2 → defaultValue (t_La j) = vp_V df_La j := by
  intro j hj
  match j, hj with
  | 0, _ => rfl
  | 1, _ => rfl
  | q + 2, h => exact absurd h (by omega)
def df_Ta : List Value := [.null, vI 0]
theorem dfo_Ta : ∀ j, j < 2 → defaultValue (t_Ta j) = vp_V df_Ta j := by
  intro j hj
  match j, hj with
  | 0, _ => rfl
  | 1, _ => rfl
  | q + 2, h => exact absurd h (by omega)
def df_Na : List Value := [.null, .null, .null, vI 0, .null, .null, .null, .null, vI 0, .null, .null, vI 0, .null, .null, .null]
theorem dfo_Na : ∀ j, j < 15 → defaultValue (t_Na j) = vp_V df_Na j := by
  intro j hj
  match j, hj with
  | 0, _ => rfl
  | 1, _ => rfl
  | 2, _ => rfl
  | 3, _ => rfl
  | 4, _ => rfl
  | 5, _ => rfl
  | 6, _ => rfl
  | 7, _ => rfl
  | 8, _ => rfl
  | 9, _ => rfl
  | 10, _ => rfl
  | 11, _ => rfl
  | 12, _ => rfl
  | 13, _ => rfl
  | 14, _ => rfl
  | q + 15, h => exact absurd h (by omega)
def df_Wo : List Value := [.null, .null, .null, .null, .null, .null, .null, .null, .null, vI 0, .null]
theorem dfo_Wo : ∀ j, j < 11 → defaultValue (t_Wo j) = vp_V df_Wo j := by
  intro j hj
  match j, hj with
  | 0, _ => rfl
  | 1, _ => rfl
  | 2, _ => rfl
  | 3, _ => rfl
  | 4, _ => rfl
  | 5, _ => rfl
  | 6, _ => rfl
  | 7, _ => rfl
  | 8, _ => rfl
  | 9, _ => rfl
  | 10, _ => rfl
  | q + 11, h => exact absurd h (by omega)
def df_Wa : List Value := [.null, .null, .null, .null, vI 0, .null, .null]
theorem dfo_Wa : ∀ j, j < 7 → defaultValue (t_Wa j) = vp_V df_Wa j := by
  intro j hj
  match j, hj with
  | 0, _ => rfl
  | 1, _ => rfl
  | 2, _ => rfl
  | 3, _ => rfl
  | 4, _ => rfl
  | 5, _ => rfl
  | 6, _ => rfl
  | q + 7, h => exact absurd h (by omega)
def df_He : List Value := [.null, .null, .null, .null, .null, .null, vI 0, vI 0, vI 0, vI 0, vI 0, vI 0, vI 0, vI 0, vI 0]
theorem dfo_He : ∀ j, j < 15 → defaultValue (t_He j) = vp_V df_He j := by
  intro j hj
  match j, hj with
  | 0, _ => rfl
  | 1, _ => rfl
  | 2, _ => rfl
  | 3, _ => rfl
  | 4, _ => rfl
  | 5, _ => rfl
  | 6, _ => rfl
  | 7, _ => rfl
  | 8, _ => rfl
  | 9, _ => rfl
  | 10, _ => rfl
  | 11, _ => rfl
  | 12, _ => rfl
  | 13, _ => rfl
  | 14, _ => rfl
  | q + 15, h => exact absurd h (by omega)
def df_Ru : List Value := [.null, .null, .null, .null, vI 0, vI 0, vI 0, vI 0, vI 0, vI 0, .null, .null, .null]
theorem dfo_Ru : ∀ j, j < 13 → defaultValue (t_Ru j) = vp_V df_Ru j := by
  intro j hj
  match j, hj with
  | 0, _ => rfl
  | 1, _ => rfl
  | 2, _ => rfl
  | 3, _ => rfl
  | 4, _ => rfl
  | 5, _ => rfl
  | 6, _ => rfl
  | 7, _ => rfl
  | 8, _ => rfl
  | 9, _ => rfl
  | 10, _ => rfl
  | 11, _ => rfl
  | 12, _ => rfl
  | q + 13, h => exact absurd h (by omega)
def df_Bn : List Value := [.null, .null, vI 0]
theorem dfo_Bn : ∀ j, j < 3 → defaultValue (t_Bn j) = vp_V df_Bn j := by
  intro j hj
  match j, hj with
  | 0, _ => rfl
  | 1, _ => rfl
  | 2, _ => rfl
  | q + 3, h => exact absurd h (by omega)
def df_Gr : List Value := [.null, .null, .null, .null, .null, .null, .null, .null, vI 0, vI 0, .null, .null, .null, .null, vI 0, .null, .null, .null]
theorem dfo_Gr : ∀ j, j < 18 → defaultValue (t_Gr j) = vp_V df_Gr j := by
  intro j hj
  match j, hj with
  | 0, _ => rfl
  | 1, _ => rfl
  | 2, _ => rfl
  | 3, _ => rfl
  | 4, _ => rfl
  | 5, _ => rfl
  | 6, _ => rfl
  | 7, _ => rfl
  | 8, _ => rfl
  | 9, _ => rfl
  | 10, _ => rfl
  | 11, _ => rfl
  | 12, _ => rfl
  | 13, _ => rfl
  | 14, _ => rfl
  | 15, _ => rfl
  | 16, _ => rfl
  | 17, _ => rfl
  | q + 18, h => exact absurd h (by omega)
def df_Md : List Value := [.null, vI 0, .null, .null, .null, vI 0, .null, .null, .null, vI 0, vI 0, .null, vI 0, vI 0, vI 0, vI 0, .null, .null, .null, .null, .null, .null, .null, .null, .null, .null, .null, .null, .null, .null, .null, vI 0, .null, vI 0, .null, .null, .null, .null, vI 0, .null, .null, .null, .null, .null, .null, vI 0, vI 0, vI 0, vI 0, vI 0, .null, .null, .null, .null, vI 0, .null, .null, vI 0, .null, .null, .null, .null, .null, .null, .null, .null, .null, .null, .null, vI 0, vI 0, vI 0, .null, .null, .null]
theorem dfo_Md : ∀ j, j < 75 → defaultValue (t_Md j) = vp_V df_Md j := by
  intro j hj
  match j, hj with
  | 0, _ => rfl
  | 1, _ => rfl
  | 2, _ => rfl
  | 3, _ => rfl
  | 4, _ => rfl
  | 5, _ => rfl
  | 6, _ => rfl
  | 7, _ => rfl
  | 8, _ => rfl
  | 9, _ => rfl
  | 10, _ => rfl
  | 11, _ => rfl
  | 12, _ => rfl
  | 13, _ => rfl
  | 14, _ => rfl
  | 15, _ => rfl
  | 16, _ => rfl
  | 17, _ => rfl
  | 18, _ => rfl
  | 19, _ => rfl
  | 20, _ => rfl
  | 21, _ => rfl
  | 22, _ => rfl
  | 23, _ => rfl
  | 24, _ => rfl
  | 25, _ => rfl
  | 26, _ => rfl
  | 27, _ => rfl
  | 28, _ => rfl
  | 29, _ => rfl
  | 30, _ => rfl
  | 31, _ => rfl
  | 32, _ => rfl
  | 33, _ => rfl
  | 34, _ => rfl
  | 35, _ => rfl
  | 36, _ => rfl
  | 37, _ => rfl
  | 38, _ => rfl
  | 39, _ => rfl
  | 40, _ => rfl
  | 41, _ => rfl
  | 42, _ => rfl
  | 43, _ => rfl
  | 44, _ => rfl
  | 45, _ => rfl
  | 46, _ => rfl
  | 47, _ => rfl
  | 48, _ => rfl
  | 49, _ => rfl
  | 50, _ => rfl
  | 51, _ => rfl
  | 52, _ => rfl
  | 53, _ => rfl
  | 54, _ => rfl
  | 55, _ => rfl
  | 56, _ => rfl
  | 57, _ => rfl
  | 58, _ => rfl
  | 59, _ => rfl
  | 60, _ => rfl
  | 61, _ => rfl
  | 62, _ => rfl
  | 63, _ => rfl
  | 64, _ => rfl
  | 65, _ => rfl
  | 66, _ => rfl
  | 67, _ => rfl
  | 68, _ => rfl
  | 69, _ => rfl
  | 70, _ => rfl
  | 71, _ => rfl
  | 72, _ => rfl
  | 73, _ => rfl
  | 74, _ => rfl
  | q + 75, h => exact absurd h (by omega)
theorem d_La_init_0 : decode prog_5_method_1_code 0 = .ok (.aload_n 0, 1) := by decide +kernel
theorem d_La_init_1 : decode prog_5_method_1_code 1 = .ok (.invokespecial 1, 3) := by decide +kernel
theorem d_La_init_4 : decode prog_5_method_1_code 4 = .ok (.aload_n 0, 1) := by decide +kernel
theorem d_La_init_5 : decode prog_5_method_1_code 5 = .ok (.bipush 100, 2) := by decide +kernel
theorem d_La_init_7 : decode prog_5_method_1_code 7 = .ok (.newarray .int, 2) := by decide +kernel
theorem d_La_init_9 : decode prog_5_method_1_code 9 = .ok (.putfield 9, 3) := by decide +kernel
theorem d_La_init_12 : decode prog_5_method_1_code 12 = .ok (.iconst 0, 1) := by decide +kernel
theorem d_La_init_13 : decode prog_5_method_1_code 13 = .ok (.istore_n 1, 1) := by decide +kernel
theorem d_La_init_14 : decode prog_5_method_1_code 14 = .ok (.iload_n 1, 1) := by decide +kernel
theorem d_La_init_15 : decode prog_5_method_1_code 15 = .ok (.bipush 10, 2) := by decide +kernel
theorem d_La_init_17 : decode prog_5_method_1_code 17 = .ok (.if_icmp .ge 45, 3) := by decide +kernel
theorem d_La_init_20 : decode prog_5_method_1_code 20 = .ok (.iconst 0, 1) := by decide +kernel
theorem d_La_init_21 : decode prog_5_method_1_code 21 = .ok (.istore_n 2, 1) := by decide +kernel
theorem d_La_init_22 : decode prog_5_method_1_code 22 = .ok (.iload_n 2, 1) := by decide +kernel
theorem d_La_init_23 : decode prog_5_method_1_code 23 = .ok (.bipush 10, 2) := by decide +kernel
theorem d_La_init_25 : decode prog_5_method_1_code 25 = .ok (.if_icmp .ge 31, 3) := by decide +kernel
theorem d_La_init_28 : decode prog_5_method_1_code 28 = .ok (.aload_n 0, 1) := by decide +kernel
theorem d_La_init_29 : decode prog_5_method_1_code 29 = .ok (.getfield 9, 3) := by decide +kernel
theorem d_La_init_32 : decode prog_5_method_1_code 32 = .ok (.iload_n 1, 1) := by decide +kernel
theorem d_La_init_33 : decode prog_5_method_1_code 33 = .ok (.bipush 10, 2) := by decide +kernel
theorem d_La_init_35 : decode prog_5_method_1_code 35 = .ok (.imul, 1) := by decide +kernel
theorem d_La_init_36 : decode prog_5_method_1_code 36 = .ok (.iload_n 2, 1) := by decide +kernel
theorem d_La_init_37 : decode prog_5_method_1_code 37 = .ok (.iadd, 1) := by decide +kernel
theorem d_La_init_38 : decode prog_5_method_1_code 38 = .ok (.iload_n 1, 1) := by decide +kernel
theorem d_La_init_39 : decode prog_5_method_1_code 39 = .ok (.iload_n 2, 1) := by decide +kernel
theorem d_La_init_40 : decode prog_5_method_1_code 40 = .ok (.if_icmp .ne 7, 3) := by decide +kernel
theorem d_La_init_43 : decode prog_5_method_1_code 43 = .ok (.iconst 0, 1) := by decide +kernel
theorem d_La_init_44 : decode prog_5_method_1_code 44 = .ok (.goto 5, 3) := by decide +kernel
theorem d_La_init_47 : decode prog_5_method_1_code 47 = .ok (.ldc 13, 2) := by decide +kernel
theorem d_La_init_49 : decode prog_5_method_1_code 49 = .ok (.iastore, 1) := by decide +kernel
theorem d_La_init_50 : decode prog_5_method_1_code 50 = .ok (.iinc 2 1, 3) := by decide +kernel
theorem d_La_init_53 : decode prog_5_method_1_code 53 = .ok (.goto (-31), 3) := by decide +kernel
theorem d_La_init_56 : decode prog_5_method_1_code 56 = .ok (.iinc 1 1, 3) := by decide +kernel
theorem d_La_init_59 : decode prog_5_method_1_code 59 = .ok (.goto (-45), 3) := by decide +kernel
theorem d_La_init_62 : decode prog_5_method_1_code 62 = .ok (.return_, 1) := by decide +kernel
def w_La (G : GE) (h0 : Nat) (f : Int → Int) (u : Nat → Nat) : va_W := (h0, .inr (1, [.ref (u 0), vI 0])) :: [((u 0), .inl (G.2.2 0, 100, .inl (fun j : Nat => iI (f (j : Int)))))]
theorem d_Ta_init_0 : decode prog_8_method_1_code 0 = .ok (.aload_n 0, 1) := by decide +kernel
theorem d_Ta_init_1 : decode prog_8_method_1_code 1 = .ok (.invokespecial 1, 3) := by decide +kernel
theorem d_Ta_init_4 : decode prog_8_method_1_code 4 = .ok (.aload_n 0, 1) := by decide +kernel
theorem d_Ta_init_5 : decode prog_8_method_1_code 5 = .ok (.sipush 200, 3) := by decide +kernel
theorem d_Ta_init_8 : decode prog_8_method_1_code 8 = .ok (.newarray .byte, 2) := by decide +kernel
theorem d_Ta_init_10 : decode prog_8_method_1_code 10 = .ok (.putfield 9, 3) := by decide +kernel
theorem d_Ta_init_13 : decode prog_8_method_1_code 13 = .ok (.return_, 1) := by decide +kernel
def w_Ta (G : GE) (h0 : Nat) (u : Nat → Nat) : va_W := (h0, .inr (2, [.ref (u 0), vI 0])) :: [((u 0), .inl (G.2.2 1, 200, .inl (fun _ => 0)))]
theorem d_Na_init_0 : decode prog_6_method_1_code 0 = .ok (.aload_n 0, 1) := by decide +kernel
theorem d_Na_init_1 : decode prog_6_method_1_code 1 = .ok (.invokespecial 3, 3) := by decide +kernel
theorem d_Na_init_4 : decode prog_6_method_1_code 4 = .ok (.aload_n 0, 1) := by decide +kernel
theorem d_Na_init_5 : decode prog_6_method_1_code 5 = .ok (.sipush 240, 3) := by decide +kernel
theorem d_Na_init_8 : decode prog_6_method_1_code 8 = .ok (.newarray .int, 2) := by decide +kernel
theorem d_Na_init_10 : decode prog_6_method_1_code 10 = .ok (.putfield 11, 3) := by decide +kernel
theorem d_Na_init_13 : decode prog_6_method_1_code 13 = .ok (.aload_n 0, 1) := by decide +kernel
theorem d_Na_init_14 : decode prog_6_method_1_code 14 = .ok (.bipush 20, 2) := by decide +kernel
theorem d_Na_init_16 : decode prog_6_method_1_code 16 = .ok (.newarray .int, 2) := by decide +kernel
theorem d_Na_init_18 : decode prog_6_method_1_code 18 = .ok (.putfield 15, 3) := by decide +kernel
theorem d_Na_init_21 : decode prog_6_method_1_code 21 = .ok (.aload_n 0, 1) := by decide +kernel
theorem d_Na_init_22 : decode prog_6_method_1_code 22 = .ok (.bipush 20, 2) := by decide +kernel
theorem d_Na_init_24 : decode prog_6_method_1_code 24 = .ok (.newarray .int, 2) := by decide +kernel
theorem d_Na_init_26 : decode prog_6_method_1_code 26 = .ok (.putfield 18, 3) := by decide +kernel
theorem d_Na_init_29 : decode prog_6_method_1_code 29 = .ok (.aload_n 0, 1) := by decide +kernel
theorem d_Na_init_30 : decode prog_6_method_1_code 30 = .ok (.sipush 200, 3) := by decide +kernel
theorem d_Na_init_33 : decode prog_6_method_1_code 33 = .ok (.newarray .int, 2) := by decide +kernel
theorem d_Na_init_35 : decode prog_6_method_1_code 35 = .ok (.putfield 21, 3) := by decide +kernel
theorem d_Na_init_38 : decode prog_6_method_1_code 38 = .ok (.aload_n 0, 1) := by decide +kernel
theorem d_Na_init_39 : decode prog_6_method_1_code 39 = .ok (.sipush 200, 3) := by decide +kernel
theorem d_Na_init_42 : decode prog_6_method_1_code 42 = .ok (.newarray .int, 2) := by decide +kernel
theorem d_Na_init_44 : decode prog_6_method_1_code 44 = .ok (.putfield 24, 3) := by decide +kernel
theorem d_Na_init_47 : decode prog_6_method_1_code 47 = .ok (.aload_n 0, 1) := by decide +kernel
theorem d_Na_init_48 : decode prog_6_method_1_code 48 = .ok (.sipush 200, 3) := by decide +kernel
theorem d_Na_init_51 : decode prog_6_method_1_code 51 = .ok (.newarray .int, 2) := by decide +kernel
theorem d_Na_init_53 : decode prog_6_method_1_code 53 = .ok (.putfield 27, 3) := by decide +kernel
theorem d_Na_init_56 : decode prog_6_method_1_code 56 = .ok (.aload_n 0, 1) := by decide +kernel
theorem d_Na_init_57 : decode prog_6_method_1_code 57 = .ok (.sipush 200, 3) := by decide +kernel
theorem d_Na_init_60 : decode prog_6_method_1_code 60 = .ok (.newarray .int, 2) := by decide +kernel
theorem d_Na_init_62 : decode prog_6_method_1_code 62 = .ok (.putfield 30, 3) := by decide +kernel
theorem d_Na_init_65 : decode prog_6_method_1_code 65 = .ok (.aload_n 0, 1) := by decide +kernel
theorem d_Na_init_66 : decode prog_6_method_1_code 66 = .ok (.sipush 400, 3) := by decide +kernel
theorem d_Na_init_69 : decode prog_6_method_1_code 69 = .ok (.newarray .int, 2) := by decide +kernel
theorem d_Na_init_71 : decode prog_6_method_1_code 71 = .ok (.putfield 33, 3) := by decide +kernel
theorem d_Na_init_74 : decode prog_6_method_1_code 74 = .ok (.aload_n 0, 1) := by decide +kernel
theorem d_Na_init_75 : decode prog_6_method_1_code 75 = .ok (.bipush 20, 2) := by decide +kernel
theorem d_Na_init_77 : decode prog_6_method_1_code 77 = .ok (.newarray .int, 2) := by decide +kernel
theorem d_Na_init_79 : decode prog_6_method_1_code 79 = .ok (.putfield 36, 3) := by decide +kernel
theorem d_Na_init_82 : decode prog_6_method_1_code 82 = .ok (.aload_n 0, 1) := by decide +kernel
theorem d_Na_init_83 : decode prog_6_method_1_code 83 = .ok (.bipush 20, 2) := by decide +kernel
theorem d_Na_init_85 : decode prog_6_method_1_code 85 = .ok (.newarray .int, 2) := by decide +kernel
theorem d_Na_init_87 : decode prog_6_method_1_code 87 = .ok (.putfield 39, 3) := by decide +kernel
theorem d_Na_init_90 : decode prog_6_method_1_code 90 = .ok (.aload_n 0, 1) := by decide +kernel
theorem d_Na_init_91 : decode prog_6_method_1_code 91 = .ok (.bipush 20, 2) := by decide +kernel
theorem d_Na_init_93 : decode prog_6_method_1_code 93 = .ok (.newarray .int, 2) := by decide +kernel
theorem d_Na_init_95 : decode prog_6_method_1_code 95 = .ok (.putfield 42, 3) := by decide +kernel
theorem d_Na_init_98 : decode prog_6_method_1_code 98 = .ok (.aload_n 0, 1) := by decide +kernel
theorem d_Na_init_99 : decode prog_6_method_1_code 99 = .ok (.bipush 12, 2) := by decide +kernel
theorem d_Na_init_101 : decode prog_6_method_1_code 101 = .ok (.newarray .int, 2) := by decide +kernel
theorem d_Na_init_103 : decode prog_6_method_1_code 103 = .ok (.putfield 45, 3) := by decide +kernel
theorem d_Na_init_106 : decode prog_6_method_1_code 106 = .ok (.return_, 1) := by decide +kernel
def w_Na (G : GE) (h0 : Nat) (u : Nat → Nat) : va_W := (h0, .inr (3, [.ref (u 0), .ref (u 1), .ref (u 2), vI 0, .ref (u 3), .ref (u 4), .ref (u 5), .ref (u 6), vI 0, .ref (u 7), .ref (u 8), vI 0, .ref (u 9), .ref (u 10), .ref (u 11)])) :: [((u 0), .inl (G.2.2 0, 240, .inl (fun _ => 0))), ((u 1), .inl (G.2.2 0, 20, .inl (fun _ => 0))), ((u 2), .inl (G.2.2 0, 20, .inl (fun _ => 0))), ((u 3), .inl (G.2.2 0, 200, .inl (fun _ => 0))), ((u 4), .inl (G.2.2 0, 200, .inl (fun _ => 0))), ((u 5), .inl (G.2.2 0, 200, .inl (fun _ => 0))), ((u 6), .inl (G.2.2 0, 200, .inl (fun _ => 0))), ((u 7), .inl (G.2.2 0, 400, .inl (fun _ => 0))), ((u 8), .inl (G.2.2 0, 20, .inl (fun _ => 0))), ((u 9), .inl (G.2.2 0, 20, .inl (fun _ => 0))), ((u 10), .inl (G.2.2 0, 20, .inl (fun _ => 0))), ((u 11), .inl (G.2.2 0, 12, .inl (fun _ => 0)))]
theorem d_Wo_init_0 : decode prog_10_method_1_code 0 = .ok (.aload_n 0, 1) := by decide +kernel
theorem d_Wo_init_1 : decode prog_10_method_1_code 1 = .ok (.invokespecial 3, 3) := by decide +kernel
theorem d_Wo_init_4 : decode prog_10_method_1_code 4 = .ok (.aload_n 0, 1) := by decide +kernel
theorem d_Wo_init_5 : decode prog_10_method_1_code 5 = .ok (.bipush 40, 2) := by decide +kernel
theorem d_Wo_init_7 : decode prog_10_method_1_code 7 = .ok (.newarray .int, 2) := by decide +kernel
theorem d_Wo_init_9 : decode prog_10_method_1_code 9 = .ok (.putfield 11, 3) := by decide +kernel
theorem d_Wo_init_12 : decode prog_10_method_1_code 12 = .ok (.aload_n 0, 1) := by decide +kernel
theorem d_Wo_init_13 : decode prog_10_method_1_code 13 = .ok (.bipush 40, 2) := by decide +kernel
theorem d_Wo_init_15 : decode prog_10_method_1_code 15 = .ok (.newarray .int, 2) := by decide +kernel
theorem d_Wo_init_17 : decode prog_10_method_1_code 17 = .ok (.putfield 15, 3) := by decide +kernel
theorem d_Wo_init_20 : decode prog_10_method_1_code 20 = .ok (.aload_n 0, 1) := by decide +kernel
theorem d_Wo_init_21 : decode prog_10_method_1_code 21 = .ok (.bipush 40, 2) := by decide +kernel
theorem d_Wo_init_23 : decode prog_10_method_1_code 23 = .ok (.newarray .int, 2) := by decide +kernel
theorem d_Wo_init_25 : decode prog_10_method_1_code 25 = .ok (.putfield 18, 3) := by decide +kernel
theorem d_Wo_init_28 : decode prog_10_method_1_code 28 = .ok (.aload_n 0, 1) := by decide +kernel
theorem d_Wo_init_29 : decode prog_10_method_1_code 29 = .ok (.bipush 40, 2) := by decide +kernel
theorem d_Wo_init_31 : decode prog_10_method_1_code 31 = .ok (.newarray .int, 2) := by decide +kernel
theorem d_Wo_init_33 : decode prog_10_method_1_code 33 = .ok (.putfield 21, 3) := by decide +kernel
theorem d_Wo_init_36 : decode prog_10_method_1_code 36 = .ok (.aload_n 0, 1) := by decide +kernel
theorem d_Wo_init_37 : decode prog_10_method_1_code 37 = .ok (.bipush 40, 2) := by decide +kernel
theorem d_Wo_init_39 : decode prog_10_method_1_code 39 = .ok (.newarray .int, 2) := by decide +kernel
theorem d_Wo_init_41 : decode prog_10_method_1_code 41 = .ok (.putfield 24, 3) := by decide +kernel
theorem d_Wo_init_44 : decode prog_10_method_1_code 44 = .ok (.aload_n 0, 1) := by decide +kernel
theorem d_Wo_init_45 : decode prog_10_method_1_code 45 = .ok (.bipush 40, 2) := by decide +kernel
theorem d_Wo_init_47 : decode prog_10_method_1_code 47 = .ok (.newarray .int, 2) := by decide +kernel
theorem d_Wo_init_49 : decode prog_10_method_1_code 49 = .ok (.putfield 27, 3) := by decide +kernel
theorem d_Wo_init_52 : decode prog_10_method_1_code 52 = .ok (.aload_n 0, 1) := by decide +kernel
theorem d_Wo_init_53 : decode prog_10_method_1_code 53 = .ok (.bipush 40, 2) := by decide +kernel
theorem d_Wo_init_55 : decode prog_10_method_1_code 55 = .ok (.newarray .int, 2) := by decide +kernel
theorem d_Wo_init_57 : decode prog_10_method_1_code 57 = .ok (.putfield 30, 3) := by decide +kernel
theorem d_Wo_init_60 : decode prog_10_method_1_code 60 = .ok (.aload_n 0, 1) := by decide +kernel
theorem d_Wo_init_61 : decode prog_10_method_1_code 61 = .ok (.bipush 40, 2) := by decide +kernel
theorem d_Wo_init_63 : decode prog_10_method_1_code 63 = .ok (.newarray .int, 2) := by decide +kernel
theorem d_Wo_init_65 : decode prog_10_method_1_code 65 = .ok (.putfield 33, 3) := by decide +kernel
theorem d_Wo_init_68 : decode prog_10_method_1_code 68 = .ok (.aload_n 0, 1) := by decide +kernel
theorem d_Wo_init_69 : decode prog_10_method_1_code 69 = .ok (.bipush 40, 2) := by decide +kernel
theorem d_Wo_init_71 : decode prog_10_method_1_code 71 = .ok (.newarray .int, 2) := by decide +kernel
theorem d_Wo_init_73 : decode prog_10_method_1_code 73 = .ok (.putfield 36, 3) := by decide +kernel
theorem d_Wo_init_76 : decode prog_10_method_1_code 76 = .ok (.aload_n 0, 1) := by decide +kernel
theorem d_Wo_init_77 : decode prog_10_method_1_code 77 = .ok (.bipush 40, 2) := by decide +kernel
theorem d_Wo_init_79 : decode prog_10_method_1_code 79 = .ok (.newarray .boolean, 2) := by decide +kernel
theorem d_Wo_init_81 : decode prog_10_method_1_code 81 = .ok (.putfield 39, 3) := by decide +kernel
theorem d_Wo_init_84 : decode prog_10_method_1_code 84 = .ok (.return_, 1) := by decide +kernel
def w_Wo (G : GE) (h0 : Nat) (u : Nat → Nat) : va_W := (h0, .inr (4, [.ref (u 0), .ref (u 1), .ref (u 2), .ref (u 3), .ref (u 4), .ref (u 5), .ref (u 6), .ref (u 7), .ref (u 8), vI 0, .ref (u 9)])) :: [((u 0), .inl (G.2.2 0, 40, .inl (fun _ => 0))), ((u 1), .inl (G.2.2 0, 40, .inl (fun _ => 0))), ((u 2), .inl (G.2.2 0, 40, .inl (fun _ => 0))), ((u 3), .inl (G.2.2 0, 40, .inl (fun _ => 0))), ((u 4), .inl (G.2.2 0, 40, .inl (fun _ => 0))), ((u 5), .inl (G.2.2 0, 40, .inl (fun _ => 0))), ((u 6), .inl (G.2.2 0, 40, .inl (fun _ => 0))), ((u 7), .inl (G.2.2 0, 40, .inl (fun _ => 0))), ((u 8), .inl (G.2.2 0, 40, .inl (fun _ => 0))), ((u 9), .inl (G.2.2 2, 40, .inl (fun _ => 0)))]
theorem d_Wa_init_0 : decode prog_9_method_1_code 0 = .ok (.aload_n 0, 1) := by decide +kernel
theorem d_Wa_init_1 : decode prog_9_method_1_code 1 = .ok (.invokespecial 3, 3) := by decide +kernel
theorem d_Wa_init_4 : decode prog_9_method_1_code 4 = .ok (.aload_n 0, 1) := by decide +kernel
theorem d_Wa_init_5 : decode prog_9_method_1_code 5 = .ok (.bipush 9, 2) := by decide +kernel
theorem d_Wa_init_7 : decode prog_9_method_1_code 7 = .ok (.newarray .int, 2) := by decide +kernel
theorem d_Wa_init_9 : decode prog_9_method_1_code 9 = .ok (.putfield 11, 3) := by decide +kernel
theorem d_Wa_init_12 : decode prog_9_method_1_code 12 = .ok (.aload_n 0, 1) := by decide +kernel
theorem d_Wa_init_13 : decode prog_9_method_1_code 13 = .ok (.bipush 9, 2) := by decide +kernel
theorem d_Wa_init_15 : decode prog_9_method_1_code 15 = .ok (.newarray .int, 2) := by decide +kernel
theorem d_Wa_init_17 : decode prog_9_method_1_code 17 = .ok (.putfield 15, 3) := by decide +kernel
theorem d_Wa_init_20 : decode prog_9_method_1_code 20 = .ok (.aload_n 0, 1) := by decide +kernel
theorem d_Wa_init_21 : decode prog_9_method_1_code 21 = .ok (.bipush 9, 2) := by decide +kernel
theorem d_Wa_init_23 : decode prog_9_method_1_code 23 = .ok (.newarray .int, 2) := by decide +kernel
theorem d_Wa_init_25 : decode prog_9_method_1_code 25 = .ok (.putfield 18, 3) := by decide +kernel
theorem d_Wa_init_28 : decode prog_9_method_1_code 28 = .ok (.aload_n 0, 1) := by decide +kernel
theorem d_Wa_init_29 : decode prog_9_method_1_code 29 = .ok (.sipush 5120, 3) := by decide +kernel
theorem d_Wa_init_32 : decode prog_9_method_1_code 32 = .ok (.newarray .int, 2) := by decide +kernel
theorem d_Wa_init_34 : decode prog_9_method_1_code 34 = .ok (.putfield 21, 3) := by decide +kernel
theorem d_Wa_init_37 : decode prog_9_method_1_code 37 = .ok (.aload_n 0, 1) := by decide +kernel
theorem d_Wa_init_38 : decode prog_9_method_1_code 38 = .ok (.bipush 10, 2) := by decide +kernel
theorem d_Wa_init_40 : decode prog_9_method_1_code 40 = .ok (.newarray .int, 2) := by decide +kernel
theorem d_Wa_init_42 : decode prog_9_method_1_code 42 = .ok (.putfield 24, 3) := by decide +kernel
theorem d_Wa_init_45 : decode prog_9_method_1_code 45 = .ok (.aload_n 0, 1) := by decide +kernel
theorem d_Wa_init_46 : decode prog_9_method_1_code 46 = .ok (.aload_n 1, 1) := by decide +kernel
theorem d_Wa_init_47 : decode prog_9_method_1_code 47 = .ok (.putfield 27, 3) := by decide +kernel
theorem d_Wa_init_50 : decode prog_9_method_1_code 50 = .ok (.return_, 1) := by decide +kernel
def w_Wa (G : GE) (h0 : Nat) (a1 : Nat) (u : Nat → Nat) : va_W := (h0, .inr (5, [.ref a1, .ref (u 0), .ref (u 1), .ref (u 2), vI 0, .ref (u 3), .ref (u 4)])) :: [((u 0), .inl (G.2.2 0, 9, .inl (fun _ => 0))), ((u 1), .inl (G.2.2 0, 9, .inl (fun _ => 0))), ((u 2), .inl (G.2.2 0, 9, .inl (fun _ => 0))), ((u 3), .inl (G.2.2 0, 5120, .inl (fun _ => 0))), ((u 4), .inl (G.2.2 0, 10, .inl (fun _ => 0)))]
theorem d_He_init_0 : decode prog_4_method_1_code 0 = .ok (.aload_n 0, 1) := by decide +kernel
theorem d_He_init_1 : decode prog_4_method_1_code 1 = .ok (.invokespecial 3, 3) := by decide +kernel
theorem d_He_init_4 : decode prog_4_method_1_code 4 = .ok (.aload_n 0, 1) := by decide +kernel
theorem d_He_init_5 : decode prog_4_method_1_code 5 = .ok (.bipush 40, 2) := by decide +kernel
theorem d_He_init_7 : decode prog_4_method_1_code 7 = .ok (.newarray .boolean, 2) := by decide +kernel
theorem d_He_init_9 : decode prog_4_method_1_code 9 = .ok (.putfield 11, 3) := by decide +kernel
theorem d_He_init_12 : decode prog_4_method_1_code 12 = .ok (.aload_n 0, 1) := by decide +kernel
theorem d_He_init_13 : decode prog_4_method_1_code 13 = .ok (.bipush 40, 2) := by decide +kernel
theorem d_He_init_15 : decode prog_4_method_1_code 15 = .ok (.newarray .boolean, 2) := by decide +kernel
theorem d_He_init_17 : decode prog_4_method_1_code 17 = .ok (.putfield 17, 3) := by decide +kernel
theorem d_He_init_20 : decode prog_4_method_1_code 20 = .ok (.aload_n 0, 1) := by decide +kernel
theorem d_He_init_21 : decode prog_4_method_1_code 21 = .ok (.bipush 40, 2) := by decide +kernel
theorem d_He_init_23 : decode prog_4_method_1_code 23 = .ok (.newarray .int, 2) := by decide +kernel
theorem d_He_init_25 : decode prog_4_method_1_code 25 = .ok (.putfield 20, 3) := by decide +kernel
theorem d_He_init_28 : decode prog_4_method_1_code 28 = .ok (.aload_n 0, 1) := by decide +kernel
theorem d_He_init_29 : decode prog_4_method_1_code 29 = .ok (.aload_n 1, 1) := by decide +kernel
theorem d_He_init_30 : decode prog_4_method_1_code 30 = .ok (.putfield 24, 3) := by decide +kernel
theorem d_He_init_33 : decode prog_4_method_1_code 33 = .ok (.aload_n 0, 1) := by decide +kernel
theorem d_He_init_34 : decode prog_4_method_1_code 34 = .ok (.aload_n 2, 1) := by decide +kernel
theorem d_He_init_35 : decode prog_4_method_1_code 35 = .ok (.putfield 28, 3) := by decide +kernel
theorem d_He_init_38 : decode prog_4_method_1_code 38 = .ok (.aload_n 0, 1) := by decide +kernel
theorem d_He_init_39 : decode prog_4_method_1_code 39 = .ok (.aload_n 3, 1) := by decide +kernel
theorem d_He_init_40 : decode prog_4_method_1_code 40 = .ok (.putfield 32, 3) := by decide +kernel
theorem d_He_init_43 : decode prog_4_method_1_code 43 = .ok (.return_, 1) := by decide +kernel
def w_He (G : GE) (h0 : Nat) (a1 : Nat) (a2 : Nat) (a3 : Nat) (u : Nat → Nat) : va_W := (h0, .inr (6, [.ref a1, .ref a2, .ref a3, .ref (u 0), .ref (u 1), .ref (u 2), vI 0, vI 0, vI 0, vI 0, vI 0, vI 0, vI 0, vI 0, vI 0])) :: [((u 0), .inl (G.2.2 2, 40, .inl (fun _ => 0))), ((u 1), .inl (G.2.2 2, 40, .inl (fun _ => 0))), ((u 2), .inl (G.2.2 0, 40, .inl (fun _ => 0)))]
theorem d_Ru_init_0 : decode prog_7_method_1_code 0 = .ok (.aload_n 0, 1) := by decide +kernel
theorem d_Ru_init_1 : decode prog_7_method_1_code 1 = .ok (.invokespecial 1, 3) := by decide +kernel
theorem d_Ru_init_4 : decode prog_7_method_1_code 4 = .ok (.aload_n 0, 1) := by decide +kernel
theorem d_Ru_init_5 : decode prog_7_method_1_code 5 = .ok (.sipush 4000, 3) := by decide +kernel
theorem d_Ru_init_8 : decode prog_7_method_1_code 8 = .ok (.newarray .byte, 2) := by decide +kernel
theorem d_Ru_init_10 : decode prog_7_method_1_code 10 = .ok (.putfield 11, 3) := by decide +kernel
theorem d_Ru_init_13 : decode prog_7_method_1_code 13 = .ok (.aload_n 0, 1) := by decide +kernel
theorem d_Ru_init_14 : decode prog_7_method_1_code 14 = .ok (.bipush 20, 2) := by decide +kernel
theorem d_Ru_init_16 : decode prog_7_method_1_code 16 = .ok (.newarray .int, 2) := by decide +kernel
theorem d_Ru_init_18 : decode prog_7_method_1_code 18 = .ok (.putfield 15, 3) := by decide +kernel
theorem d_Ru_init_21 : decode prog_7_method_1_code 21 = .ok (.aload_n 0, 1) := by decide +kernel
theorem d_Ru_init_22 : decode prog_7_method_1_code 22 = .ok (.bipush 20, 2) := by decide +kernel
theorem d_Ru_init_24 : decode prog_7_method_1_code 24 = .ok (.newarray .int, 2) := by decide +kernel
theorem d_Ru_init_26 : decode prog_7_method_1_code 26 = .ok (.putfield 19, 3) := by decide +kernel
theorem d_Ru_init_29 : decode prog_7_method_1_code 29 = .ok (.aload_n 0, 1) := by decide +kernel
theorem d_Ru_init_30 : decode prog_7_method_1_code 30 = .ok (.bipush 20, 2) := by decide +kernel
theorem d_Ru_init_32 : decode prog_7_method_1_code 32 = .ok (.newarray .int, 2) := by decide +kernel
theorem d_Ru_init_34 : decode prog_7_method_1_code 34 = .ok (.putfield 22, 3) := by decide +kernel
theorem d_Ru_init_37 : decode prog_7_method_1_code 37 = .ok (.aload_n 0, 1) := by decide +kernel
theorem d_Ru_init_38 : decode prog_7_method_1_code 38 = .ok (.sipush 201, 3) := by decide +kernel
theorem d_Ru_init_41 : decode prog_7_method_1_code 41 = .ok (.newarray .boolean, 2) := by decide +kernel
theorem d_Ru_init_43 : decode prog_7_method_1_code 43 = .ok (.putfield 25, 3) := by decide +kernel
theorem d_Ru_init_46 : decode prog_7_method_1_code 46 = .ok (.aload_n 0, 1) := by decide +kernel
theorem d_Ru_init_47 : decode prog_7_method_1_code 47 = .ok (.sipush 201, 3) := by decide +kernel
theorem d_Ru_init_50 : decode prog_7_method_1_code 50 = .ok (.newarray .boolean, 2) := by decide +kernel
theorem d_Ru_init_52 : decode prog_7_method_1_code 52 = .ok (.putfield 29, 3) := by decide +kernel
theorem d_Ru_init_55 : decode prog_7_method_1_code 55 = .ok (.aload_n 0, 1) := by decide +kernel
theorem d_Ru_init_56 : decode prog_7_method_1_code 56 = .ok (.sipush 201, 3) := by decide +kernel
theorem d_Ru_init_59 : decode prog_7_method_1_code 59 = .ok (.newarray .boolean, 2) := by decide +kernel
theorem d_Ru_init_61 : decode prog_7_method_1_code 61 = .ok (.putfield 32, 3) := by decide +kernel
theorem d_Ru_init_64 : decode prog_7_method_1_code 64 = .ok (.return_, 1) := by decide +kernel
def w_Ru (G : GE) (h0 : Nat) (u : Nat → Nat) : va_W := (h0, .inr (7, [.ref (u 0), .ref (u 1), .ref (u 2), .ref (u 3), vI 0, vI 0, vI 0, vI 0, vI 0, vI 0, .ref (u 4), .ref (u 5), .ref (u 6)])) :: [((u 0), .inl (G.2.2 1, 4000, .inl (fun _ => 0))), ((u 1), .inl (G.2.2 0, 20, .inl (fun _ => 0))), ((u 2), .inl (G.2.2 0, 20, .inl (fun _ => 0))), ((u 3), .inl (G.2.2 0, 20, .inl (fun _ => 0))), ((u 4), .inl (G.2.2 2, 201, .inl (fun _ => 0))), ((u 5), .inl (G.2.2 2, 201, .inl (fun _ => 0))), ((u 6), .inl (G.2.2 2, 201, .inl (fun _ => 0)))]
theorem d_Bn_init_0 : decode prog_2_method_1_code 0 = .ok (.aload_n 0, 1) := by decide +kernel
theorem d_Bn_init_1 : decode prog_2_method_1_code 1 = .ok (.invokespecial 1, 3) := by decide +kernel
theorem d_Bn_init_4 : decode prog_2_method_1_code 4 = .ok (.aload_n 0, 1) := by decide +kernel
theorem d_Bn_init_5 : decode prog_2_method_1_code 5 = .ok (.sipush 384, 3) := by decide +kernel
theorem d_Bn_init_8 : decode prog_2_method_1_code 8 = .ok (.newarray .int, 2) := by decide +kernel
theorem d_Bn_init_10 : decode prog_2_method_1_code 10 = .ok (.putfield 11, 3) := by decide +kernel
theorem d_Bn_init_13 : decode prog_2_method_1_code 13 = .ok (.aload_n 0, 1) := by decide +kernel
theorem d_Bn_init_14 : decode prog_2_method_1_code 14 = .ok (.bipush 32, 2) := by decide +kernel
theorem d_Bn_init_16 : decode prog_2_method_1_code 16 = .ok (.newarray .int, 2) := by decide +kernel
theorem d_Bn_init_18 : decode prog_2_method_1_code 18 = .ok (.putfield 15, 3) := by decide +kernel
theorem d_Bn_init_21 : decode prog_2_method_1_code 21 = .ok (.aload_n 0, 1) := by decide +kernel
theorem d_Bn_init_22 : decode prog_2_method_1_code 22 = .ok (.iconst 2, 1) := by decide +kernel
theorem d_Bn_init_23 : decode prog_2_method_1_code 23 = .ok (.putfield 18, 3) := by decide +kernel
theorem d_Bn_init_26 : decode prog_2_method_1_code 26 = .ok (.return_, 1) := by decide +kernel
def w_Bn (G : GE) (h0 : Nat) (u : Nat → Nat) : va_W := (h0, .inr (8, [.ref (u 0), .ref (u 1), vI 2])) :: [((u 0), .inl (G.2.2 0, 384, .inl (fun _ => 0))), ((u 1), .inl (G.2.2 0, 32, .inl (fun _ => 0)))]
theorem d_Gr_init_0 : decode prog_3_method_1_code 0 = .ok (.aload_n 0, 1) := by decide +kernel
theorem d_Gr_init_1 : decode prog_3_method_1_code 1 = .ok (.invokespecial 1, 3) := by decide +kernel
theorem d_Gr_init_4 : decode prog_3_method_1_code 4 = .ok (.aload_n 0, 1) := by decide +kernel
theorem d_Gr_init_5 : decode prog_3_method_1_code 5 = .ok (.bipush 8, 2) := by decide +kernel
theorem d_Gr_init_7 : decode prog_3_method_1_code 7 = .ok (.newarray .int, 2) := by decide +kernel
theorem d_Gr_init_9 : decode prog_3_method_1_code 9 = .ok (.putfield 9, 3) := by decide +kernel
theorem d_Gr_init_12 : decode prog_3_method_1_code 12 = .ok (.aload_n 0, 1) := by decide +kernel
theorem d_Gr_init_13 : decode prog_3_method_1_code 13 = .ok (.bipush 8, 2) := by decide +kernel
theorem d_Gr_init_15 : decode prog_3_method_1_code 15 = .ok (.newarray .int, 2) := by decide +kernel
theorem d_Gr_init_17 : decode prog_3_method_1_code 17 = .ok (.putfield 13, 3) := by decide +kernel
theorem d_Gr_init_20 : decode prog_3_method_1_code 20 = .ok (.aload_n 0, 1) := by decide +kernel
theorem d_Gr_init_21 : decode prog_3_method_1_code 21 = .ok (.bipush 8, 2) := by decide +kernel
theorem d_Gr_init_23 : decode prog_3_method_1_code 23 = .ok (.newarray .int, 2) := by decide +kernel
theorem d_Gr_init_25 : decode prog_3_method_1_code 25 = .ok (.putfield 16, 3) := by decide +kernel
theorem d_Gr_init_28 : decode prog_3_method_1_code 28 = .ok (.aload_n 0, 1) := by decide +kernel
theorem d_Gr_init_29 : decode prog_3_method_1_code 29 = .ok (.bipush 8, 2) := by decide +kernel
theorem d_Gr_init_31 : decode prog_3_method_1_code 31 = .ok (.newarray .int, 2) := by decide +kernel
theorem d_Gr_init_33 : decode prog_3_method_1_code 33 = .ok (.putfield 19, 3) := by decide +kernel
theorem d_Gr_init_36 : decode prog_3_method_1_code 36 = .ok (.aload_n 0, 1) := by decide +kernel
theorem d_Gr_init_37 : decode prog_3_method_1_code 37 = .ok (.bipush 8, 2) := by decide +kernel
theorem d_Gr_init_39 : decode prog_3_method_1_code 39 = .ok (.newarray .int, 2) := by decide +kernel
theorem d_Gr_init_41 : decode prog_3_method_1_code 41 = .ok (.putfield 22, 3) := by decide +kernel
theorem d_Gr_init_44 : decode prog_3_method_1_code 44 = .ok (.aload_n 0, 1) := by decide +kernel
theorem d_Gr_init_45 : decode prog_3_method_1_code 45 = .ok (.bipush 8, 2) := by decide +kernel
theorem d_Gr_init_47 : decode prog_3_method_1_code 47 = .ok (.newarray .int, 2) := by decide +kernel
theorem d_Gr_init_49 : decode prog_3_method_1_code 49 = .ok (.putfield 25, 3) := by decide +kernel
theorem d_Gr_init_52 : decode prog_3_method_1_code 52 = .ok (.aload_n 0, 1) := by decide +kernel
theorem d_Gr_init_53 : decode prog_3_method_1_code 53 = .ok (.bipush 8, 2) := by decide +kernel
theorem d_Gr_init_55 : decode prog_3_method_1_code 55 = .ok (.newarray .int, 2) := by decide +kernel
theorem d_Gr_init_57 : decode prog_3_method_1_code 57 = .ok (.putfield 28, 3) := by decide +kernel
theorem d_Gr_init_60 : decode prog_3_method_1_code 60 = .ok (.aload_n 0, 1) := by decide +kernel
theorem d_Gr_init_61 : decode prog_3_method_1_code 61 = .ok (.bipush 10, 2) := by decide +kernel
theorem d_Gr_init_63 : decode prog_3_method_1_code 63 = .ok (.newarray .int, 2) := by decide +kernel
theorem d_Gr_init_65 : decode prog_3_method_1_code 65 = .ok (.putfield 31, 3) := by decide +kernel
theorem d_Gr_init_68 : decode prog_3_method_1_code 68 = .ok (.aload_n 0, 1) := by decide +kernel
theorem d_Gr_init_69 : decode prog_3_method_1_code 69 = .ok (.bipush 10, 2) := by decide +kernel
theorem d_Gr_init_71 : decode prog_3_method_1_code 71 = .ok (.newarray .int, 2) := by decide +kernel
theorem d_Gr_init_73 : decode prog_3_method_1_code 73 = .ok (.putfield 34, 3) := by decide +kernel
theorem d_Gr_init_76 : decode prog_3_method_1_code 76 = .ok (.aload_n 0, 1) := by decide +kernel
theorem d_Gr_init_77 : decode prog_3_method_1_code 77 = .ok (.bipush 10, 2) := by decide +kernel
theorem d_Gr_init_79 : decode prog_3_method_1_code 79 = .ok (.newarray .int, 2) := by decide +kernel
theorem d_Gr_init_81 : decode prog_3_method_1_code 81 = .ok (.putfield 37, 3) := by decide +kernel
theorem d_Gr_init_84 : decode prog_3_method_1_code 84 = .ok (.aload_n 0, 1) := by decide +kernel
theorem d_Gr_init_85 : decode prog_3_method_1_code 85 = .ok (.bipush 10, 2) := by decide +kernel
theorem d_Gr_init_87 : decode prog_3_method_1_code 87 = .ok (.newarray .int, 2) := by decide +kernel
theorem d_Gr_init_89 : decode prog_3_method_1_code 89 = .ok (.putfield 40, 3) := by decide +kernel
theorem d_Gr_init_92 : decode prog_3_method_1_code 92 = .ok (.aload_n 0, 1) := by decide +kernel
theorem d_Gr_init_93 : decode prog_3_method_1_code 93 = .ok (.bipush 10, 2) := by decide +kernel
theorem d_Gr_init_95 : decode prog_3_method_1_code 95 = .ok (.newarray .int, 2) := by decide +kernel
theorem d_Gr_init_97 : decode prog_3_method_1_code 97 = .ok (.putfield 43, 3) := by decide +kernel
theorem d_Gr_init_100 : decode prog_3_method_1_code 100 = .ok (.aload_n 0, 1) := by decide +kernel
theorem d_Gr_init_101 : decode prog_3_method_1_code 101 = .ok (.bipush 8, 2) := by decide +kernel
theorem d_Gr_init_103 : decode prog_3_method_1_code 103 = .ok (.newarray .int, 2) := by decide +kernel
theorem d_Gr_init_105 : decode prog_3_method_1_code 105 = .ok (.putfield 46, 3) := by decide +kernel
theorem d_Gr_init_108 : decode prog_3_method_1_code 108 = .ok (.aload_n 0, 1) := by decide +kernel
theorem d_Gr_init_109 : decode prog_3_method_1_code 109 = .ok (.sipush 256, 3) := by decide +kernel
theorem d_Gr_init_112 : decode prog_3_method_1_code 112 = .ok (.newarray .int, 2) := by decide +kernel
theorem d_Gr_init_114 : decode prog_3_method_1_code 114 = .ok (.putfield 49, 3) := by decide +kernel
theorem d_Gr_init_117 : decode prog_3_method_1_code 117 = .ok (.aload_n 0, 1) := by decide +kernel
theorem d_Gr_init_118 : decode prog_3_method_1_code 118 = .ok (.aload_n 1, 1) := by decide +kernel
theorem d_Gr_init_119 : decode prog_3_method_1_code 119 = .ok (.putfield 52, 3) := by decide +kernel
theorem d_Gr_init_122 : decode prog_3_method_1_code 122 = .ok (.return_, 1) := by decide +kernel
def w_Gr (G : GE) (h0 : Nat) (a1 : Nat) (u : Nat → Nat) : va_W := (h0, .inr (9, [.ref a1, .ref (u 0), .ref (u 1), .ref (u 2), .ref (u 3), .ref (u 4), .ref (u 5), .ref (u 6), vI 0, vI 0, .ref (u 7), .ref (u 8), .ref (u 9), .ref (u 10), vI 0, .ref (u 11), .ref (u 12), .ref (u 13)])) :: [((u 0), .inl (G.2.2 0, 8, .inl (fun _ => 0))), ((u 1), .inl (G.2.2 0, 8, .inl (fun _ => 0))), ((u 2), .inl (G.2.2 0, 8, .inl (fun _ => 0))), ((u 3), .inl (G.2.2 0, 8, .inl (fun _ => 0))), ((u 4), .inl (G.2.2 0, 8, .inl (fun _ => 0))), ((u 5), .inl (G.2.2 0, 8, .inl (fun _ => 0))), ((u 6), .inl (G.2.2 0, 8, .inl (fun _ => 0))), ((u 7), .inl (G.2.2 0, 10, .inl (fun _ => 0))), ((u 8), .inl (G.2.2 0, 10, .inl (fun _ => 0))), ((u 9), .inl (G.2.2 0, 10, .inl (fun _ => 0))), ((u 10), .inl (G.2.2 0, 10, .inl (fun _ => 0))), ((u 11), .inl (G.2.2 0, 10, .inl (fun _ => 0))), ((u 12), .inl (G.2.2 0, 8, .inl (fun _ => 0))), ((u 13), .inl (G.2.2 0, 256, .inl (fun _ => 0)))]
theorem d_Md_init_0 : decode prog_12_method_1_code 0 = .ok (.aload_n 0, 1) := by decide +kernel
theorem d_Md_init_1 : decode prog_12_method_1_code 1 = .ok (.invokespecial 1, 3) := by decide +kernel
theorem d_Md_init_4 : decode prog_12_method_1_code 4 = .ok (.aload_n 0, 1) := by decide +kernel
theorem d_Md_init_5 : decode prog_12_method_1_code 5 = .ok (.bipush 100, 2) := by decide +kernel
theorem d_Md_init_7 : decode prog_12_method_1_code 7 = .ok (.newarray .int, 2) := by decide +kernel
theorem d_Md_init_9 : decode prog_12_method_1_code 9 = .ok (.putfield 7, 3) := by decide +kernel
theorem d_Md_init_12 : decode prog_12_method_1_code 12 = .ok (.aload_n 0, 1) := by decide +kernel
theorem d_Md_init_13 : decode prog_12_method_1_code 13 = .ok (.sipush 200, 3) := by decide +kernel
theorem d_Md_init_16 : decode prog_12_method_1_code 16 = .ok (.newarray .int, 2) := by decide +kernel
theorem d_Md_init_18 : decode prog_12_method_1_code 18 = .ok (.putfield 13, 3) := by decide +kernel
theorem d_Md_init_21 : decode prog_12_method_1_code 21 = .ok (.aload_n 0, 1) := by decide +kernel
theorem d_Md_init_22 : decode prog_12_method_1_code 22 = .ok (.sipush 200, 3) := by decide +kernel
theorem d_Md_init_25 : decode prog_12_method_1_code 25 = .ok (.newarray .int, 2) := by decide +kernel
theorem d_Md_init_27 : decode prog_12_method_1_code 27 = .ok (.putfield 16, 3) := by decide +kernel
theorem d_Md_init_30 : decode prog_12_method_1_code 30 = .ok (.aload_n 0, 1) := by decide +kernel
theorem d_Md_init_31 : decode prog_12_method_1_code 31 = .ok (.sipush 200, 3) := by decide +kernel
theorem d_Md_init_34 : decode prog_12_method_1_code 34 = .ok (.newarray .int, 2) := by decide +kernel
theorem d_Md_init_36 : decode prog_12_method_1_code 36 = .ok (.putfield 19, 3) := by decide +kernel
theorem d_Md_init_39 : decode prog_12_method_1_code 39 = .ok (.aload_n 0, 1) := by decide +kernel
theorem d_Md_init_40 : decode prog_12_method_1_code 40 = .ok (.sipush 200, 3) := by decide +kernel
theorem d_Md_init_43 : decode prog_12_method_1_code 43 = .ok (.newarray .int, 2) := by decide +kernel
theorem d_Md_init_45 : decode prog_12_method_1_code 45 = .ok (.putfield 22, 3) := by decide +kernel
theorem d_Md_init_48 : decode prog_12_method_1_code 48 = .ok (.aload_n 0, 1) := by decide +kernel
theorem d_Md_init_49 : decode prog_12_method_1_code 49 = .ok (.sipush 240, 3) := by decide +kernel
theorem d_Md_init_52 : decode prog_12_method_1_code 52 = .ok (.newarray .int, 2) := by decide +kernel
theorem d_Md_init_54 : decode prog_12_method_1_code 54 = .ok (.putfield 25, 3) := by decide +kernel
theorem d_Md_init_57 : decode prog_12_method_1_code 57 = .ok (.aload_n 0, 1) := by decide +kernel
theorem d_Md_init_58 : decode prog_12_method_1_code 58 = .ok (.bipush 20, 2) := by decide +kernel
theorem d_Md_init_60 : decode prog_12_method_1_code 60 = .ok (.newarray .int, 2) := by decide +kernel
theorem d_Md_init_62 : decode prog_12_method_1_code 62 = .ok (.putfield 28, 3) := by decide +kernel
theorem d_Md_init_65 : decode prog_12_method_1_code 65 = .ok (.aload_n 0, 1) := by decide +kernel
theorem d_Md_init_66 : decode prog_12_method_1_code 66 = .ok (.bipush 12, 2) := by decide +kernel
theorem d_Md_init_68 : decode prog_12_method_1_code 68 = .ok (.newarray .int, 2) := by decide +kernel
theorem d_Md_init_70 : decode prog_12_method_1_code 70 = .ok (.putfield 31, 3) := by decide +kernel
theorem d_Md_init_73 : decode prog_12_method_1_code 73 = .ok (.aload_n 0, 1) := by decide +kernel
theorem d_Md_init_74 : decode prog_12_method_1_code 74 = .ok (.sipush 400, 3) := by decide +kernel
theorem d_Md_init_77 : decode prog_12_method_1_code 77 = .ok (.newarray .boolean, 2) := by decide +kernel
theorem d_Md_init_79 : decode prog_12_method_1_code 79 = .ok (.putfield 34, 3) := by decide +kernel
theorem d_Md_init_82 : decode prog_12_method_1_code 82 = .ok (.aload_n 0, 1) := by decide +kernel
theorem d_Md_init_83 : decode prog_12_method_1_code 83 = .ok (.sipush 400, 3) := by decide +kernel
theorem d_Md_init_86 : decode prog_12_method_1_code 86 = .ok (.newarray .boolean, 2) := by decide +kernel
theorem d_Md_init_88 : decode prog_12_method_1_code 88 = .ok (.putfield 38, 3) := by decide +kernel
theorem d_Md_init_91 : decode prog_12_method_1_code 91 = .ok (.aload_n 0, 1) := by decide +kernel
theorem d_Md_init_92 : decode prog_12_method_1_code 92 = .ok (.bipush 40, 2) := by decide +kernel
theorem d_Md_init_94 : decode prog_12_method_1_code 94 = .ok (.newarray .boolean, 2) := by decide +kernel
theorem d_Md_init_96 : decode prog_12_method_1_code 96 = .ok (.putfield 41, 3) := by decide +kernel
theorem d_Md_init_99 : decode prog_12_method_1_code 99 = .ok (.aload_n 0, 1) := by decide +kernel
theorem d_Md_init_100 : decode prog_12_method_1_code 100 = .ok (.bipush 40, 2) := by decide +kernel
theorem d_Md_init_102 : decode prog_12_method_1_code 102 = .ok (.newarray .boolean, 2) := by decide +kernel
theorem d_Md_init_104 : decode prog_12_method_1_code 104 = .ok (.putfield 44, 3) := by decide +kernel
theorem d_Md_init_107 : decode prog_12_method_1_code 107 = .ok (.aload_n 0, 1) := by decide +kernel
theorem d_Md_init_108 : decode prog_12_method_1_code 108 = .ok (.bipush 40, 2) := by decide +kernel
theorem d_Md_init_110 : decode prog_12_method_1_code 110 = .ok (.newarray .boolean, 2) := by decide +kernel
theorem d_Md_init_112 : decode prog_12_method_1_code 112 = .ok (.putfield 47, 3) := by decide +kernel
theorem d_Md_init_115 : decode prog_12_method_1_code 115 = .ok (.aload_n 0, 1) := by decide +kernel
theorem d_Md_init_116 : decode prog_12_method_1_code 116 = .ok (.bipush 20, 2) := by decide +kernel
theorem d_Md_init_118 : decode prog_12_method_1_code 118 = .ok (.newarray .int, 2) := by decide +kernel
theorem d_Md_init_120 : decode prog_12_method_1_code 120 = .ok (.putfield 50, 3) := by decide +kernel
theorem d_Md_init_123 : decode prog_12_method_1_code 123 = .ok (.aload_n 0, 1) := by decide +kernel
theorem d_Md_init_124 : decode prog_12_method_1_code 124 = .ok (.bipush 20, 2) := by decide +kernel
theorem d_Md_init_126 : decode prog_12_method_1_code 126 = .ok (.newarray .int, 2) := by decide +kernel
theorem d_Md_init_128 : decode prog_12_method_1_code 128 = .ok (.putfield 53, 3) := by decide +kernel
theorem d_Md_init_131 : decode prog_12_method_1_code 131 = .ok (.aload_n 0, 1) := by decide +kernel
theorem d_Md_init_132 : decode prog_12_method_1_code 132 = .ok (.bipush 20, 2) := by decide +kernel
theorem d_Md_init_134 : decode prog_12_method_1_code 134 = .ok (.newarray .int, 2) := by decide +kernel
theorem d_Md_init_136 : decode prog_12_method_1_code 136 = .ok (.putfield 56, 3) := by decide +kernel
theorem d_Md_init_139 : decode prog_12_method_1_code 139 = .ok (.aload_n 0, 1) := by decide +kernel
theorem d_Md_init_140 : decode prog_12_method_1_code 140 = .ok (.bipush 40, 2) := by decide +kernel
theorem d_Md_init_142 : decode prog_12_method_1_code 142 = .ok (.newarray .int, 2) := by decide +kernel
theorem d_Md_init_144 : decode prog_12_method_1_code 144 = .ok (.putfield 59, 3) := by decide +kernel
theorem d_Md_init_147 : decode prog_12_method_1_code 147 = .ok (.aload_n 0, 1) := by decide +kernel
theorem d_Md_init_148 : decode prog_12_method_1_code 148 = .ok (.bipush 40, 2) := by decide +kernel
theorem d_Md_init_150 : decode prog_12_method_1_code 150 = .ok (.newarray .int, 2) := by decide +kernel
theorem d_Md_init_152 : decode prog_12_method_1_code 152 = .ok (.putfield 62, 3) := by decide +kernel
theorem d_Md_init_155 : decode prog_12_method_1_code 155 = .ok (.aload_n 0, 1) := by decide +kernel
theorem d_Md_init_156 : decode prog_12_method_1_code 156 = .ok (.bipush 40, 2) := by decide +kernel
theorem d_Md_init_158 : decode prog_12_method_1_code 158 = .ok (.newarray .int, 2) := by decide +kernel
theorem d_Md_init_160 : decode prog_12_method_1_code 160 = .ok (.putfield 65, 3) := by decide +kernel
theorem d_Md_init_163 : decode prog_12_method_1_code 163 = .ok (.aload_n 0, 1) := by decide +kernel
theorem d_Md_init_164 : decode prog_12_method_1_code 164 = .ok (.bipush 40, 2) := by decide +kernel
theorem d_Md_init_166 : decode prog_12_method_1_code 166 = .ok (.newarray .int, 2) := by decide +kernel
theorem d_Md_init_168 : decode prog_12_method_1_code 168 = .ok (.putfield 68, 3) := by decide +kernel
theorem d_Md_init_171 : decode prog_12_method_1_code 171 = .ok (.aload_n 0, 1) := by decide +kernel
theorem d_Md_init_172 : decode prog_12_method_1_code 172 = .ok (.bipush 40, 2) := by decide +kernel
theorem d_Md_init_174 : decode prog_12_method_1_code 174 = .ok (.newarray .int, 2) := by decide +kernel
theorem d_Md_init_176 : decode prog_12_method_1_code 176 = .ok (.putfield 71, 3) := by decide +kernel
theorem d_Md_init_179 : decode prog_12_method_1_code 179 = .ok (.aload_n 0, 1) := by decide +kernel
theorem d_Md_init_180 : decode prog_12_method_1_code 180 = .ok (.bipush 40, 2) := by decide +kernel
theorem d_Md_init_182 : decode prog_12_method_1_code 182 = .ok (.newarray .int, 2) := by decide +kernel
theorem d_Md_init_184 : decode prog_12_method_1_code 184 = .ok (.putfield 74, 3) := by decide +kernel
theorem d_Md_init_187 : decode prog_12_method_1_code 187 = .ok (.aload_n 0, 1) := by decide +kernel
theorem d_Md_init_188 : decode prog_12_method_1_code 188 = .ok (.bipush 40, 2) := by decide +kernel
theorem d_Md_init_190 : decode prog_12_method_1_code 190 = .ok (.newarray .int, 2) := by decide +kernel
theorem d_Md_init_192 : decode prog_12_method_1_code 192 = .ok (.putfield 77, 3) := by decide +kernel
theorem d_Md_init_195 : decode prog_12_method_1_code 195 = .ok (.aload_n 0, 1) := by decide +kernel
theorem d_Md_init_196 : decode prog_12_method_1_code 196 = .ok (.bipush 40, 2) := by decide +kernel
theorem d_Md_init_198 : decode prog_12_method_1_code 198 = .ok (.newarray .int, 2) := by decide +kernel
theorem d_Md_init_200 : decode prog_12_method_1_code 200 = .ok (.putfield 80, 3) := by decide +kernel
theorem d_Md_init_203 : decode prog_12_method_1_code 203 = .ok (.aload_n 0, 1) := by decide +kernel
theorem d_Md_init_204 : decode prog_12_method_1_code 204 = .ok (.ldc 83, 2) := by decide +kernel
theorem d_Md_init_206 : decode prog_12_method_1_code 206 = .ok (.newarray .int, 2) := by decide +kernel
theorem d_Md_init_208 : decode prog_12_method_1_code 208 = .ok (.putfield 84, 3) := by decide +kernel
theorem d_Md_init_211 : decode prog_12_method_1_code 211 = .ok (.aload_n 0, 1) := by decide +kernel
theorem d_Md_init_212 : decode prog_12_method_1_code 212 = .ok (.bipush 9, 2) := by decide +kernel
theorem d_Md_init_214 : decode prog_12_method_1_code 214 = .ok (.newarray .int, 2) := by decide +kernel
theorem d_Md_init_216 : decode prog_12_method_1_code 216 = .ok (.putfield 87, 3) := by decide +kernel
theorem d_Md_init_219 : decode prog_12_method_1_code 219 = .ok (.aload_n 0, 1) := by decide +kernel
theorem d_Md_init_220 : decode prog_12_method_1_code 220 = .ok (.bipush 9, 2) := by decide +kernel
theorem d_Md_init_222 : decode prog_12_method_1_code 222 = .ok (.newarray .int, 2) := by decide +kernel
theorem d_Md_init_224 : decode prog_12_method_1_code 224 = .ok (.putfield 90, 3) := by decide +kernel
theorem d_Md_init_227 : decode prog_12_method_1_code 227 = .ok (.aload_n 0, 1) := by decide +kernel
theorem d_Md_init_228 : decode prog_12_method_1_code 228 = .ok (.bipush 9, 2) := by decide +kernel
theorem d_Md_init_230 : decode prog_12_method_1_code 230 = .ok (.newarray .int, 2) := by decide +kernel
theorem d_Md_init_232 : decode prog_12_method_1_code 232 = .ok (.putfield 93, 3) := by decide +kernel
theorem d_Md_init_235 : decode prog_12_method_1_code 235 = .ok (.aload_n 0, 1) := by decide +kernel
theorem d_Md_init_236 : decode prog_12_method_1_code 236 = .ok (.sipush 12000, 3) := by decide +kernel
theorem d_Md_init_239 : decode prog_12_method_1_code 239 = .ok (.newarray .int, 2) := by decide +kernel
theorem d_Md_init_241 : decode prog_12_method_1_code 241 = .ok (.putfield 96, 3) := by decide +kernel
theorem d_Md_init_244 : decode prog_12_method_1_code 244 = .ok (.aload_n 0, 1) := by decide +kernel
theorem d_Md_init_245 : decode prog_12_method_1_code 245 = .ok (.sipush 160, 3) := by decide +kernel
theorem d_Md_init_248 : decode prog_12_method_1_code 248 = .ok (.newarray .int, 2) := by decide +kernel
theorem d_Md_init_250 : decode prog_12_method_1_code 250 = .ok (.putfield 99, 3) := by decide +kernel
theorem d_Md_init_253 : decode prog_12_method_1_code 253 = .ok (.aload_n 0, 1) := by decide +kernel
theorem d_Md_init_254 : decode prog_12_method_1_code 254 = .ok (.sipush 160, 3) := by decide +kernel
theorem d_Md_init_257 : decode prog_12_method_1_code 257 = .ok (.newarray .int, 2) := by decide +kernel
theorem d_Md_init_259 : decode prog_12_method_1_code 259 = .ok (.putfield 102, 3) := by decide +kernel
theorem d_Md_init_262 : decode prog_12_method_1_code 262 = .ok (.aload_n 0, 1) := by decide +kernel
theorem d_Md_init_263 : decode prog_12_method_1_code 263 = .ok (.bipush 20, 2) := by decide +kernel
theorem d_Md_init_265 : decode prog_12_method_1_code 265 = .ok (.newarray .int, 2) := by decide +kernel
theorem d_Md_init_267 : decode prog_12_method_1_code 267 = .ok (.putfield 105, 3) := by decide +kernel
theorem d_Md_init_270 : decode prog_12_method_1_code 270 = .ok (.aload_n 0, 1) := by decide +kernel
theorem d_Md_init_271 : decode prog_12_method_1_code 271 = .ok (.bipush 20, 2) := by decide +kernel
theorem d_Md_init_273 : decode prog_12_method_1_code 273 = .ok (.newarray .int, 2) := by decide +kernel
theorem d_Md_init_275 : decode prog_12_method_1_code 275 = .ok (.putfield 108, 3) := by decide +kernel
theorem d_Md_init_278 : decode prog_12_method_1_code 278 = .ok (.aload_n 0, 1) := by decide +kernel
theorem d_Md_init_279 : decode prog_12_method_1_code 279 = .ok (.sipush 200, 3) := by decide +kernel
theorem d_Md_init_282 : decode prog_12_method_1_code 282 = .ok (.newarray .int, 2) := by decide +kernel
theorem d_Md_init_284 : decode prog_12_method_1_code 284 = .ok (.putfield 111, 3) := by decide +kernel
theorem d_Md_init_287 : decode prog_12_method_1_code 287 = .ok (.aload_n 0, 1) := by decide +kernel
theorem d_Md_init_288 : decode prog_12_method_1_code 288 = .ok (.sipush 128, 3) := by decide +kernel
theorem d_Md_init_291 : decode prog_12_method_1_code 291 = .ok (.newarray .int, 2) := by decide +kernel
theorem d_Md_init_293 : decode prog_12_method_1_code 293 = .ok (.putfield 114, 3) := by decide +kernel
theorem d_Md_init_296 : decode prog_12_method_1_code 296 = .ok (.aload_n 0, 1) := by decide +kernel
theorem d_Md_init_297 : decode prog_12_method_1_code 297 = .ok (.bipush 30, 2) := by decide +kernel
theorem d_Md_init_299 : decode prog_12_method_1_code 299 = .ok (.newarray .int, 2) := by decide +kernel
theorem d_Md_init_301 : decode prog_12_method_1_code 301 = .ok (.putfield 117, 3) := by decide +kernel
theorem d_Md_init_304 : decode prog_12_method_1_code 304 = .ok (.aload_n 0, 1) := by decide +kernel
theorem d_Md_init_305 : decode prog_12_method_1_code 305 = .ok (.bipush 30, 2) := by decide +kernel
theorem d_Md_init_307 : decode prog_12_method_1_code 307 = .ok (.newarray .int, 2) := by decide +kernel
theorem d_Md_init_309 : decode prog_12_method_1_code 309 = .ok (.putfield 120, 3) := by decide +kernel
theorem d_Md_init_312 : decode prog_12_method_1_code 312 = .ok (.aload_n 0, 1) := by decide +kernel
theorem d_Md_init_313 : decode prog_12_method_1_code 313 = .ok (.bipush 30, 2) := by decide +kernel
theorem d_Md_init_315 : decode prog_12_method_1_code 315 = .ok (.newarray .int, 2) := by decide +kernel
theorem d_Md_init_317 : decode prog_12_method_1_code 317 = .ok (.putfield 123, 3) := by decide +kernel
theorem d_Md_init_320 : decode prog_12_method_1_code 320 = .ok (.aload_n 0, 1) := by decide +kernel
theorem d_Md_init_321 : decode prog_12_method_1_code 321 = .ok (.bipush 32, 2) := by decide +kernel
theorem d_Md_init_323 : decode prog_12_method_1_code 323 = .ok (.newarray .int, 2) := by decide +kernel
theorem d_Md_init_325 : decode prog_12_method_1_code 325 = .ok (.putfield 126, 3) := by decide +kernel
theorem d_Md_init_328 : decode prog_12_method_1_code 328 = .ok (.aload_n 0, 1) := by decide +kernel
theorem d_Md_init_329 : decode prog_12_method_1_code 329 = .ok (.sipush 384, 3) := by decide +kernel
theorem d_Md_init_332 : decode prog_12_method_1_code 332 = .ok (.newarray .int, 2) := by decide +kernel
theorem d_Md_init_334 : decode prog_12_method_1_code 334 = .ok (.putfield 129, 3) := by decide +kernel
theorem d_Md_init_337 : decode prog_12_method_1_code 337 = .ok (.aload_n 0, 1) := by decide +kernel
theorem d_Md_init_338 : decode prog_12_method_1_code 338 = .ok (.iconst 2, 1) := by decide +kernel
theorem d_Md_init_339 : decode prog_12_method_1_code 339 = .ok (.putfield 132, 3) := by decide +kernel
theorem d_Md_init_342 : decode prog_12_method_1_code 342 = .ok (.aload_n 0, 1) := by decide +kernel
theorem d_Md_init_343 : decode prog_12_method_1_code 343 = .ok (.bipush 8, 2) := by decide +kernel
theorem d_Md_init_345 : decode prog_12_method_1_code 345 = .ok (.newarray .int, 2) := by decide +kernel
theorem d_Md_init_347 : decode prog_12_method_1_code 347 = .ok (.putfield 136, 3) := by decide +kernel
theorem d_Md_init_350 : decode prog_12_method_1_code 350 = .ok (.aload_n 0, 1) := by decide +kernel
theorem d_Md_init_351 : decode prog_12_method_1_code 351 = .ok (.bipush 8, 2) := by decide +kernel
theorem d_Md_init_353 : decode prog_12_method_1_code 353 = .ok (.newarray .int, 2) := by decide +kernel
theorem d_Md_init_355 : decode prog_12_method_1_code 355 = .ok (.putfield 139, 3) := by decide +kernel
theorem d_Md_init_358 : decode prog_12_method_1_code 358 = .ok (.aload_n 0, 1) := by decide +kernel
theorem d_Md_init_359 : decode prog_12_method_1_code 359 = .ok (.bipush 8, 2) := by decide +kernel
theorem d_Md_init_361 : decode prog_12_method_1_code 361 = .ok (.newarray .int, 2) := by decide +kernel
theorem d_Md_init_363 : decode prog_12_method_1_code 363 = .ok (.putfield 142, 3) := by decide +kernel
theorem d_Md_init_366 : decode prog_12_method_1_code 366 = .ok (.aload_n 0, 1) := by decide +kernel
theorem d_Md_init_367 : decode prog_12_method_1_code 367 = .ok (.bipush 8, 2) := by decide +kernel
theorem d_Md_init_369 : decode prog_12_method_1_code 369 = .ok (.newarray .int, 2) := by decide +kernel
theorem d_Md_init_371 : decode prog_12_method_1_code 371 = .ok (.putfield 145, 3) := by decide +kernel
theorem d_Md_init_374 : decode prog_12_method_1_code 374 = .ok (.aload_n 0, 1) := by decide +kernel
theorem d_Md_init_375 : decode prog_12_method_1_code 375 = .ok (.bipush 8, 2) := by decide +kernel
theorem d_Md_init_377 : decode prog_12_method_1_code 377 = .ok (.newarray .int, 2) := by decide +kernel
theorem d_Md_init_379 : decode prog_12_method_1_code 379 = .ok (.putfield 148, 3) := by decide +kernel
theorem d_Md_init_382 : decode prog_12_method_1_code 382 = .ok (.aload_n 0, 1) := by decide +kernel
theorem d_Md_init_383 : decode prog_12_method_1_code 383 = .ok (.bipush 8, 2) := by decide +kernel
theorem d_Md_init_385 : decode prog_12_method_1_code 385 = .ok (.newarray .int, 2) := by decide +kernel
theorem d_Md_init_387 : decode prog_12_method_1_code 387 = .ok (.putfield 151, 3) := by decide +kernel
theorem d_Md_init_390 : decode prog_12_method_1_code 390 = .ok (.aload_n 0, 1) := by decide +kernel
theorem d_Md_init_391 : decode prog_12_method_1_code 391 = .ok (.bipush 8, 2) := by decide +kernel
theorem d_Md_init_393 : decode prog_12_method_1_code 393 = .ok (.newarray .int, 2) := by decide +kernel
theorem d_Md_init_395 : decode prog_12_method_1_code 395 = .ok (.putfield 154, 3) := by decide +kernel
theorem d_Md_init_398 : decode prog_12_method_1_code 398 = .ok (.aload_n 0, 1) := by decide +kernel
theorem d_Md_init_399 : decode prog_12_method_1_code 399 = .ok (.bipush 10, 2) := by decide +kernel
theorem d_Md_init_401 : decode prog_12_method_1_code 401 = .ok (.newarray .int, 2) := by decide +kernel
theorem d_Md_init_403 : decode prog_12_method_1_code 403 = .ok (.putfield 157, 3) := by decide +kernel
theorem d_Md_init_406 : decode prog_12_method_1_code 406 = .ok (.aload_n 0, 1) := by decide +kernel
theorem d_Md_init_407 : decode prog_12_method_1_code 407 = .ok (.bipush 10, 2) := by decide +kernel
theorem d_Md_init_409 : decode prog_12_method_1_code 409 = .ok (.newarray .int, 2) := by decide +kernel
theorem d_Md_init_411 : decode prog_12_method_1_code 411 = .ok (.putfield 160, 3) := by decide +kernel
theorem d_Md_init_414 : decode prog_12_method_1_code 414 = .ok (.aload_n 0, 1) := by decide +kernel
theorem d_Md_init_415 : decode prog_12_method_1_code 415 = .ok (.bipush 10, 2) := by decide +kernel
theorem d_Md_init_417 : decode prog_12_method_1_code 417 = .ok (.newarray .int, 2) := by decide +kernel
theorem d_Md_init_419 : decode prog_12_method_1_code 419 = .ok (.putfield 163, 3) := by decide +kernel
theorem d_Md_init_422 : decode prog_12_method_1_code 422 = .ok (.aload_n 0, 1) := by decide +kernel
theorem d_Md_init_423 : decode prog_12_method_1_code 423 = .ok (.bipush 10, 2) := by decide +kernel
theorem d_Md_init_425 : decode prog_12_method_1_code 425 = .ok (.newarray .int, 2) := by decide +kernel
theorem d_Md_init_427 : decode prog_12_method_1_code 427 = .ok (.putfield 166, 3) := by decide +kernel
theorem d_Md_init_430 : decode prog_12_method_1_code 430 = .ok (.aload_n 0, 1) := by decide +kernel
theorem d_Md_init_431 : decode prog_12_method_1_code 431 = .ok (.bipush 10, 2) := by decide +kernel
theorem d_Md_init_433 : decode prog_12_method_1_code 433 = .ok (.newarray .int, 2) := by decide +kernel
theorem d_Md_init_435 : decode prog_12_method_1_code 435 = .ok (.putfield 169, 3) := by decide +kernel
theorem d_Md_init_438 : decode prog_12_method_1_code 438 = .ok (.aload_n 0, 1) := by decide +kernel
theorem d_Md_init_439 : decode prog_12_method_1_code 439 = .ok (.sipush 1024, 3) := by decide +kernel
theorem d_Md_init_442 : decode prog_12_method_1_code 442 = .ok (.newarray .int, 2) := by decide +kernel
theorem d_Md_init_444 : decode prog_12_method_1_code 444 = .ok (.putfield 172, 3) := by decide +kernel
theorem d_Md_init_447 : decode prog_12_method_1_code 447 = .ok (.aload_n 0, 1) := by decide +kernel
theorem d_Md_init_448 : decode prog_12_method_1_code 448 = .ok (.sipush 1024, 3) := by decide +kernel
theorem d_Md_init_451 : decode prog_12_method_1_code 451 = .ok (.newarray .int, 2) := by decide +kernel
theorem d_Md_init_453 : decode prog_12_method_1_code 453 = .ok (.putfield 175, 3) := by decide +kernel
theorem d_Md_init_456 : decode prog_12_method_1_code 456 = .ok (.iconst 0, 1) := by decide +kernel
theorem d_Md_init_457 : decode prog_12_method_1_code 457 = .ok (.istore_n 1, 1) := by decide +kernel
theorem d_Md_init_458 : decode prog_12_method_1_code 458 = .ok (.iload_n 1, 1) := by decide +kernel
theorem d_Md_init_459 : decode prog_12_method_1_code 459 = .ok (.bipush 100, 2) := by decide +kernel
theorem d_Md_init_461 : decode prog_12_method_1_code 461 = .ok (.if_icmp .ge 28, 3) := by decide +kernel
theorem d_Md_init_464 : decode prog_12_method_1_code 464 = .ok (.aload_n 0, 1) := by decide +kernel
theorem d_Md_init_465 : decode prog_12_method_1_code 465 = .ok (.getfield 7, 3) := by decide +kernel
theorem d_Md_init_468 : decode prog_12_method_1_code 468 = .ok (.iload_n 1, 1) := by decide +kernel
theorem d_Md_init_469 : decode prog_12_method_1_code 469 = .ok (.iload_n 1, 1) := by decide +kernel
theorem d_Md_init_470 : decode prog_12_method_1_code 470 = .ok (.bipush 11, 2) := by decide +kernel
theorem d_Md_init_472 : decode prog_12_method_1_code 472 = .ok (.irem, 1) := by decide +kernel
theorem d_Md_init_473 : decode prog_12_method_1_code 473 = .ok (.ifCond .ne 7, 3) := by decide +kernel
theorem d_Md_init_476 : decode prog_12_method_1_code 476 = .ok (.iconst 0, 1) := by decide +kernel
theorem d_Md_init_477 : decode prog_12_method_1_code 477 = .ok (.goto 5, 3) := by decide +kernel
theorem d_Md_init_480 : decode prog_12_method_1_code 480 = .ok (.ldc 178, 2) := by decide +kernel
theorem d_Md_init_482 : decode prog_12_method_1_code 482 = .ok (.iastore, 1) := by decide +kernel
theorem d_Md_init_483 : decode prog_12_method_1_code 483 = .ok (.iinc 1 1, 3) := by decide +kernel
theorem d_Md_init_486 : decode prog_12_method_1_code 486 = .ok (.goto (-28), 3) := by decide +kernel
theorem d_Md_init_489 : decode prog_12_method_1_code 489 = .ok (.iconst 0, 1) := by decide +kernel
theorem d_Md_init_490 : decode prog_12_method_1_code 490 = .ok (.istore_n 1, 1) := by decide +kernel
theorem d_Md_init_491 : decode prog_12_method_1_code 491 = .ok (.iload_n 1, 1) := by decide +kernel
theorem d_Md_init_492 : decode prog_12_method_1_code 492 = .ok (.bipush 8, 2) := by decide +kernel
theorem d_Md_init_494 : decode prog_12_method_1_code 494 = .ok (.if_icmp .ge 16, 3) := by decide +kernel
theorem d_Md_init_497 : decode prog_12_method_1_code 497 = .ok (.aload_n 0, 1) := by decide +kernel
theorem d_Md_init_498 : decode prog_12_method_1_code 498 = .ok (.getfield 151, 3) := by decide +kernel
theorem d_Md_init_501 : decode prog_12_method_1_code 501 = .ok (.iload_n 1, 1) := by decide +kernel
theorem d_Md_init_502 : decode prog_12_method_1_code 502 = .ok (.iconst (-1), 1) := by decide +kernel
theorem d_Md_init_503 : decode prog_12_method_1_code 503 = .ok (.iastore, 1) := by decide +kernel
theorem d_Md_init_504 : decode prog_12_method_1_code 504 = .ok (.iinc 1 1, 3) := by decide +kernel
theorem d_Md_init_507 : decode prog_12_method_1_code 507 = .ok (.goto (-16), 3) := by decide +kernel
theorem d_Md_init_510 : decode prog_12_method_1_code 510 = .ok (.return_, 1) := by decide +kernel
def w_Md (G : GE) (h0 : Nat) (f g : Int → Int) (u : Nat → Nat) : va_W := (h0, .inr (10, [.ref (u 0), vI 0, .ref (u 1), .ref (u 2), .ref (u 3), vI 0, .ref (u 4), .ref (u 5), .ref (u 6), vI 0, vI 0, .ref (u 7), vI 0, vI 0, vI 0, vI 0, .ref (u 8), .ref (u 9), .ref (u 10), .ref (u 11), .ref (u 12), .ref (u 13), .ref (u 14), .ref (u 15), .ref (u 16), .ref (u 17), .ref (u 18), .ref (u 19), .ref (u 20), .ref (u 21), .ref (u 22), vI 0, .ref (u 23), vI 0, .ref (u 24), .ref (u 25), .ref (u 26), .ref (u 27), vI 0, .ref (u 28), .ref (u 29), .ref (u 30), .ref (u 31), .ref (u 32), .ref (u 33), vI 0, vI 0, vI 0, vI 0, vI 0, .ref (u 34), .ref (u 35), .ref (u 36), .ref (u 37), vI 0, .ref (u 38), .ref (u 39), vI 2, .ref (u 40), .ref (u 41), .ref (u 42), .ref (u 43), .ref (u 44), .ref (u 45), .ref (u 46), .ref (u 47), .ref (u 48), .ref (u 49), .ref (u 50), vI 0, vI 0, vI 0, .ref (u 51), .ref (u 52), .ref (u 53)])) :: [((u 0), .inl (G.2.2 0, 100, .inl (fun j : Nat => iI (f (j : Int))))), ((u 1), .inl (G.2.2 0, 200, .inl (fun _ => 0))), ((u 2), .inl (G.2.2 0, 200, .inl (fun _ => 0))), ((u 3), .inl (G.2.2 0, 200, .inl (fun _ => 0))), ((u 4), .inl (G.2.2 0, 200, .inl (fun _ => 0))), ((u 5), .inl (G.2.2 0, 240, .inl (fun _ => 0))), ((u 6), .inl (G.2.2 0, 20, .inl (fun _ => 0))), ((u 7), .inl (G.2.2 0, 12, .inl (fun _ => 0))), ((u 8), .inl (G.2.2 2, 400, .inl (fun _ => 0))), ((u 9), .inl (G.2.2 2, 400, .inl (fun _ => 0))), ((u 10), .inl (G.2.2 2, 40, .inl (fun _ => 0))), ((u 11), .inl (G.2.2 2, 40, .inl (fun _ => 0))), ((u 12), .inl (G.2.2 2, 40, .inl (fun _ => 0))), ((u 13), .inl (G.2.2 0, 20, .inl (fun _ => 0))), ((u 14), .inl (G.2.2 0, 20, .inl (fun _ => 0))), ((u 15), .inl (G.2.2 0, 20, .inl (fun _ => 0))), ((u 16), .inl (G.2.2 0, 40, .inl (fun _ => 0))), ((u 17), .inl (G.2.2 0, 40, .inl (fun _ => 0))), ((u 18), .inl (G.2.2 0, 40, .inl (fun _ => 0))), ((u 19), .inl (G.2.2 0, 40, .inl (fun _ => 0))), ((u 20), .inl (G.2.2 0, 40, .inl (fun _ => 0))), ((u 21), .inl (G.2.2 0, 40, .inl (fun _ => 0))), ((u 22), .inl (G.2.2 0, 40, .inl (fun _ => 0))), ((u 23), .inl (G.2.2 0, 40, .inl (fun _ => 0))), ((u 24), .inl (G.2.2 0, 46080, .inl (fun _ => 0))), ((u 25), .inl (G.2.2 0, 9, .inl (fun _ => 0))), ((u 26), .inl (G.2.2 0, 9, .inl (fun _ => 0))), ((u 27), .inl (G.2.2 0, 9, .inl (fun _ => 0))), ((u 28), .inl (G.2.2 0, 12000, .inl (fun _ => 0))), ((u 29), .inl (G.2.2 0, 160, .inl (fun _ => 0))), ((u 30), .inl (G.2.2 0, 160, .inl (fun _ => 0))), ((u 31), .inl (G.2.2 0, 20, .inl (fun _ => 0))), ((u 32), .inl (G.2.2 0, 20, .inl (fun _ => 0))), ((u 33), .inl (G.2.2 0, 200, .inl (fun _ => 0))), ((u 34), .inl (G.2.2 0, 128, .inl (fun _ => 0))), ((u 35), .inl (G.2.2 0, 30, .inl (fun _ => 0))), ((u 36), .inl (G.2.2 0, 30, .inl (fun _ => 0))), ((u 37), .inl (G.2.2 0, 30, .inl (fun _ => 0))), ((u 38), .inl (G.2.2 0, 32, .inl (fun _ => 0))), ((u 39), .inl (G.2.2 0, 384, .inl (fun _ => 0))), ((u 40), .inl (G.2.2 0, 8, .inl (fun _ => 0))), ((u 41), .inl (G.2.2 0, 8, .inl (fun _ => 0))), ((u 42), .inl (G.2.2 0, 8, .inl (fun _ => 0))), ((u 43), .inl (G.2.2 0, 8, .inl (fun _ => 0))), ((u 44), .inl (G.2.2 0, 8, .inl (fun _ => 0))), ((u 45), .inl (G.2.2 0, 8, .inl (fun j : Nat => iI (g (j : Int))))), ((u 46), .inl (G.2.2 0, 8, .inl (fun _ => 0))), ((u 47), .inl (G.2.2 0, 10, .inl (fun _ => 0))), ((u 48), .inl (G.2.2 0, 10, .inl (fun _ => 0))), ((u 49), .inl (G.2.2 0, 10, .inl (fun _ => 0))), ((u 50), .inl (G.2.2 0, 10, .inl (fun _ => 0))), ((u 51), .inl (G.2.2 0, 10, .inl (fun _ => 0))), ((u 52), .inl (G.2.2 0, 1024, .inl (fun _ => 0))), ((u 53), .inl (G.2.2 0, 1024, .inl (fun _ => 0)))]
def fLa (z : Int) : Int := if 0 ≤ z ∧ z < 100 then (if z / 10 = z % 10 then 0 else 1000000) else 0
set_option maxHeartbeats 4000000 in
set_option maxRecDepth 100000 in
theorem ctor_La_in {F : FT} {G : GE} {h0 : Nat} (hG : F.2.1 = G) (hm : F.2.2.2.2.2.2.2.2.2.2.2.2.2.2.1 = 3) (ok : OkC F prog_5_method_1_code "LastSeen$Land" ({ frames := 1, cells := 1, slots := 100, locals := 20 } : Room)) {u : Nat → Nat} : ∀ (t : Nat) (x y : Int) (f : Int → Int), 0 ≤ x → x < 10 → 0 ≤ y → y ≤ 10 → 10 - y ≤ t → (∀ z, f z = if 0 ≤ z ∧ z < x * 10 + y then fLa z else 0) → (∀ f2 : Int → Int, (∀ z, f2 z = if 0 ≤ z ∧ z < x * 10 + 10 then fLa z else 0) → AtC F 1 100 56 [(0, .ref h0), (1, vI x)] [] (w_La G h0 f2 u)) → AtC F 1 100 22 [(0, .ref h0), (1, vI x), (2, vI y)] [] (w_La G h0 f u) := by
  subst hG
  intro t
  induction t with
  | zero =>
    intro x y f h1 h2 h3 h4 h5 hf kk
    have e : y = 10 := by omega
    subst e
    refine c_iload_n ok 2 d_La_init_22 rfl rfl ?_
    refine c_bipush ok 10 d_La_init_23 (by decide) ?_
    refine c_icmp_ge ok 56 d_La_init_25 (by decide) ⟨by omega, by omega⟩ (by decide) (fun c => ?_) (fun c => ?_)
    · exact c_sub [0, 1] rfl (kk f hf)
    · omega
  | succ t ih =>
    intro x y f h1 h2 h3 h4 h5 hf kk
    refine c_iload_n ok 2 d_La_init_22 rfl rfl ?_
    refine c_bipush ok 10 d_La_init_23 (by decide) ?_
    refine c_icmp_ge ok 56 d_La_init_25 (by decide) ⟨by omega, by omega⟩ (by decide) (fun c => ?_) (fun c => ?_)
    · have e : y = 10 := by omega
      subst e
      exact c_sub [0, 1] rfl (kk f hf)
    · refine c_aload_n ok 0 d_La_init_28 rfl rfl ?_
      refine c_getf ok 1 0 (TT := T_La) (N := 2) (j := 0) in_La rfl rfl (by decide) rfl wz_La_watches rfl d_La_init_29 ?_
      refine c_iload_n ok 1 d_La_init_32 rfl rfl ?_
      refine c_bipush ok 10 d_La_init_33 (by decide) ?_
      refine c_imul ok d_La_init_35 ?_
      refine c_iload_n ok 2 d_La_init_36 rfl rfl ?_
      refine c_iadd ok d_La_init_37 ?_
      refine c_iload_n ok 1 d_La_init_38 rfl rfl ?_
      refine c_iload_n ok 2 d_La_init_39 rfl rfl ?_
      have fin : ∀ v : Int, v = fLa (x * 10 + y) → AtC F 1 100 49 [(0, .ref h0), (1, vI x), (2, vI y)] [vI v, vI (x * 10 + y), .ref (u 0)] (w_La F.2.1 h0 f u) := by
        intro v hv
        refine c_iast ok 1 (N := 100) (f := f) (f2 := fun z => if z = x * 10 + y then v else f z) d_La_init_49 (by decide) rfl ⟨by omega, by omega⟩ (fun _ => rfl) ?_
        refine c_ws (ws' := w_La F.2.1 h0 (fun z => if z = x * 10 + y then v else f z) u) rfl ?_
        refine c_iinc ok 2 (y + 1) [(2, vI (y + 1)), (0, .ref h0), (1, vI x)] d_La_init_50 rfl rfl hm (by decide) rfl ?_
        refine c_goto ok 22 d_La_init_53 (by decide) ?_
        refine c_sub [1, 2, 0] rfl (ih x (y + 1) _ h1 h2 (by omega) (by omega) (by omega) (fun z => ?_) kk)
        rw [hf z]
        by_cases hz : z = x * 10 + y
        · rw [if_pos hz, if_pos ⟨by omega, by omega⟩, hv, hz]
        · rw [if_neg hz]
          by_cases hz2 : 0 ≤ z ∧ z < x * 10 + y
          · rw [if_pos hz2, if_pos ⟨hz2.1, by omega⟩]
          · rw [if_neg hz2, if_neg (fun q => hz2 ⟨q.1, by omega⟩)]
      have hfl : fLa (x * 10 + y) = if x = y then 0 else 1000000 := by
        unfold fLa
        rw [if_pos ⟨by omega, by omega⟩, show (x * 10 + y) / 10 = x by omega, show (x * 10 + y) % 10 = y by omega]
      refine c_icmp_ne ok 47 d_La_init_40 (by decide) ⟨by omega, by omega⟩ ⟨by omega, by omega⟩ (fun c2 => ?_) (fun c2 => ?_)
      · refine c_ldc ok 1000000 wk_La_13 d_La_init_47 (by decide) ?_
        exact fin _ (by rw [hfl, if_neg c2])
      · refine c_iconst ok 0 d_La_init_43 rfl ?_
        refine c_goto ok 49 d_La_init_44 (by decide) ?_
        exact fin _ (by rw [hfl, if_pos c2])
set_option maxHeartbeats 4000000 in
set_option maxRecDepth 100000 in
theorem ctor_La_out {F : FT} {G : GE} {h0 : Nat} (hG : F.2.1 = G) (hm : F.2.2.2.2.2.2.2.2.2.2.2.2.2.2.1 = 3) (ok : OkC F prog_5_method_1_code "LastSeen$Land" ({ frames := 1, cells := 1, slots := 100, locals := 20 } : Room)) {u : Nat → Nat} (hQ : RetC F 1 100 (fun _ : Nat → Nat => True) (fun u : Nat → Nat => w_La G h0 fLa u)) : ∀ (t : Nat) (x : Int) (f : Int → Int), 0 ≤ x → x ≤ 10 → 10 - x ≤ t → (∀ z, f z = if 0 ≤ z ∧ z < x * 10 then fLa z else 0) → AtC F 1 100 14 [(0, .ref h0), (1, vI x)] [] (w_La G h0 f u) := by
  have fin : ∀ f : Int → Int, (∀ z, f z = if 0 ≤ z ∧ z < 10 * 10 then fLa z else 0) → f = fLa := by
    intro f hf
    funext z
    rw [hf z]
    split
    · rfl
    · unfold fLa; rw [if_neg (by omega)]
  intro t
  induction t with
  | zero =>
    intro x f h1 h2 h3 hf
    have e : x = 10 := by omega
    subst e
    refine c_iload_n ok 1 d_La_init_14 rfl rfl ?_
    refine c_bipush ok 10 d_La_init_15 (by decide) ?_
    refine c_icmp_ge ok 62 d_La_init_17 (by decide) ⟨by omega, by omega⟩ (by decide) (fun c => ?_) (fun c => ?_)
    · rw [fin f hf]
      exact hQ _ _ _ u _ (okC_code ok) d_La_init_62 trivial rfl
    · omega
  | succ t ih =>
    intro x f h1 h2 h3 hf
    refine c_iload_n ok 1 d_La_init_14 rfl rfl ?_
    refine c_bipush ok 10 d_La_init_15 (by decide) ?_
    refine c_icmp_ge ok 62 d_La_init_17 (by decide) ⟨by omega, by omega⟩ (by decide) (fun c => ?_) (fun c => ?_)
    · have e : x = 10 := by omega
      subst e
      rw [fin f hf]
      exact hQ _ _ _ u _ (okC_code ok) d_La_init_62 trivial rfl
    · refine c_iconst ok 0 d_La_init_20 rfl ?_
      refine c_istore_n ok [(2, vI 0), (0, .ref h0), (1, vI x)] d_La_init_21 rfl hm (by decide) rfl ?_
      refine c_sub [1, 2, 0] rfl (ctor_La_in hG hm ok 10 x 0 f h1 c (by omega) (by omega) (by omega) (fun z => by rw [hf z, Int.add_zero]) (fun f2 hf2 => ?_))
      refine c_iinc ok 1 (x + 1) [(1, vI (x + 1)), (0, .ref h0)] d_La_init_56 rfl rfl hm (by decide) rfl ?_
      refine c_goto ok 14 d_La_init_59 (by decide) ?_
      exact c_sub [1, 0] rfl (ih (x + 1) f2 (by omega) (by omega) (by omega) (fun z => by rw [hf2 z, show x * 10 + 10 = (x + 1) * 10 by omega]))
set_option maxHeartbeats 4000000 in
set_option maxRecDepth 100000 in
theorem C_La (l : Launch) (G : GE) (h0 : Nat) (sz : Nat) : Met l y_La_init (Cond.code y_La_init prog_5_method_1_code 3 none :: lw_ok) ({ frames := 1, cells := 1, slots := 100, locals := 20 } : Room) (va_Pc [.ref h0] (fun U => U.heap.size = sz ∧ va_P G.2.1 classes [(h0, .inr (1, df_La))] U.heap ∧ va_K G.2.1 classes (tysG G) U ∧ nwK U ∧ va_D (fun _ => True) [(h0, .inr (1, df_La))])) (va_Qv (fun _ : Nat → Nat => True) (fun u t => va_P G.2.1 classes ((fun u : Nat → Nat => w_La G h0 fLa u) u) t.heap ∧ va_D (va_A [(h0, .inr (1, df_La))] sz) ((fun u : Nat → Nat => w_La G h0 fLa u) u)) (va_A [(h0, .inr (1, df_La))] sz)) 1 100 (va_A [(h0, .inr (1, df_La))] sz) := by
  refine met_c (wN := (fun u : Nat → Nat => w_La G h0 fLa u)) (lv := [(0, .ref h0)]) [(h0, .inr (1, df_La))] (by decide) (Nat.le_of_ble_eq_true rfl) rfl rfl (fun F hl hG hm hini ok hQ => ?_) sz
  subst hG
  refine c_aload_n ok 0 d_La_init_0 rfl rfl ?_
  refine c_objInit ok wl_La_1 wz_oi wz_oc (Nat.le_of_ble_eq_true rfl) (Nat.le_of_ble_eq_true rfl) d_La_init_1 ?_
  refine c_aload_n ok 0 d_La_init_4 rfl rfl ?_
  refine c_bipush ok 100 d_La_init_5 (by decide) ?_
  refine c_newI ok 100 rfl (Nat.le_of_ble_eq_true rfl) wz_arr_I (Nat.le_of_ble_eq_true rfl) (Nat.le_of_ble_eq_true rfl) d_La_init_7 (fun q0 => ?_)
  refine c_putF ok 1 (TT := T_La) (N := 2) (j := 0) (ty := .array .int) in_La to_La n_La rfl (by decide) rfl wz_La_watches rfl hini rfl rfl rfl rfl (Nat.le_of_ble_eq_true rfl) d_La_init_9 ?_
  refine c_ws (ws' := (h0, .inr (1, [.ref q0, vI 0])) :: [(q0, .inl (F.2.1.2.2 0, 100, .inl (fun _ => 0)))]) rfl ?_
  refine c_ws (ws' := w_La F.2.1 h0 (fun _ => 0) (u_of [q0])) rfl ?_
  refine c_iconst ok 0 d_La_init_12 rfl ?_
  refine c_istore_n ok [(1, vI 0), (0, .ref h0)] d_La_init_13 rfl hm (by decide) rfl ?_
  exact c_sub [1, 0] rfl (ctor_La_out rfl hm ok hQ 10 0 _ (by omega) (by omega) (by omega) (fun z => by rw [if_neg (by omega)]))
set_option maxHeartbeats 4000000 in
set_option maxRecDepth 100000 in
theorem C_Ta (l : Launch) (G : GE) (h0 : Nat) (sz : Nat) : Met l y_Ta_init (Cond.code y_Ta_init prog_8_method_1_code 1 none :: lw_ok) ({ frames := 1, cells := 1, slots := 200, locals := 20 } : Room) (va_Pc [.ref h0] (fun U => U.heap.size = sz ∧ va_P G.2.1 classes [(h0, .inr (2, df_Ta))] U.heap ∧ va_K G.2.1 classes (tysG G) U ∧ nwK U ∧ va_D (fun _ => True) [(h0, .inr (2, df_Ta))])) (va_Qv (fun _ : Nat → Nat => True) (fun u t => va_P G.2.1 classes ((fun u : Nat → Nat => w_Ta G h0 u) u) t.heap ∧ va_D (va_A [(h0, .inr (2, df_Ta))] sz) ((fun u : Nat → Nat => w_Ta G h0 u) u)) (va_A [(h0, .inr (2, df_Ta))] sz)) 1 200 (va_A [(h0, .inr (2, df_Ta))] sz) := by
  refine met_c (wN := (fun u : Nat → Nat => w_Ta G h0 u)) (lv := [(0, .ref h0)]) [(h0, .inr (2, df_Ta))] (by decide) (Nat.le_of_ble_eq_true rfl) rfl rfl (fun F hl hG hm hini ok hQ => ?_) sz
  subst hG
  refine c_aload_n ok 0 d_Ta_init_0 rfl rfl ?_
  refine c_objInit ok wl_Ta_1 wz_oi wz_oc (Nat.le_of_ble_eq_true rfl) (Nat.le_of_ble_eq_true rfl) d_Ta_init_1 ?_
  refine c_aload_n ok 0 d_Ta_init_4 rfl rfl ?_
  refine c_sipush ok 200 d_Ta_init_5 (by decide) ?_
  refine c_newB ok 200 rfl (Nat.le_of_ble_eq_true rfl) wz_arr_B (Nat.le_of_ble_eq_true rfl) (Nat.le_of_ble_eq_true rfl) d_Ta_init_8 (fun q0 => ?_)
  refine c_putF ok 2 (TT := T_Ta) (N := 2) (j := 0) (ty := .array .byte) in_Ta to_Ta n_Ta rfl (by decide) rfl wz_Ta_bytes rfl hini rfl rfl rfl rfl (Nat.le_of_ble_eq_true rfl) d_Ta_init_10 ?_
  refine c_ws (ws' := (h0, .inr (2, [.ref q0, vI 0])) :: [(q0, .inl (F.2.1.2.2 1, 200, .inl (fun _ => 0)))]) rfl ?_
  exact hQ _ _ _ (u_of [q0]) _ (okC_code ok) d_Ta_init_13 trivial rfl
set_option maxHeartbeats 4000000 in
set_option maxRecDepth 100000 in
theorem C_Na (l : Launch) (G : GE) (h0 : Nat) (sz : Nat) : Met l y_Na_init (Cond.code y_Na_init prog_6_method_1_code 1 none :: lw_ok) ({ frames := 1, cells := 12, slots := 1552, locals := 20 } : Room) (va_Pc [.ref h0] (fun U => U.heap.size = sz ∧ va_P G.2.1 classes [(h0, .inr (3, df_Na))] U.heap ∧ va_K G.2.1 classes (tysG G) U ∧ nwK U ∧ va_D (fun _ => True) [(h0, .inr (3, df_Na))])) (va_Qv (fun _ : Nat → Nat => True) (fun u t => va_P G.2.1 classes ((fun u : Nat → Nat => w_Na G h0 u) u) t.heap ∧ va_D (va_A [(h0, .inr (3, df_Na))] sz) ((fun u : Nat → Nat => w_Na G h0 u) u)) (va_A [(h0, .inr (3, df_Na))] sz)) 12 1552 (va_A [(h0, .inr (3, df_Na))] sz) := by
  refine met_c (wN := (fun u : Nat → Nat => w_Na G h0 u)) (lv := [(0, .ref h0)]) [(h0, .inr (3, df_Na))] (by decide) (Nat.le_of_ble_eq_true rfl) rfl rfl (fun F hl hG hm hini ok hQ => ?_) sz
  subst hG
  refine c_aload_n ok 0 d_Na_init_0 rfl rfl ?_
  refine c_objInit ok wl_Na_3 wz_oi wz_oc (Nat.le_of_ble_eq_true rfl) (Nat.le_of_ble_eq_true rfl) d_Na_init_1 ?_
  refine c_aload_n ok 0 d_Na_init_4 rfl rfl ?_
  refine c_sipush ok 240 d_Na_init_5 (by decide) ?_
  refine c_newI ok 240 rfl (Nat.le_of_ble_eq_true rfl) wz_arr_I (Nat.le_of_ble_eq_true rfl) (Nat.le_of_ble_eq_true rfl) d_Na_init_8 (fun q0 => ?_)
  refine c_putF ok 3 (TT := T_Na) (N := 15) (j := 0) (ty := .array .int) in_Na to_Na n_Na rfl (by decide) rfl wz_Na_letters rfl hini rfl rfl rfl rfl (Nat.le_of_ble_eq_true rfl) d_Na_init_10 ?_
  refine c_ws (ws' := (h0, .inr (3, [.ref q0, .null, .null, vI 0, .null, .null, .null, .null, vI 0, .null, .null, vI 0, .null, .null, .null])) :: [(q0, .inl (F.2.1.2.2 0, 240, .inl (fun _ => 0)))]) rfl ?_
  refine c_aload_n ok 0 d_Na_init_13 rfl rfl ?_
  refine c_bipush ok 20 d_Na_init_14 (by decide) ?_
  refine c_newI ok 20 rfl (Nat.le_of_ble_eq_true rfl) wz_arr_I (Nat.le_of_ble_eq_true rfl) (Nat.le_of_ble_eq_true rfl) d_Na_init_16 (fun q1 => ?_)
  refine c_putF ok 3 (TT := T_Na) (N := 15) (j := 1) (ty := .array .int) in_Na to_Na n_Na rfl (by decide) rfl wz_Na_keySizes rfl hini rfl rfl rfl rfl (Nat.le_of_ble_eq_true rfl) d_Na_init_18 ?_
  refine c_ws (ws' := (h0, .inr (3, [.ref q0, .ref q1, .null, vI 0, .null, .null, .null, .null, vI 0, .null, .null, vI 0, .null, .null, .null])) :: [(q0, .inl (F.2.1.2.2 0, 240, .inl (fun _ => 0))), (q1, .inl (F.2.1.2.2 0, 20, .inl (fun _ => 0)))]) rfl ?_
  refine c_aload_n ok 0 d_Na_init_21 rfl rfl ?_
  refine c_bipush ok 20 d_Na_init_22 (by decide) ?_
  refine c_newI ok 20 rfl (Nat.le_of_ble_eq_true rfl) wz_arr_I (Nat.le_of_ble_eq_true rfl) (Nat.le_of_ble_eq_true rfl) d_Na_init_24 (fun q2 => ?_)
  refine c_putF ok 3 (TT := T_Na) (N := 15) (j := 2) (ty := .array .int) in_Na to_Na n_Na rfl (by decide) rfl wz_Na_enteredAt rfl hini rfl rfl rfl rfl (Nat.le_of_ble_eq_true rfl) d_Na_init_26 ?_
  refine c_ws (ws' := (h0, .inr (3, [.ref q0, .ref q1, .ref q2, vI 0, .null, .null, .null, .null, vI 0, .null, .null, vI 0, .null, .null, .null])) :: [(q0, .inl (F.2.1.2.2 0, 240, .inl (fun _ => 0))), (q1, .inl (F.2.1.2.2 0, 20, .inl (fun _ => 0))), (q2, .inl (F.2.1.2.2 0, 20, .inl (fun _ => 0)))]) rfl ?_
  refine c_aload_n ok 0 d_Na_init_29 rfl rfl ?_
  refine c_sipush ok 200 d_Na_init_30 (by decide) ?_
  refine c_newI ok 200 rfl (Nat.le_of_ble_eq_true rfl) wz_arr_I (Nat.le_of_ble_eq_true rfl) (Nat.le_of_ble_eq_true rfl) d_Na_init_33 (fun q3 => ?_)
  refine c_putF ok 3 (TT := T_Na) (N := 15) (j := 4) (ty := .array .int) in_Na to_Na n_Na rfl (by decide) rfl wz_Na_decreeA rfl hini rfl rfl rfl rfl (Nat.le_of_ble_eq_true rfl) d_Na_init_35 ?_
  refine c_ws (ws' := (h0, .inr (3, [.ref q0, .ref q1, .ref q2, vI 0, .ref q3, .null, .null, .null, vI 0, .null, .null, vI 0, .null, .null, .null])) :: [(q0, .inl (F.2.1.2.2 0, 240, .inl (fun _ => 0))), (q1, .inl (F.2.1.2.2 0, 20, .inl (fun _ => 0))), (q2, .inl (F.2.1.2.2 0, 20, .inl (fun _ => 0))), (q3, .inl (F.2.1.2.2 0, 200, .inl (fun _ => 0)))]) rfl ?_
  refine c_aload_n ok 0 d_Na_init_38 rfl rfl ?_
  refine c_sipush ok 200 d_Na_init_39 (by decide) ?_
  refine c_newI ok 200 rfl (Nat.le_of_ble_eq_true rfl) wz_arr_I (Nat.le_of_ble_eq_true rfl) (Nat.le_of_ble_eq_true rfl) d_Na_init_42 (fun q4 => ?_)
  refine c_putF ok 3 (TT := T_Na) (N := 15) (j := 5) (ty := .array .int) in_Na to_Na n_Na rfl (by decide) rfl wz_Na_decreeB rfl hini rfl rfl rfl rfl (Nat.le_of_ble_eq_true rfl) d_Na_init_44 ?_
  refine c_ws (ws' := (h0, .inr (3, [.ref q0, .ref q1, .ref q2, vI 0, .ref q3, .ref q4, .null, .null, vI 0, .null, .null, vI 0, .null, .null, .null])) :: [(q0, .inl (F.2.1.2.2 0, 240, .inl (fun _ => 0))), (q1, .inl (F.2.1.2.2 0, 20, .inl (fun _ => 0))), (q2, .inl (F.2.1.2.2 0, 20, .inl (fun _ => 0))), (q3, .inl (F.2.1.2.2 0, 200, .inl (fun _ => 0))), (q4, .inl (F.2.1.2.2 0, 200, .inl (fun _ => 0)))]) rfl ?_
  refine c_aload_n ok 0 d_Na_init_47 rfl rfl ?_
  refine c_sipush ok 200 d_Na_init_48 (by decide) ?_
  refine c_newI ok 200 rfl (Nat.le_of_ble_eq_true rfl) wz_arr_I (Nat.le_of_ble_eq_true rfl) (Nat.le_of_ble_eq_true rfl) d_Na_init_51 (fun q5 => ?_)
  refine c_putF ok 3 (TT := T_Na) (N := 15) (j := 6) (ty := .array .int) in_Na to_Na n_Na rfl (by decide) rfl wz_Na_decreeBond rfl hini rfl rfl rfl rfl (Nat.le_of_ble_eq_true rfl) d_Na_init_53 ?_
  refine c_ws (ws' := (h0, .inr (3, [.ref q0, .ref q1, .ref q2, vI 0, .ref q3, .ref q4, .ref q5, .null, vI 0, .null, .null, vI 0, .null, .null, .null])) :: [(q0, .inl (F.2.1.2.2 0, 240, .inl (fun _ => 0))), (q1, .inl (F.2.1.2.2 0, 20, .inl (fun _ => 0))), (q2, .inl (F.2.1.2.2 0, 20, .inl (fun _ => 0))), (q3, .inl (F.2.1.2.2 0, 200, .inl (fun _ => 0))), (q4, .inl (F.2.1.2.2 0, 200, .inl (fun _ => 0))), (q5, .inl (F.2.1.2.2 0, 200, .inl (fun _ => 0)))]) rfl ?_
  refine c_aload_n ok 0 d_Na_init_56 rfl rfl ?_
  refine c_sipush ok 200 d_Na_init_57 (by decide) ?_
  refine c_newI ok 200 rfl (Nat.le_of_ble_eq_true rfl) wz_arr_I (Nat.le_of_ble_eq_true rfl) (Nat.le_of_ble_eq_true rfl) d_Na_init_60 (fun q6 => ?_)
  refine c_putF ok 3 (TT := T_Na) (N := 15) (j := 7) (ty := .array .int) in_Na to_Na n_Na rfl (by decide) rfl wz_Na_decreedAt rfl hini rfl rfl rfl rfl (Nat.le_of_ble_eq_true rfl) d_Na_init_62 ?_
  refine c_ws (ws' := (h0, .inr (3, [.ref q0, .ref q1, .ref q2, vI 0, .ref q3, .ref q4, .ref q5, .ref q6, vI 0, .null, .null, vI 0, .null, .null, .null])) :: [(q0, .inl (F.2.1.2.2 0, 240, .inl (fun _ => 0))), (q1, .inl (F.2.1.2.2 0, 20, .inl (fun _ => 0))), (q2, .inl (F.2.1.2.2 0, 20, .inl (fun _ => 0))), (q3, .inl (F.2.1.2.2 0, 200, .inl (fun _ => 0))), (q4, .inl (F.2.1.2.2 0, 200, .inl (fun _ => 0))), (q5, .inl (F.2.1.2.2 0, 200, .inl (fun _ => 0))), (q6, .inl (F.2.1.2.2 0, 200, .inl (fun _ => 0)))]) rfl ?_
  refine c_aload_n ok 0 d_Na_init_65 rfl rfl ?_
  refine c_sipush ok 400 d_Na_init_66 (by decide) ?_
  refine c_newI ok 400 rfl (Nat.le_of_ble_eq_true rfl) wz_arr_I (Nat.le_of_ble_eq_true rfl) (Nat.le_of_ble_eq_true rfl) d_Na_init_69 (fun q7 => ?_)
  refine c_putF ok 3 (TT := T_Na) (N := 15) (j := 9) (ty := .array .int) in_Na to_Na n_Na rfl (by decide) rfl wz_Na_bonds rfl hini rfl rfl rfl rfl (Nat.le_of_ble_eq_true rfl) d_Na_init_71 ?_
  refine c_ws (ws' := (h0, .inr (3, [.ref q0, .ref q1, .ref q2, vI 0, .ref q3, .ref q4, .ref q5, .ref q6, vI 0, .ref q7, .null, vI 0, .null, .null, .null])) :: [(q0, .inl (F.2.1.2.2 0, 240, .inl (fun _ => 0))), (q1, .inl (F.2.1.2.2 0, 20, .inl (fun _ => 0))), (q2, .inl (F.2.1.2.2 0, 20, .inl (fun _ => 0))), (q3, .inl (F.2.1.2.2 0, 200, .inl (fun _ => 0))), (q4, .inl (F.2.1.2.2 0, 200, .inl (fun _ => 0))), (q5, .inl (F.2.1.2.2 0, 200, .inl (fun _ => 0))), (q6, .inl (F.2.1.2.2 0, 200, .inl (fun _ => 0))), (q7, .inl (F.2.1.2.2 0, 400, .inl (fun _ => 0)))]) rfl ?_
  refine c_aload_n ok 0 d_Na_init_74 rfl rfl ?_
  refine c_bipush ok 20 d_Na_init_75 (by decide) ?_
  refine c_newI ok 20 rfl (Nat.le_of_ble_eq_true rfl) wz_arr_I (Nat.le_of_ble_eq_true rfl) (Nat.le_of_ble_eq_true rfl) d_Na_init_77 (fun q8 => ?_)
  refine c_putF ok 3 (TT := T_Na) (N := 15) (j := 10) (ty := .array .int) in_Na to_Na n_Na rfl (by decide) rfl wz_Na_persons rfl hini rfl rfl rfl rfl (Nat.le_of_ble_eq_true rfl) d_Na_init_79 ?_
  refine c_ws (ws' := (h0, .inr (3, [.ref q0, .ref q1, .ref q2, vI 0, .ref q3, .ref q4, .ref q5, .ref q6, vI 0, .ref q7, .ref q8, vI 0, .null, .null, .null])) :: [(q0, .inl (F.2.1.2.2 0, 240, .inl (fun _ => 0))), (q1, .inl (F.2.1.2.2 0, 20, .inl (fun _ => 0))), (q2, .inl (F.2.1.2.2 0, 20, .inl (fun _ => 0))), (q3, .inl (F.2.1.2.2 0, 200, .inl (fun _ => 0))), (q4, .inl (F.2.1.2.2 0, 200, .inl (fun _ => 0))), (q5, .inl (F.2.1.2.2 0, 200, .inl (fun _ => 0))), (q6, .inl (F.2.1.2.2 0, 200, .inl (fun _ => 0))), (q7, .inl (F.2.1.2.2 0, 400, .inl (fun _ => 0))), (q8, .inl (F.2.1.2.2 0, 20, .inl (fun _ => 0)))]) rfl ?_
  refine c_aload_n ok 0 d_Na_init_82 rfl rfl ?_
  refine c_bipush ok 20 d_Na_init_83 (by decide) ?_
  refine c_newI ok 20 rfl (Nat.le_of_ble_eq_true rfl) wz_arr_I (Nat.le_of_ble_eq_true rfl) (Nat.le_of_ble_eq_true rfl) d_Na_init_85 (fun q9 => ?_)
  refine c_putF ok 3 (TT := T_Na) (N := 15) (j := 12) (ty := .array .int) in_Na to_Na n_Na rfl (by decide) rfl wz_Na_row rfl hini rfl rfl rfl rfl (Nat.le_of_ble_eq_true rfl) d_Na_init_87 ?_
  refine c_ws (ws' := (h0, .inr (3, [.ref q0, .ref q1, .ref q2, vI 0, .ref q3, .ref q4, .ref q5, .ref q6, vI 0, .ref q7, .ref q8, vI 0, .ref q9, .null, .null])) :: [(q0, .inl (F.2.1.2.2 0, 240, .inl (fun _ => 0))), (q1, .inl (F.2.1.2.2 0, 20, .inl (fun _ => 0))), (q2, .inl (F.2.1.2.2 0, 20, .inl (fun _ => 0))), (q3, .inl (F.2.1.2.2 0, 200, .inl (fun _ => 0))), (q4, .inl (F.2.1.2.2 0, 200, .inl (fun _ => 0))), (q5, .inl (F.2.1.2.2 0, 200, .inl (fun _ => 0))), (q6, .inl (F.2.1.2.2 0, 200, .inl (fun _ => 0))), (q7, .inl (F.2.1.2.2 0, 400, .inl (fun _ => 0))), (q8, .inl (F.2.1.2.2 0, 20, .inl (fun _ => 0))), (q9, .inl (F.2.1.2.2 0, 20, .inl (fun _ => 0)))]) rfl ?_
  refine c_aload_n ok 0 d_Na_init_90 rfl rfl ?_
  refine c_bipush ok 20 d_Na_init_91 (by decide) ?_
  refine c_newI ok 20 rfl (Nat.le_of_ble_eq_true rfl) wz_arr_I (Nat.le_of_ble_eq_true rfl) (Nat.le_of_ble_eq_true rfl) d_Na_init_93 (fun q10 => ?_)
  refine c_putF ok 3 (TT := T_Na) (N := 15) (j := 13) (ty := .array .int) in_Na to_Na n_Na rfl (by decide) rfl wz_Na_steps rfl hini rfl rfl rfl rfl (Nat.le_of_ble_eq_true rfl) d_Na_init_95 ?_
  refine c_ws (ws' := (h0, .inr (3, [.ref q0, .ref q1, .ref q2, vI 0, .ref q3, .ref q4, .ref q5, .ref q6, vI 0, .ref q7, .ref q8, vI 0, .ref q9, .ref q10, .null])) :: [(q0, .inl (F.2.1.2.2 0, 240, .inl (fun _ => 0))), (q1, .inl (F.2.1.2.2 0, 20, .inl (fun _ => 0))), (q2, .inl (F.2.1.2.2 0, 20, .inl (fun _ => 0))), (q3, .inl (F.2.1.2.2 0, 200, .inl (fun _ => 0))), (q4, .inl (F.2.1.2.2 0, 200, .inl (fun _ => 0))), (q5, .inl (F.2.1.2.2 0, 200, .inl (fun _ => 0))), (q6, .inl (F.2.1.2.2 0, 200, .inl (fun _ => 0))), (q7, .inl (F.2.1.2.2 0, 400, .inl (fun _ => 0))), (q8, .inl (F.2.1.2.2 0, 20, .inl (fun _ => 0))), (q9, .inl (F.2.1.2.2 0, 20, .inl (fun _ => 0))), (q10, .inl (F.2.1.2.2 0, 20, .inl (fun _ => 0)))]) rfl ?_
  refine c_aload_n ok 0 d_Na_init_98 rfl rfl ?_
  refine c_bipush ok 12 d_Na_init_99 (by decide) ?_
  refine c_newI ok 12 rfl (Nat.le_of_ble_eq_true rfl) wz_arr_I (Nat.le_of_ble_eq_true rfl) (Nat.le_of_ble_eq_true rfl) d_Na_init_101 (fun q11 => ?_)
  refine c_putF ok 3 (TT := T_Na) (N := 15) (j := 14) (ty := .array .int) in_Na to_Na n_Na rfl (by decide) rfl wz_Na_spelled rfl hini rfl rfl rfl rfl (Nat.le_of_ble_eq_true rfl) d_Na_init_103 ?_
  refine c_ws (ws' := (h0, .inr (3, [.ref q0, .ref q1, .ref q2, vI 0, .ref q3, .ref q4, .ref q5, .ref q6, vI 0, .ref q7, .ref q8, vI 0, .ref q9, .ref q10, .ref q11])) :: [(q0, .inl (F.2.1.2.2 0, 240, .inl (fun _ => 0))), (q1, .inl (F.2.1.2.2 0, 20, .inl (fun _ => 0))), (q2, .inl (F.2.1.2.2 0, 20, .inl (fun _ => 0))), (q3, .inl (F.2.1.2.2 0, 200, .inl (fun _ => 0))), (q4, .inl (F.2.1.2.2 0, 200, .inl (fun _ => 0))), (q5, .inl (F.2.1.2.2 0, 200, .inl (fun _ => 0))), (q6, .inl (F.2.1.2.2 0, 200, .inl (fun _ => 0))), (q7, .inl (F.2.1.2.2 0, 400, .inl (fun _ => 0))), (q8, .inl (F.2.1.2.2 0, 20, .inl (fun _ => 0))), (q9, .inl (F.2.1.2.2 0, 20, .inl (fun _ => 0))), (q10, .inl (F.2.1.2.2 0, 20, .inl (fun _ => 0))), (q11, .inl (F.2.1.2.2 0, 12, .inl (fun _ => 0)))]) rfl ?_
  exact hQ _ _ _ (u_of [q0, q1, q2, q3, q4, q5, q6, q7, q8, q9, q10, q11]) _ (okC_code ok) d_Na_init_106 trivial rfl
set_option maxHeartbeats 4000000 in
set_option maxRecDepth 100000 in
theorem C_Wo (l : Launch) (G : GE) (h0 : Nat) (sz : Nat) : Met l y_Wo_init (Cond.code y_Wo_init prog_10_method_1_code 1 none :: lw_ok) ({ frames := 1, cells := 10, slots := 400, locals := 20 } : Room) (va_Pc [.ref h0] (fun U => U.heap.size = sz ∧ va_P G.2.1 classes [(h0, .inr (4, df_Wo))] U.heap ∧ va_K G.2.1 classes (tysG G) U ∧ nwK U ∧ va_D (fun _ => True) [(h0, .inr (4, df_Wo))])) (va_Qv (fun _ : Nat → Nat => True) (fun u t => va_P G.2.1 classes ((fun u : Nat → Nat => w_Wo G h0 u) u) t.heap ∧ va_D (va_A [(h0, .inr (4, df_Wo))] sz) ((fun u : Nat → Nat => w_Wo G h0 u) u)) (va_A [(h0, .inr (4, df_Wo))] sz)) 10 400 (va_A [(h0, .inr (4, df_Wo))] sz) := by
  refine met_c (wN := (fun u : Nat → Nat => w_Wo G h0 u)) (lv := [(0, .ref h0)]) [(h0, .inr (4, df_Wo))] (by decide) (Nat.le_of_ble_eq_true rfl) rfl rfl (fun F hl hG hm hini ok hQ => ?_) sz
  subst hG
  refine c_aload_n ok 0 d_Wo_init_0 rfl rfl ?_
  refine c_objInit ok wl_Wo_3 wz_oi wz_oc (Nat.le_of_ble_eq_true rfl) (Nat.le_of_ble_eq_true rfl) d_Wo_init_1 ?_
  refine c_aload_n ok 0 d_Wo_init_4 rfl rfl ?_
  refine c_bipush ok 40 d_Wo_init_5 (by decide) ?_
  refine c_newI ok 40 rfl (Nat.le_of_ble_eq_true rfl) wz_arr_I (Nat.le_of_ble_eq_true rfl) (Nat.le_of_ble_eq_true rfl) d_Wo_init_7 (fun q0 => ?_)
  refine c_putF ok 4 (TT := T_Wo) (N := 11) (j := 0) (ty := .array .int) in_Wo to_Wo n_Wo rfl (by decide) rfl wz_Wo_witness rfl hini rfl rfl rfl rfl (Nat.le_of_ble_eq_true rfl) d_Wo_init_9 ?_
  refine c_ws (ws' := (h0, .inr (4, [.ref q0, .null, .null, .null, .null, .null, .null, .null, .null, vI 0, .null])) :: [(q0, .inl (F.2.1.2.2 0, 40, .inl (fun _ => 0)))]) rfl ?_
  refine c_aload_n ok 0 d_Wo_init_12 rfl rfl ?_
  refine c_bipush ok 40 d_Wo_init_13 (by decide) ?_
  refine c_newI ok 40 rfl (Nat.le_of_ble_eq_true rfl) wz_arr_I (Nat.le_of_ble_eq_true rfl) (Nat.le_of_ble_eq_true rfl) d_Wo_init_15 (fun q1 => ?_)
  refine c_putF ok 4 (TT := T_Wo) (N := 11) (j := 1) (ty := .array .int) in_Wo to_Wo n_Wo rfl (by decide) rfl wz_Wo_names rfl hini rfl rfl rfl rfl (Nat.le_of_ble_eq_true rfl) d_Wo_init_17 ?_
  refine c_ws (ws' := (h0, .inr (4, [.ref q0, .ref q1, .null, .null, .null, .null, .null, .null, .null, vI 0, .null])) :: [(q0, .inl (F.2.1.2.2 0, 40, .inl (fun _ => 0))), (q1, .inl (F.2.1.2.2 0, 40, .inl (fun _ => 0)))]) rfl ?_
  refine c_aload_n ok 0 d_Wo_init_20 rfl rfl ?_
  refine c_bipush ok 40 d_Wo_init_21 (by decide) ?_
  refine c_newI ok 40 rfl (Nat.le_of_ble_eq_true rfl) wz_arr_I (Nat.le_of_ble_eq_true rfl) (Nat.le_of_ble_eq_true rfl) d_Wo_init_23 (fun q2 => ?_)
  refine c_putF ok 4 (TT := T_Wo) (N := 11) (j := 2) (ty := .array .int) in_Wo to_Wo n_Wo rfl (by decide) rfl wz_Wo_places rfl hini rfl rfl rfl rfl (Nat.le_of_ble_eq_true rfl) d_Wo_init_25 ?_
  refine c_ws (ws' := (h0, .inr (4, [.ref q0, .ref q1, .ref q2, .null, .null, .null, .null, .null, .null, vI 0, .null])) :: [(q0, .inl (F.2.1.2.2 0, 40, .inl (fun _ => 0))), (q1, .inl (F.2.1.2.2 0, 40, .inl (fun _ => 0))), (q2, .inl (F.2.1.2.2 0, 40, .inl (fun _ => 0)))]) rfl ?_
  refine c_aload_n ok 0 d_Wo_init_28 rfl rfl ?_
  refine c_bipush ok 40 d_Wo_init_29 (by decide) ?_
  refine c_newI ok 40 rfl (Nat.le_of_ble_eq_true rfl) wz_arr_I (Nat.le_of_ble_eq_true rfl) (Nat.le_of_ble_eq_true rfl) d_Wo_init_31 (fun q3 => ?_)
  refine c_putF ok 4 (TT := T_Wo) (N := 11) (j := 3) (ty := .array .int) in_Wo to_Wo n_Wo rfl (by decide) rfl wz_Wo_first rfl hini rfl rfl rfl rfl (Nat.le_of_ble_eq_true rfl) d_Wo_init_33 ?_
  refine c_ws (ws' := (h0, .inr (4, [.ref q0, .ref q1, .ref q2, .ref q3, .null, .null, .null, .null, .null, vI 0, .null])) :: [(q0, .inl (F.2.1.2.2 0, 40, .inl (fun _ => 0))), (q1, .inl (F.2.1.2.2 0, 40, .inl (fun _ => 0))), (q2, .inl (F.2.1.2.2 0, 40, .inl (fun _ => 0))), (q3, .inl (F.2.1.2.2 0, 40, .inl (fun _ => 0)))]) rfl ?_
  refine c_aload_n ok 0 d_Wo_init_36 rfl rfl ?_
  refine c_bipush ok 40 d_Wo_init_37 (by decide) ?_
  refine c_newI ok 40 rfl (Nat.le_of_ble_eq_true rfl) wz_arr_I (Nat.le_of_ble_eq_true rfl) (Nat.le_of_ble_eq_true rfl) d_Wo_init_39 (fun q4 => ?_)
  refine c_putF ok 4 (TT := T_Wo) (N := 11) (j := 4) (ty := .array .int) in_Wo to_Wo n_Wo rfl (by decide) rfl wz_Wo_last rfl hini rfl rfl rfl rfl (Nat.le_of_ble_eq_true rfl) d_Wo_init_41 ?_
  refine c_ws (ws' := (h0, .inr (4, [.ref q0, .ref q1, .ref q2, .ref q3, .ref q4, .null, .null, .null, .null, vI 0, .null])) :: [(q0, .inl (F.2.1.2.2 0, 40, .inl (fun _ => 0))), (q1, .inl (F.2.1.2.2 0, 40, .inl (fun _ => 0))), (q2, .inl (F.2.1.2.2 0, 40, .inl (fun _ => 0))), (q3, .inl (F.2.1.2.2 0, 40, .inl (fun _ => 0))), (q4, .inl (F.2.1.2.2 0, 40, .inl (fun _ => 0)))]) rfl ?_
  refine c_aload_n ok 0 d_Wo_init_44 rfl rfl ?_
  refine c_bipush ok 40 d_Wo_init_45 (by decide) ?_
  refine c_newI ok 40 rfl (Nat.le_of_ble_eq_true rfl) wz_arr_I (Nat.le_of_ble_eq_true rfl) (Nat.le_of_ble_eq_true rfl) d_Wo_init_47 (fun q5 => ?_)
  refine c_putF ok 4 (TT := T_Wo) (N := 11) (j := 5) (ty := .array .int) in_Wo to_Wo n_Wo rfl (by decide) rfl wz_Wo_heardOf rfl hini rfl rfl rfl rfl (Nat.le_of_ble_eq_true rfl) d_Wo_init_49 ?_
  refine c_ws (ws' := (h0, .inr (4, [.ref q0, .ref q1, .ref q2, .ref q3, .ref q4, .ref q5, .null, .null, .null, vI 0, .null])) :: [(q0, .inl (F.2.1.2.2 0, 40, .inl (fun _ => 0))), (q1, .inl (F.2.1.2.2 0, 40, .inl (fun _ => 0))), (q2, .inl (F.2.1.2.2 0, 40, .inl (fun _ => 0))), (q3, .inl (F.2.1.2.2 0, 40, .inl (fun _ => 0))), (q4, .inl (F.2.1.2.2 0, 40, .inl (fun _ => 0))), (q5, .inl (F.2.1.2.2 0, 40, .inl (fun _ => 0)))]) rfl ?_
  refine c_aload_n ok 0 d_Wo_init_52 rfl rfl ?_
  refine c_bipush ok 40 d_Wo_init_53 (by decide) ?_
  refine c_newI ok 40 rfl (Nat.le_of_ble_eq_true rfl) wz_arr_I (Nat.le_of_ble_eq_true rfl) (Nat.le_of_ble_eq_true rfl) d_Wo_init_55 (fun q6 => ?_)
  refine c_putF ok 4 (TT := T_Wo) (N := 11) (j := 6) (ty := .array .int) in_Wo to_Wo n_Wo rfl (by decide) rfl wz_Wo_roots rfl hini rfl rfl rfl rfl (Nat.le_of_ble_eq_true rfl) d_Wo_init_57 ?_
  refine c_ws (ws' := (h0, .inr (4, [.ref q0, .ref q1, .ref q2, .ref q3, .ref q4, .ref q5, .ref q6, .null, .null, vI 0, .null])) :: [(q0, .inl (F.2.1.2.2 0, 40, .inl (fun _ => 0))), (q1, .inl (F.2.1.2.2 0, 40, .inl (fun _ => 0))), (q2, .inl (F.2.1.2.2 0, 40, .inl (fun _ => 0))), (q3, .inl (F.2.1.2.2 0, 40, .inl (fun _ => 0))), (q4, .inl (F.2.1.2.2 0, 40, .inl (fun _ => 0))), (q5, .inl (F.2.1.2.2 0, 40, .inl (fun _ => 0))), (q6, .inl (F.2.1.2.2 0, 40, .inl (fun _ => 0)))]) rfl ?_
  refine c_aload_n ok 0 d_Wo_init_60 rfl rfl ?_
  refine c_bipush ok 40 d_Wo_init_61 (by decide) ?_
  refine c_newI ok 40 rfl (Nat.le_of_ble_eq_true rfl) wz_arr_I (Nat.le_of_ble_eq_true rfl) (Nat.le_of_ble_eq_true rfl) d_Wo_init_63 (fun q7 => ?_)
  refine c_putF ok 4 (TT := T_Wo) (N := 11) (j := 7) (ty := .array .int) in_Wo to_Wo n_Wo rfl (by decide) rfl wz_Wo_enteredAt rfl hini rfl rfl rfl rfl (Nat.le_of_ble_eq_true rfl) d_Wo_init_65 ?_
  refine c_ws (ws' := (h0, .inr (4, [.ref q0, .ref q1, .ref q2, .ref q3, .ref q4, .ref q5, .ref q6, .ref q7, .null, vI 0, .null])) :: [(q0, .inl (F.2.1.2.2 0, 40, .inl (fun _ => 0))), (q1, .inl (F.2.1.2.2 0, 40, .inl (fun _ => 0))), (q2, .inl (F.2.1.2.2 0, 40, .inl (fun _ => 0))), (q3, .inl (F.2.1.2.2 0, 40, .inl (fun _ => 0))), (q4, .inl (F.2.1.2.2 0, 40, .inl (fun _ => 0))), (q5, .inl (F.2.1.2.2 0, 40, .inl (fun _ => 0))), (q6, .inl (F.2.1.2.2 0, 40, .inl (fun _ => 0))), (q7, .inl (F.2.1.2.2 0, 40, .inl (fun _ => 0)))]) rfl ?_
  refine c_aload_n ok 0 d_Wo_init_68 rfl rfl ?_
  refine c_bipush ok 40 d_Wo_init_69 (by decide) ?_
  refine c_newI ok 40 rfl (Nat.le_of_ble_eq_true rfl) wz_arr_I (Nat.le_of_ble_eq_true rfl) (Nat.le_of_ble_eq_true rfl) d_Wo_init_71 (fun q8 => ?_)
  refine c_putF ok 4 (TT := T_Wo) (N := 11) (j := 8) (ty := .array .int) in_Wo to_Wo n_Wo rfl (by decide) rfl wz_Wo_droppedAt rfl hini rfl rfl rfl rfl (Nat.le_of_ble_eq_true rfl) d_Wo_init_73 ?_
  refine c_ws (ws' := (h0, .inr (4, [.ref q0, .ref q1, .ref q2, .ref q3, .ref q4, .ref q5, .ref q6, .ref q7, .ref q8, vI 0, .null])) :: [(q0, .inl (F.2.1.2.2 0, 40, .inl (fun _ => 0))), (q1, .inl (F.2.1.2.2 0, 40, .inl (fun _ => 0))), (q2, .inl (F.2.1.2.2 0, 40, .inl (fun _ => 0))), (q3, .inl (F.2.1.2.2 0, 40, .inl (fun _ => 0))), (q4, .inl (F.2.1.2.2 0, 40, .inl (fun _ => 0))), (q5, .inl (F.2.1.2.2 0, 40, .inl (fun _ => 0))), (q6, .inl (F.2.1.2.2 0, 40, .inl (fun _ => 0))), (q7, .inl (F.2.1.2.2 0, 40, .inl (fun _ => 0))), (q8, .inl (F.2.1.2.2 0, 40, .inl (fun _ => 0)))]) rfl ?_
  refine c_aload_n ok 0 d_Wo_init_76 rfl rfl ?_
  refine c_bipush ok 40 d_Wo_init_77 (by decide) ?_
  refine c_newZ ok 40 rfl (Nat.le_of_ble_eq_true rfl) wz_arr_Z (Nat.le_of_ble_eq_true rfl) (Nat.le_of_ble_eq_true rfl) d_Wo_init_79 (fun q9 => ?_)
  refine c_putF ok 4 (TT := T_Wo) (N := 11) (j := 10) (ty := .array .boolean) in_Wo to_Wo n_Wo rfl (by decide) rfl wz_Wo_standing rfl hini rfl rfl rfl rfl (Nat.le_of_ble_eq_true rfl) d_Wo_init_81 ?_
  refine c_ws (ws' := (h0, .inr (4, [.ref q0, .ref q1, .ref q2, .ref q3, .ref q4, .ref q5, .ref q6, .ref q7, .ref q8, vI 0, .ref q9])) :: [(q0, .inl (F.2.1.2.2 0, 40, .inl (fun _ => 0))), (q1, .inl (F.2.1.2.2 0, 40, .inl (fun _ => 0))), (q2, .inl (F.2.1.2.2 0, 40, .inl (fun _ => 0))), (q3, .inl (F.2.1.2.2 0, 40, .inl (fun _ => 0))), (q4, .inl (F.2.1.2.2 0, 40, .inl (fun _ => 0))), (q5, .inl (F.2.1.2.2 0, 40, .inl (fun _ => 0))), (q6, .inl (F.2.1.2.2 0, 40, .inl (fun _ => 0))), (q7, .inl (F.2.1.2.2 0, 40, .inl (fun _ => 0))), (q8, .inl (F.2.1.2.2 0, 40, .inl (fun _ => 0))), (q9, .inl (F.2.1.2.2 2, 40, .inl (fun _ => 0)))]) rfl ?_
  exact hQ _ _ _ (u_of [q0, q1, q2, q3, q4, q5, q6, q7, q8, q9]) _ (okC_code ok) d_Wo_init_84 trivial rfl
set_option maxHeartbeats 4000000 in
set_option maxRecDepth 100000 in
theorem C_Wa (l : Launch) (G : GE) (h0 : Nat) (a1 : Nat) (sz : Nat) : Met l y_Wa_init (Cond.code y_Wa_init prog_9_method_1_code 2 none :: lw_ok) ({ frames := 1, cells := 5, slots := 5157, locals := 20 } : Room) (va_Pc [.ref h0, .ref a1] (fun U => U.heap.size = sz ∧ va_P G.2.1 classes [(h0, .inr (5, df_Wa))] U.heap ∧ va_K G.2.1 classes (tysG G) U ∧ nwK U ∧ va_D (fun _ => True) [(h0, .inr (5, df_Wa))])) (va_Qv (fun _ : Nat → Nat => True) (fun u t => va_P G.2.1 classes ((fun u : Nat → Nat => w_Wa G h0 a1 u) u) t.heap ∧ va_D (va_A [(h0, .inr (5, df_Wa))] sz) ((fun u : Nat → Nat => w_Wa G h0 a1 u) u)) (va_A [(h0, .inr (5, df_Wa))] sz)) 5 5157 (va_A [(h0, .inr (5, df_Wa))] sz) := by
  refine met_c (wN := (fun u : Nat → Nat => w_Wa G h0 a1 u)) (lv := [(0, .ref h0), (1, .ref a1)]) [(h0, .inr (5, df_Wa))] (by decide) (Nat.le_of_ble_eq_true rfl) rfl rfl (fun F hl hG hm hini ok hQ => ?_) sz
  subst hG
  refine c_aload_n ok 0 d_Wa_init_0 rfl rfl ?_
  refine c_objInit ok wl_Wa_3 wz_oi wz_oc (Nat.le_of_ble_eq_true rfl) (Nat.le_of_ble_eq_true rfl) d_Wa_init_1 ?_
  refine c_aload_n ok 0 d_Wa_init_4 rfl rfl ?_
  refine c_bipush ok 9 d_Wa_init_5 (by decide) ?_
  refine c_newI ok 9 rfl (Nat.le_of_ble_eq_true rfl) wz_arr_I (Nat.le_of_ble_eq_true rfl) (Nat.le_of_ble_eq_true rfl) d_Wa_init_7 (fun q0 => ?_)
  refine c_putF ok 5 (TT := T_Wa) (N := 7) (j := 1) (ty := .array .int) in_Wa to_Wa n_Wa rfl (by decide) rfl wz_Wa_places rfl hini rfl rfl rfl rfl (Nat.le_of_ble_eq_true rfl) d_Wa_init_9 ?_
  refine c_ws (ws' := (h0, .inr (5, [.null, .ref q0, .null, .null, vI 0, .null, .null])) :: [(q0, .inl (F.2.1.2.2 0, 9, .inl (fun _ => 0)))]) rfl ?_
  refine c_aload_n ok 0 d_Wa_init_12 rfl rfl ?_
  refine c_bipush ok 9 d_Wa_init_13 (by decide) ?_
  refine c_newI ok 9 rfl (Nat.le_of_ble_eq_true rfl) wz_arr_I (Nat.le_of_ble_eq_true rfl) (Nat.le_of_ble_eq_true rfl) d_Wa_init_15 (fun q1 => ?_)
  refine c_putF ok 5 (TT := T_Wa) (N := 7) (j := 2) (ty := .array .int) in_Wa to_Wa n_Wa rfl (by decide) rfl wz_Wa_first rfl hini rfl rfl rfl rfl (Nat.le_of_ble_eq_true rfl) d_Wa_init_17 ?_
  refine c_ws (ws' := (h0, .inr (5, [.null, .ref q0, .ref q1, .null, vI 0, .null, .null])) :: [(q0, .inl (F.2.1.2.2 0, 9, .inl (fun _ => 0))), (q1, .inl (F.2.1.2.2 0, 9, .inl (fun _ => 0)))]) rfl ?_
  refine c_aload_n ok 0 d_Wa_init_20 rfl rfl ?_
  refine c_bipush ok 9 d_Wa_init_21 (by decide) ?_
  refine c_newI ok 9 rfl (Nat.le_of_ble_eq_true rfl) wz_arr_I (Nat.le_of_ble_eq_true rfl) (Nat.le_of_ble_eq_true rfl) d_Wa_init_23 (fun q2 => ?_)
  refine c_putF ok 5 (TT := T_Wa) (N := 7) (j := 3) (ty := .array .int) in_Wa to_Wa n_Wa rfl (by decide) rfl wz_Wa_last rfl hini rfl rfl rfl rfl (Nat.le_of_ble_eq_true rfl) d_Wa_init_25 ?_
  refine c_ws (ws' := (h0, .inr (5, [.null, .ref q0, .ref q1, .ref q2, vI 0, .null, .null])) :: [(q0, .inl (F.2.1.2.2 0, 9, .inl (fun _ => 0))), (q1, .inl (F.2.1.2.2 0, 9, .inl (fun _ => 0))), (q2, .inl (F.2.1.2.2 0, 9, .inl (fun _ => 0)))]) rfl ?_
  refine c_aload_n ok 0 d_Wa_init_28 rfl rfl ?_
  refine c_sipush ok 5120 d_Wa_init_29 (by decide) ?_
  refine c_newI ok 5120 rfl (Nat.le_of_ble_eq_true rfl) wz_arr_I (Nat.le_of_ble_eq_true rfl) (Nat.le_of_ble_eq_true rfl) d_Wa_init_32 (fun q3 => ?_)
  refine c_putF ok 5 (TT := T_Wa) (N := 7) (j := 5) (ty := .array .int) in_Wa to_Wa n_Wa rfl (by decide) rfl wz_Wa_soonest rfl hini rfl rfl rfl rfl (Nat.le_of_ble_eq_true rfl) d_Wa_init_34 ?_
  refine c_ws (ws' := (h0, .inr (5, [.null, .ref q0, .ref q1, .ref q2, vI 0, .ref q3, .null])) :: [(q0, .inl (F.2.1.2.2 0, 9, .inl (fun _ => 0))), (q1, .inl (F.2.1.2.2 0, 9, .inl (fun _ => 0))), (q2, .inl (F.2.1.2.2 0, 9, .inl (fun _ => 0))), (q3, .inl (F.2.1.2.2 0, 5120, .inl (fun _ => 0)))]) rfl ?_
  refine c_aload_n ok 0 d_Wa_init_37 rfl rfl ?_
  refine c_bipush ok 10 d_Wa_init_38 (by decide) ?_
  refine c_newI ok 10 rfl (Nat.le_of_ble_eq_true rfl) wz_arr_I (Nat.le_of_ble_eq_true rfl) (Nat.le_of_ble_eq_true rfl) d_Wa_init_40 (fun q4 => ?_)
  refine c_putF ok 5 (TT := T_Wa) (N := 7) (j := 6) (ty := .array .int) in_Wa to_Wa n_Wa rfl (by decide) rfl wz_Wa_reach rfl hini rfl rfl rfl rfl (Nat.le_of_ble_eq_true rfl) d_Wa_init_42 ?_
  refine c_ws (ws' := (h0, .inr (5, [.null, .ref q0, .ref q1, .ref q2, vI 0, .ref q3, .ref q4])) :: [(q0, .inl (F.2.1.2.2 0, 9, .inl (fun _ => 0))), (q1, .inl (F.2.1.2.2 0, 9, .inl (fun _ => 0))), (q2, .inl (F.2.1.2.2 0, 9, .inl (fun _ => 0))), (q3, .inl (F.2.1.2.2 0, 5120, .inl (fun _ => 0))), (q4, .inl (F.2.1.2.2 0, 10, .inl (fun _ => 0)))]) rfl ?_
  refine c_aload_n ok 0 d_Wa_init_45 rfl rfl ?_
  refine c_aload_n ok 1 d_Wa_init_46 rfl rfl ?_
  refine c_putF ok 5 (TT := T_Wa) (N := 7) (j := 0) (ty := .object "LastSeen$Land") in_Wa to_Wa n_Wa rfl (by decide) rfl wz_Wa_land rfl hini rfl rfl rfl rfl (Nat.le_of_ble_eq_true rfl) d_Wa_init_47 ?_
  refine c_ws (ws' := (h0, .inr (5, [.ref a1, .ref q0, .ref q1, .ref q2, vI 0, .ref q3, .ref q4])) :: [(q0, .inl (F.2.1.2.2 0, 9, .inl (fun _ => 0))), (q1, .inl (F.2.1.2.2 0, 9, .inl (fun _ => 0))), (q2, .inl (F.2.1.2.2 0, 9, .inl (fun _ => 0))), (q3, .inl (F.2.1.2.2 0, 5120, .inl (fun _ => 0))), (q4, .inl (F.2.1.2.2 0, 10, .inl (fun _ => 0)))]) rfl ?_
  exact hQ _ _ _ (u_of [q0, q1, q2, q3, q4]) _ (okC_code ok) d_Wa_init_50 trivial rfl
set_option maxHeartbeats 4000000 in
set_option maxRecDepth 100000 in
theorem C_He (l : Launch) (G : GE) (h0 : Nat) (a1 : Nat) (a2 : Nat) (a3 : Nat) (sz : Nat) : Met l y_He_init (Cond.code y_He_init prog_4_method_1_code 4 none :: lw_ok) ({ frames := 1, cells := 3, slots := 120, locals := 20 } : Room) (va_Pc [.ref h0, .ref a1, .ref a2, .ref a3] (fun U => U.heap.size = sz ∧ va_P G.2.1 classes [(h0, .inr (6, df_He))] U.heap ∧ va_K G.2.1 classes (tysG G) U ∧ nwK U ∧ va_D (fun _ => True) [(h0, .inr (6, df_He))])) (va_Qv (fun _ : Nat → Nat => True) (fun u t => va_P G.2.1 classes ((fun u : Nat → Nat => w_He G h0 a1 a2 a3 u) u) t.heap ∧ va_D (va_A [(h0, .inr (6, df_He))] sz) ((fun u : Nat → Nat => w_He G h0 a1 a2 a3 u) u)) (va_A [(h0, .inr (6, df_He))] sz)) 3 120 (va_A [(h0, .inr (6, df_He))] sz) := by
  refine met_c (wN := (fun u : Nat → Nat => w_He G h0 a1 a2 a3 u)) (lv := [(0, .ref h0), (1, .ref a1), (2, .ref a2), (3, .ref a3)]) [(h0, .inr (6, df_He))] (by decide) (Nat.le_of_ble_eq_true rfl) rfl rfl (fun F hl hG hm hini ok hQ => ?_) sz
  subst hG
  refine c_aload_n ok 0 d_He_init_0 rfl rfl ?_
  refine c_objInit ok wl_He_3 wz_oi wz_oc (Nat.le_of_ble_eq_true rfl) (Nat.le_of_ble_eq_true rfl) d_He_init_1 ?_
  refine c_aload_n ok 0 d_He_init_4 rfl rfl ?_
  refine c_bipush ok 40 d_He_init_5 (by decide) ?_
  refine c_newZ ok 40 rfl (Nat.le_of_ble_eq_true rfl) wz_arr_Z (Nat.le_of_ble_eq_true rfl) (Nat.le_of_ble_eq_true rfl) d_He_init_7 (fun q0 => ?_)
  refine c_putF ok 6 (TT := T_He) (N := 15) (j := 3) (ty := .array .boolean) in_He to_He n_He rfl (by decide) rfl wz_He_isRoot rfl hini rfl rfl rfl rfl (Nat.le_of_ble_eq_true rfl) d_He_init_9 ?_
  refine c_ws (ws' := (h0, .inr (6, [.null, .null, .null, .ref q0, .null, .null, vI 0, vI 0, vI 0, vI 0, vI 0, vI 0, vI 0, vI 0, vI 0])) :: [(q0, .inl (F.2.1.2.2 2, 40, .inl (fun _ => 0)))]) rfl ?_
  refine c_aload_n ok 0 d_He_init_12 rfl rfl ?_
  refine c_bipush ok 40 d_He_init_13 (by decide) ?_
  refine c_newZ ok 40 rfl (Nat.le_of_ble_eq_true rfl) wz_arr_Z (Nat.le_of_ble_eq_true rfl) (Nat.le_of_ble_eq_true rfl) d_He_init_15 (fun q1 => ?_)
  refine c_putF ok 6 (TT := T_He) (N := 15) (j := 4) (ty := .array .boolean) in_He to_He n_He rfl (by decide) rfl wz_He_isLeanedOn rfl hini rfl rfl rfl rfl (Nat.le_of_ble_eq_true rfl) d_He_init_17 ?_
  refine c_ws (ws' := (h0, .inr (6, [.null, .null, .null, .ref q0, .ref q1, .null, vI 0, vI 0, vI 0, vI 0, vI 0, vI 0, vI 0, vI 0, vI 0])) :: [(q0, .inl (F.2.1.2.2 2, 40, .inl (fun _ => 0))), (q1, .inl (F.2.1.2.2 2, 40, .inl (fun _ => 0)))]) rfl ?_
  refine c_aload_n ok 0 d_He_init_20 rfl rfl ?_
  refine c_bipush ok 40 d_He_init_21 (by decide) ?_
  refine c_newI ok 40 rfl (Nat.le_of_ble_eq_true rfl) wz_arr_I (Nat.le_of_ble_eq_true rfl) (Nat.le_of_ble_eq_true rfl) d_He_init_23 (fun q2 => ?_)
  refine c_putF ok 6 (TT := T_He) (N := 15) (j := 5) (ty := .array .int) in_He to_He n_He rfl (by decide) rfl wz_He_roots rfl hini rfl rfl rfl rfl (Nat.le_of_ble_eq_true rfl) d_He_init_25 ?_
  refine c_ws (ws' := (h0, .inr (6, [.null, .null, .null, .ref q0, .ref q1, .ref q2, vI 0, vI 0, vI 0, vI 0, vI 0, vI 0, vI 0, vI 0, vI 0])) :: [(q0, .inl (F.2.1.2.2 2, 40, .inl (fun _ => 0))), (q1, .inl (F.2.1.2.2 2, 40, .inl (fun _ => 0))), (q2, .inl (F.2.1.2.2 0, 40, .inl (fun _ => 0)))]) rfl ?_
  refine c_aload_n ok 0 d_He_init_28 rfl rfl ?_
  refine c_aload_n ok 1 d_He_init_29 rfl rfl ?_
  refine c_putF ok 6 (TT := T_He) (N := 15) (j := 0) (ty := .object "LastSeen$Names") in_He to_He n_He rfl (by decide) rfl wz_He_names rfl hini rfl rfl rfl rfl (Nat.le_of_ble_eq_true rfl) d_He_init_30 ?_
  refine c_ws (ws' := (h0, .inr (6, [.ref a1, .null, .null, .ref q0, .ref q1, .ref q2, vI 0, vI 0, vI 0, vI 0, vI 0, vI 0, vI 0, vI 0, vI 0])) :: [(q0, .inl (F.2.1.2.2 2, 40, .inl (fun _ => 0))), (q1, .inl (F.2.1.2.2 2, 40, .inl (fun _ => 0))), (q2, .inl (F.2.1.2.2 0, 40, .inl (fun _ => 0)))]) rfl ?_
  refine c_aload_n ok 0 d_He_init_33 rfl rfl ?_
  refine c_aload_n ok 2 d_He_init_34 rfl rfl ?_
  refine c_putF ok 6 (TT := T_He) (N := 15) (j := 1) (ty := .object "LastSeen$Words") in_He to_He n_He rfl (by decide) rfl wz_He_words rfl hini rfl rfl rfl rfl (Nat.le_of_ble_eq_true rfl) d_He_init_35 ?_
  refine c_ws (ws' := (h0, .inr (6, [.ref a1, .ref a2, .null, .ref q0, .ref q1, .ref q2, vI 0, vI 0, vI 0, vI 0, vI 0, vI 0, vI 0, vI 0, vI 0])) :: [(q0, .inl (F.2.1.2.2 2, 40, .inl (fun _ => 0))), (q1, .inl (F.2.1.2.2 2, 40, .inl (fun _ => 0))), (q2, .inl (F.2.1.2.2 0, 40, .inl (fun _ => 0)))]) rfl ?_
  refine c_aload_n ok 0 d_He_init_38 rfl rfl ?_
  refine c_aload_n ok 3 d_He_init_39 rfl rfl ?_
  refine c_putF ok 6 (TT := T_He) (N := 15) (j := 2) (ty := .object "LastSeen$Walk") in_He to_He n_He rfl (by decide) rfl wz_He_walk rfl hini rfl rfl rfl rfl (Nat.le_of_ble_eq_true rfl) d_He_init_40 ?_
  refine c_ws (ws' := (h0, .inr (6, [.ref a1, .ref a2, .ref a3, .ref q0, .ref q1, .ref q2, vI 0, vI 0, vI 0, vI 0, vI 0, vI 0, vI 0, vI 0, vI 0])) :: [(q0, .inl (F.2.1.2.2 2, 40, .inl (fun _ => 0))), (q1, .inl (F.2.1.2.2 2, 40, .inl (fun _ => 0))), (q2, .inl (F.2.1.2.2 0, 40, .inl (fun _ => 0)))]) rfl ?_
  exact hQ _ _ _ (u_of [q0, q1, q2]) _ (okC_code ok) d_He_init_43 trivial rfl
set_option maxHeartbeats 4000000 in
set_option maxRecDepth 100000 in
theorem C_Ru (l : Launch) (G : GE) (h0 : Nat) (sz : Nat) : Met l y_Ru_init (Cond.code y_Ru_init prog_7_method_1_code 1 none :: lw_ok) ({ frames := 1, cells := 7, slots := 4663, locals := 20 } : Room) (va_Pc [.ref h0] (fun U => U.heap.size = sz ∧ va_P G.2.1 classes [(h0, .inr (7, df_Ru))] U.heap ∧ va_K G.2.1 classes (tysG G) U ∧ nwK U ∧ va_D (fun _ => True) [(h0, .inr (7, df_Ru))])) (va_Qv (fun _ : Nat → Nat => True) (fun u t => va_P G.2.1 classes ((fun u : Nat → Nat => w_Ru G h0 u) u) t.heap ∧ va_D (va_A [(h0, .inr (7, df_Ru))] sz) ((fun u : Nat → Nat => w_Ru G h0 u) u)) (va_A [(h0, .inr (7, df_Ru))] sz)) 7 4663 (va_A [(h0, .inr (7, df_Ru))] sz) := by
  refine met_c (wN := (fun u : Nat → Nat => w_Ru G h0 u)) (lv := [(0, .ref h0)]) [(h0, .inr (7, df_Ru))] (by decide) (Nat.le_of_ble_eq_true rfl) rfl rfl (fun F hl hG hm hini ok hQ => ?_) sz
  subst hG
  refine c_aload_n ok 0 d_Ru_init_0 rfl rfl ?_
  refine c_objInit ok wl_Ru_1 wz_oi wz_oc (Nat.le_of_ble_eq_true rfl) (Nat.le_of_ble_eq_true rfl) d_Ru_init_1 ?_
  refine c_aload_n ok 0 d_Ru_init_4 rfl rfl ?_
  refine c_sipush ok 4000 d_Ru_init_5 (by decide) ?_
  refine c_newB ok 4000 rfl (Nat.le_of_ble_eq_true rfl) wz_arr_B (Nat.le_of_ble_eq_true rfl) (Nat.le_of_ble_eq_true rfl) d_Ru_init_8 (fun q0 => ?_)
  refine c_putF ok 7 (TT := T_Ru) (N := 13) (j := 0) (ty := .array .byte) in_Ru to_Ru n_Ru rfl (by decide) rfl wz_Ru_texts rfl hini rfl rfl rfl rfl (Nat.le_of_ble_eq_true rfl) d_Ru_init_10 ?_
  refine c_ws (ws' := (h0, .inr (7, [.ref q0, .null, .null, .null, vI 0, vI 0, vI 0, vI 0, vI 0, vI 0, .null, .null, .null])) :: [(q0, .inl (F.2.1.2.2 1, 4000, .inl (fun _ => 0)))]) rfl ?_
  refine c_aload_n ok 0 d_Ru_init_13 rfl rfl ?_
  refine c_bipush ok 20 d_Ru_init_14 (by decide) ?_
  refine c_newI ok 20 rfl (Nat.le_of_ble_eq_true rfl) wz_arr_I (Nat.le_of_ble_eq_true rfl) (Nat.le_of_ble_eq_true rfl) d_Ru_init_16 (fun q1 => ?_)
  refine c_putF ok 7 (TT := T_Ru) (N := 13) (j := 1) (ty := .array .int) in_Ru to_Ru n_Ru rfl (by decide) rfl wz_Ru_sizes rfl hini rfl rfl rfl rfl (Nat.le_of_ble_eq_true rfl) d_Ru_init_18 ?_
  refine c_ws (ws' := (h0, .inr (7, [.ref q0, .ref q1, .null, .null, vI 0, vI 0, vI 0, vI 0, vI 0, vI 0, .null, .null, .null])) :: [(q0, .inl (F.2.1.2.2 1, 4000, .inl (fun _ => 0))), (q1, .inl (F.2.1.2.2 0, 20, .inl (fun _ => 0)))]) rfl ?_
  refine c_aload_n ok 0 d_Ru_init_21 rfl rfl ?_
  refine c_bipush ok 20 d_Ru_init_22 (by decide) ?_
  refine c_newI ok 20 rfl (Nat.le_of_ble_eq_true rfl) wz_arr_I (Nat.le_of_ble_eq_true rfl) (Nat.le_of_ble_eq_true rfl) d_Ru_init_24 (fun q2 => ?_)
  refine c_putF ok 7 (TT := T_Ru) (N := 13) (j := 2) (ty := .array .int) in_Ru to_Ru n_Ru rfl (by decide) rfl wz_Ru_clauseCounts rfl hini rfl rfl rfl rfl (Nat.le_of_ble_eq_true rfl) d_Ru_init_26 ?_
  refine c_ws (ws' := (h0, .inr (7, [.ref q0, .ref q1, .ref q2, .null, vI 0, vI 0, vI 0, vI 0, vI 0, vI 0, .null, .null, .null])) :: [(q0, .inl (F.2.1.2.2 1, 4000, .inl (fun _ => 0))), (q1, .inl (F.2.1.2.2 0, 20, .inl (fun _ => 0))), (q2, .inl (F.2.1.2.2 0, 20, .inl (fun _ => 0)))]) rfl ?_
  refine c_aload_n ok 0 d_Ru_init_29 rfl rfl ?_
  refine c_bipush ok 20 d_Ru_init_30 (by decide) ?_
  refine c_newI ok 20 rfl (Nat.le_of_ble_eq_true rfl) wz_arr_I (Nat.le_of_ble_eq_true rfl) (Nat.le_of_ble_eq_true rfl) d_Ru_init_32 (fun q3 => ?_)
  refine c_putF ok 7 (TT := T_Ru) (N := 13) (j := 3) (ty := .array .int) in_Ru to_Ru n_Ru rfl (by decide) rfl wz_Ru_enteredAt rfl hini rfl rfl rfl rfl (Nat.le_of_ble_eq_true rfl) d_Ru_init_34 ?_
  refine c_ws (ws' := (h0, .inr (7, [.ref q0, .ref q1, .ref q2, .ref q3, vI 0, vI 0, vI 0, vI 0, vI 0, vI 0, .null, .null, .null])) :: [(q0, .inl (F.2.1.2.2 1, 4000, .inl (fun _ => 0))), (q1, .inl (F.2.1.2.2 0, 20, .inl (fun _ => 0))), (q2, .inl (F.2.1.2.2 0, 20, .inl (fun _ => 0))), (q3, .inl (F.2.1.2.2 0, 20, .inl (fun _ => 0)))]) rfl ?_
  refine c_aload_n ok 0 d_Ru_init_37 rfl rfl ?_
  refine c_sipush ok 201 d_Ru_init_38 (by decide) ?_
  refine c_newZ ok 201 rfl (Nat.le_of_ble_eq_true rfl) wz_arr_Z (Nat.le_of_ble_eq_true rfl) (Nat.le_of_ble_eq_true rfl) d_Ru_init_41 (fun q4 => ?_)
  refine c_putF ok 7 (TT := T_Ru) (N := 13) (j := 10) (ty := .array .boolean) in_Ru to_Ru n_Ru rfl (by decide) rfl wz_Ru_anyRow rfl hini rfl rfl rfl rfl (Nat.le_of_ble_eq_true rfl) d_Ru_init_43 ?_
  refine c_ws (ws' := (h0, .inr (7, [.ref q0, .ref q1, .ref q2, .ref q3, vI 0, vI 0, vI 0, vI 0, vI 0, vI 0, .ref q4, .null, .null])) :: [(q0, .inl (F.2.1.2.2 1, 4000, .inl (fun _ => 0))), (q1, .inl (F.2.1.2.2 0, 20, .inl (fun _ => 0))), (q2, .inl (F.2.1.2.2 0, 20, .inl (fun _ => 0))), (q3, .inl (F.2.1.2.2 0, 20, .inl (fun _ => 0))), (q4, .inl (F.2.1.2.2 2, 201, .inl (fun _ => 0)))]) rfl ?_
  refine c_aload_n ok 0 d_Ru_init_46 rfl rfl ?_
  refine c_sipush ok 201 d_Ru_init_47 (by decide) ?_
  refine c_newZ ok 201 rfl (Nat.le_of_ble_eq_true rfl) wz_arr_Z (Nat.le_of_ble_eq_true rfl) (Nat.le_of_ble_eq_true rfl) d_Ru_init_50 (fun q5 => ?_)
  refine c_putF ok 7 (TT := T_Ru) (N := 13) (j := 11) (ty := .array .boolean) in_Ru to_Ru n_Ru rfl (by decide) rfl wz_Ru_thisRow rfl hini rfl rfl rfl rfl (Nat.le_of_ble_eq_true rfl) d_Ru_init_52 ?_
  refine c_ws (ws' := (h0, .inr (7, [.ref q0, .ref q1, .ref q2, .ref q3, vI 0, vI 0, vI 0, vI 0, vI 0, vI 0, .ref q4, .ref q5, .null])) :: [(q0, .inl (F.2.1.2.2 1, 4000, .inl (fun _ => 0))), (q1, .inl (F.2.1.2.2 0, 20, .inl (fun _ => 0))), (q2, .inl (F.2.1.2.2 0, 20, .inl (fun _ => 0))), (q3, .inl (F.2.1.2.2 0, 20, .inl (fun _ => 0))), (q4, .inl (F.2.1.2.2 2, 201, .inl (fun _ => 0))), (q5, .inl (F.2.1.2.2 2, 201, .inl (fun _ => 0)))]) rfl ?_
  refine c_aload_n ok 0 d_Ru_init_55 rfl rfl ?_
  refine c_sipush ok 201 d_Ru_init_56 (by decide) ?_
  refine c_newZ ok 201 rfl (Nat.le_of_ble_eq_true rfl) wz_arr_Z (Nat.le_of_ble_eq_true rfl) (Nat.le_of_ble_eq_true rfl) d_Ru_init_59 (fun q6 => ?_)
  refine c_putF ok 7 (TT := T_Ru) (N := 13) (j := 12) (ty := .array .boolean) in_Ru to_Ru n_Ru rfl (by decide) rfl wz_Ru_turned rfl hini rfl rfl rfl rfl (Nat.le_of_ble_eq_true rfl) d_Ru_init_61 ?_
  refine c_ws (ws' := (h0, .inr (7, [.ref q0, .ref q1, .ref q2, .ref q3, vI 0, vI 0, vI 0, vI 0, vI 0, vI 0, .ref q4, .ref q5, .ref q6])) :: [(q0, .inl (F.2.1.2.2 1, 4000, .inl (fun _ => 0))), (q1, .inl (F.2.1.2.2 0, 20, .inl (fun _ => 0))), (q2, .inl (F.2.1.2.2 0, 20, .inl (fun _ => 0))), (q3, .inl (F.2.1.2.2 0, 20, .inl (fun _ => 0))), (q4, .inl (F.2.1.2.2 2, 201, .inl (fun _ => 0))), (q5, .inl (F.2.1.2.2 2, 201, .inl (fun _ => 0))), (q6, .inl (F.2.1.2.2 2, 201, .inl (fun _ => 0)))]) rfl ?_
  exact hQ _ _ _ (u_of [q0, q1, q2, q3, q4, q5, q6]) _ (okC_code ok) d_Ru_init_64 trivial rfl
set_option maxHeartbeats 4000000 in
set_option maxRecDepth 100000 in
theorem C_Bn (l : Launch) (G : GE) (h0 : Nat) (sz : Nat) : Met l y_Bn_init (Cond.code y_Bn_init prog_2_method_1_code 1 none :: lw_ok) ({ frames := 1, cells := 2, slots := 416, locals := 20 } : Room) (va_Pc [.ref h0] (fun U => U.heap.size = sz ∧ va_P G.2.1 classes [(h0, .inr (8, df_Bn))] U.heap ∧ va_K G.2.1 classes (tysG G) U ∧ nwK U ∧ va_D (fun _ => True) [(h0, .inr (8, df_Bn))])) (va_Qv (fun _ : Nat → Nat => True) (fun u t => va_P G.2.1 classes ((fun u : Nat → Nat => w_Bn G h0 u) u) t.heap ∧ va_D (va_A [(h0, .inr (8, df_Bn))] sz) ((fun u : Nat → Nat => w_Bn G h0 u) u)) (va_A [(h0, .inr (8, df_Bn))] sz)) 2 416 (va_A [(h0, .inr (8, df_Bn))] sz) := by
  refine met_c (wN := (fun u : Nat → Nat => w_Bn G h0 u)) (lv := [(0, .ref h0)]) [(h0, .inr (8, df_Bn))] (by decide) (Nat.le_of_ble_eq_true rfl) rfl rfl (fun F hl hG hm hini ok hQ => ?_) sz
  subst hG
  refine c_aload_n ok 0 d_Bn_init_0 rfl rfl ?_
  refine c_objInit ok wl_Bn_1 wz_oi wz_oc (Nat.le_of_ble_eq_true rfl) (Nat.le_of_ble_eq_true rfl) d_Bn_init_1 ?_
  refine c_aload_n ok 0 d_Bn_init_4 rfl rfl ?_
  refine c_sipush ok 384 d_Bn_init_5 (by decide) ?_
  refine c_newI ok 384 rfl (Nat.le_of_ble_eq_true rfl) wz_arr_I (Nat.le_of_ble_eq_true rfl) (Nat.le_of_ble_eq_true rfl) d_Bn_init_8 (fun q0 => ?_)
  refine c_putF ok 8 (TT := T_Bn) (N := 3) (j := 0) (ty := .array .int) in_Bn to_Bn n_Bn rfl (by decide) rfl wz_Bn_sizes rfl hini rfl rfl rfl rfl (Nat.le_of_ble_eq_true rfl) d_Bn_init_10 ?_
  refine c_ws (ws' := (h0, .inr (8, [.ref q0, .null, vI 0])) :: [(q0, .inl (F.2.1.2.2 0, 384, .inl (fun _ => 0)))]) rfl ?_
  refine c_aload_n ok 0 d_Bn_init_13 rfl rfl ?_
  refine c_bipush ok 32 d_Bn_init_14 (by decide) ?_
  refine c_newI ok 32 rfl (Nat.le_of_ble_eq_true rfl) wz_arr_I (Nat.le_of_ble_eq_true rfl) (Nat.le_of_ble_eq_true rfl) d_Bn_init_16 (fun q1 => ?_)
  refine c_putF ok 8 (TT := T_Bn) (N := 3) (j := 1) (ty := .array .int) in_Bn to_Bn n_Bn rfl (by decide) rfl wz_Bn_counts rfl hini rfl rfl rfl rfl (Nat.le_of_ble_eq_true rfl) d_Bn_init_18 ?_
  refine c_ws (ws' := (h0, .inr (8, [.ref q0, .ref q1, vI 0])) :: [(q0, .inl (F.2.1.2.2 0, 384, .inl (fun _ => 0))), (q1, .inl (F.2.1.2.2 0, 32, .inl (fun _ => 0)))]) rfl ?_
  refine c_aload_n ok 0 d_Bn_init_21 rfl rfl ?_
  refine c_iconst ok 2 d_Bn_init_22 rfl ?_
  refine c_putI ok 8 (TT := T_Bn) (N := 3) (j := 2) (ty := .int) in_Bn to_Bn n_Bn rfl (by decide) rfl wz_Bn_most rfl rfl rfl rfl (Nat.le_of_ble_eq_true rfl) d_Bn_init_23 ?_
  refine c_ws (ws' := (h0, .inr (8, [.ref q0, .ref q1, vI 2])) :: [(q0, .inl (F.2.1.2.2 0, 384, .inl (fun _ => 0))), (q1, .inl (F.2.1.2.2 0, 32, .inl (fun _ => 0)))]) rfl ?_
  exact hQ _ _ _ (u_of [q0, q1]) _ (okC_code ok) d_Bn_init_26 trivial rfl
set_option maxHeartbeats 4000000 in
set_option maxRecDepth 100000 in
theorem C_Gr (l : Launch) (G : GE) (h0 : Nat) (a1 : Nat) (sz : Nat) : Met l y_Gr_init (Cond.code y_Gr_init prog_3_method_1_code 2 none :: lw_ok) ({ frames := 1, cells := 14, slots := 370, locals := 20 } : Room) (va_Pc [.ref h0, .ref a1] (fun U => U.heap.size = sz ∧ va_P G.2.1 classes [(h0, .inr (9, df_Gr))] U.heap ∧ va_K G.2.1 classes (tysG G) U ∧ nwK U ∧ va_D (fun _ => True) [(h0, .inr (9, df_Gr))])) (va_Qv (fun _ : Nat → Nat => True) (fun u t => va_P G.2.1 classes ((fun u : Nat → Nat => w_Gr G h0 a1 u) u) t.heap ∧ va_D (va_A [(h0, .inr (9, df_Gr))] sz) ((fun u : Nat → Nat => w_Gr G h0 a1 u) u)) (va_A [(h0, .inr (9, df_Gr))] sz)) 14 370 (va_A [(h0, .inr (9, df_Gr))] sz) := by
  refine met_c (wN := (fun u : Nat → Nat => w_Gr G h0 a1 u)) (lv := [(0, .ref h0), (1, .ref a1)]) [(h0, .inr (9, df_Gr))] (by decide) (Nat.le_of_ble_eq_true rfl) rfl rfl (fun F hl hG hm hini ok hQ => ?_) sz
  subst hG
  refine c_aload_n ok 0 d_Gr_init_0 rfl rfl ?_
  refine c_objInit ok wl_Gr_1 wz_oi wz_oc (Nat.le_of_ble_eq_true rfl) (Nat.le_of_ble_eq_true rfl) d_Gr_init_1 ?_
  refine c_aload_n ok 0 d_Gr_init_4 rfl rfl ?_
  refine c_bipush ok 8 d_Gr_init_5 (by decide) ?_
  refine c_newI ok 8 rfl (Nat.le_of_ble_eq_true rfl) wz_arr_I (Nat.le_of_ble_eq_true rfl) (Nat.le_of_ble_eq_true rfl) d_Gr_init_7 (fun q0 => ?_)
  refine c_putF ok 9 (TT := T_Gr) (N := 18) (j := 1) (ty := .array .int) in_Gr to_Gr n_Gr rfl (by decide) rfl wz_Gr_grave rfl hini rfl rfl rfl rfl (Nat.le_of_ble_eq_true rfl) d_Gr_init_9 ?_
  refine c_ws (ws' := (h0, .inr (9, [.null, .ref q0, .null, .null, .null, .null, .null, .null, vI 0, vI 0, .null, .null, .null, .null, vI 0, .null, .null, .null])) :: [(q0, .inl (F.2.1.2.2 0, 8, .inl (fun _ => 0)))]) rfl ?_
  refine c_aload_n ok 0 d_Gr_init_12 rfl rfl ?_
  refine c_bipush ok 8 d_Gr_init_13 (by decide) ?_
  refine c_newI ok 8 rfl (Nat.le_of_ble_eq_true rfl) wz_arr_I (Nat.le_of_ble_eq_true rfl) (Nat.le_of_ble_eq_true rfl) d_Gr_init_15 (fun q1 => ?_)
  refine c_putF ok 9 (TT := T_Gr) (N := 18) (j := 2) (ty := .array .int) in_Gr to_Gr n_Gr rfl (by decide) rfl wz_Gr_low rfl hini rfl rfl rfl rfl (Nat.le_of_ble_eq_true rfl) d_Gr_init_17 ?_
  refine c_ws (ws' := (h0, .inr (9, [.null, .ref q0, .ref q1, .null, .null, .null, .null, .null, vI 0, vI 0, .null, .null, .null, .null, vI 0, .null, .null, .null])) :: [(q0, .inl (F.2.1.2.2 0, 8, .inl (fun _ => 0))), (q1, .inl (F.2.1.2.2 0, 8, .inl (fun _ => 0)))]) rfl ?_
  refine c_aload_n ok 0 d_Gr_init_20 rfl rfl ?_
  refine c_bipush ok 8 d_Gr_init_21 (by decide) ?_
  refine c_newI ok 8 rfl (Nat.le_of_ble_eq_true rfl) wz_arr_I (Nat.le_of_ble_eq_true rfl) (Nat.le_of_ble_eq_true rfl) d_Gr_init_23 (fun q2 => ?_)
  refine c_putF ok 9 (TT := T_Gr) (N := 18) (j := 3) (ty := .array .int) in_Gr to_Gr n_Gr rfl (by decide) rfl wz_Gr_high rfl hini rfl rfl rfl rfl (Nat.le_of_ble_eq_true rfl) d_Gr_init_25 ?_
  refine c_ws (ws' := (h0, .inr (9, [.null, .ref q0, .ref q1, .ref q2, .null, .null, .null, .null, vI 0, vI 0, .null, .null, .null, .null, vI 0, .null, .null, .null])) :: [(q0, .inl (F.2.1.2.2 0, 8, .inl (fun _ => 0))), (q1, .inl (F.2.1.2.2 0, 8, .inl (fun _ => 0))), (q2, .inl (F.2.1.2.2 0, 8, .inl (fun _ => 0)))]) rfl ?_
  refine c_aload_n ok 0 d_Gr_init_28 rfl rfl ?_
  refine c_bipush ok 8 d_Gr_init_29 (by decide) ?_
  refine c_newI ok 8 rfl (Nat.le_of_ble_eq_true rfl) wz_arr_I (Nat.le_of_ble_eq_true rfl) (Nat.le_of_ble_eq_true rfl) d_Gr_init_31 (fun q3 => ?_)
  refine c_putF ok 9 (TT := T_Gr) (N := 18) (j := 4) (ty := .array .int) in_Gr to_Gr n_Gr rfl (by decide) rfl wz_Gr_has rfl hini rfl rfl rfl rfl (Nat.le_of_ble_eq_true rfl) d_Gr_init_33 ?_
  refine c_ws (ws' := (h0, .inr (9, [.null, .ref q0, .ref q1, .ref q2, .ref q3, .null, .null, .null, vI 0, vI 0, .null, .null, .null, .null, vI 0, .null, .null, .null])) :: [(q0, .inl (F.2.1.2.2 0, 8, .inl (fun _ => 0))), (q1, .inl (F.2.1.2.2 0, 8, .inl (fun _ => 0))), (q2, .inl (F.2.1.2.2 0, 8, .inl (fun _ => 0))), (q3, .inl (F.2.1.2.2 0, 8, .inl (fun _ => 0)))]) rfl ?_
  refine c_aload_n ok 0 d_Gr_init_36 rfl rfl ?_
  refine c_bipush ok 8 d_Gr_init_37 (by decide) ?_
  refine c_newI ok 8 rfl (Nat.le_of_ble_eq_true rfl) wz_arr_I (Nat.le_of_ble_eq_true rfl) (Nat.le_of_ble_eq_true rfl) d_Gr_init_39 (fun q4 => ?_)
  refine c_putF ok 9 (TT := T_Gr) (N := 18) (j := 5) (ty := .array .int) in_Gr to_Gr n_Gr rfl (by decide) rfl wz_Gr_hasNot rfl hini rfl rfl rfl rfl (Nat.le_of_ble_eq_true rfl) d_Gr_init_41 ?_
  refine c_ws (ws' := (h0, .inr (9, [.null, .ref q0, .ref q1, .ref q2, .ref q3, .ref q4, .null, .null, vI 0, vI 0, .null, .null, .null, .null, vI 0, .null, .null, .null])) :: [(q0, .inl (F.2.1.2.2 0, 8, .inl (fun _ => 0))), (q1, .inl (F.2.1.2.2 0, 8, .inl (fun _ => 0))), (q2, .inl (F.2.1.2.2 0, 8, .inl (fun _ => 0))), (q3, .inl (F.2.1.2.2 0, 8, .inl (fun _ => 0))), (q4, .inl (F.2.1.2.2 0, 8, .inl (fun _ => 0)))]) rfl ?_
  refine c_aload_n ok 0 d_Gr_init_44 rfl rfl ?_
  refine c_bipush ok 8 d_Gr_init_45 (by decide) ?_
  refine c_newI ok 8 rfl (Nat.le_of_ble_eq_true rfl) wz_arr_I (Nat.le_of_ble_eq_true rfl) (Nat.le_of_ble_eq_true rfl) d_Gr_init_47 (fun q5 => ?_)
  refine c_putF ok 9 (TT := T_Gr) (N := 18) (j := 6) (ty := .array .int) in_Gr to_Gr n_Gr rfl (by decide) rfl wz_Gr_given rfl hini rfl rfl rfl rfl (Nat.le_of_ble_eq_true rfl) d_Gr_init_49 ?_
  refine c_ws (ws' := (h0, .inr (9, [.null, .ref q0, .ref q1, .ref q2, .ref q3, .ref q4, .ref q5, .null, vI 0, vI 0, .null, .null, .null, .null, vI 0, .null, .null, .null])) :: [(q0, .inl (F.2.1.2.2 0, 8, .inl (fun _ => 0))), (q1, .inl (F.2.1.2.2 0, 8, .inl (fun _ => 0))), (q2, .inl (F.2.1.2.2 0, 8, .inl (fun _ => 0))), (q3, .inl (F.2.1.2.2 0, 8, .inl (fun _ => 0))), (q4, .inl (F.2.1.2.2 0, 8, .inl (fun _ => 0))), (q5, .inl (F.2.1.2.2 0, 8, .inl (fun _ => 0)))]) rfl ?_
  refine c_aload_n ok 0 d_Gr_init_52 rfl rfl ?_
  refine c_bipush ok 8 d_Gr_init_53 (by decide) ?_
  refine c_newI ok 8 rfl (Nat.le_of_ble_eq_true rfl) wz_arr_I (Nat.le_of_ble_eq_true rfl) (Nat.le_of_ble_eq_true rfl) d_Gr_init_55 (fun q6 => ?_)
  refine c_putF ok 9 (TT := T_Gr) (N := 18) (j := 7) (ty := .array .int) in_Gr to_Gr n_Gr rfl (by decide) rfl wz_Gr_givenTurn rfl hini rfl rfl rfl rfl (Nat.le_of_ble_eq_true rfl) d_Gr_init_57 ?_
  refine c_ws (ws' := (h0, .inr (9, [.null, .ref q0, .ref q1, .ref q2, .ref q3, .ref q4, .ref q5, .ref q6, vI 0, vI 0, .null, .null, .null, .null, vI 0, .null, .null, .null])) :: [(q0, .inl (F.2.1.2.2 0, 8, .inl (fun _ => 0))), (q1, .inl (F.2.1.2.2 0, 8, .inl (fun _ => 0))), (q2, .inl (F.2.1.2.2 0, 8, .inl (fun _ => 0))), (q3, .inl (F.2.1.2.2 0, 8, .inl (fun _ => 0))), (q4, .inl (F.2.1.2.2 0, 8, .inl (fun _ => 0))), (q5, .inl (F.2.1.2.2 0, 8, .inl (fun _ => 0))), (q6, .inl (F.2.1.2.2 0, 8, .inl (fun _ => 0)))]) rfl ?_
  refine c_aload_n ok 0 d_Gr_init_60 rfl rfl ?_
  refine c_bipush ok 10 d_Gr_init_61 (by decide) ?_
  refine c_newI ok 10 rfl (Nat.le_of_ble_eq_true rfl) wz_arr_I (Nat.le_of_ble_eq_true rfl) (Nat.le_of_ble_eq_true rfl) d_Gr_init_63 (fun q7 => ?_)
  refine c_putF ok 9 (TT := T_Gr) (N := 18) (j := 10) (ty := .array .int) in_Gr to_Gr n_Gr rfl (by decide) rfl wz_Gr_lostNames rfl hini rfl rfl rfl rfl (Nat.le_of_ble_eq_true rfl) d_Gr_init_65 ?_
  refine c_ws (ws' := (h0, .inr (9, [.null, .ref q0, .ref q1, .ref q2, .ref q3, .ref q4, .ref q5, .ref q6, vI 0, vI 0, .ref q7, .null, .null, .null, vI 0, .null, .null, .null])) :: [(q0, .inl (F.2.1.2.2 0, 8, .inl (fun _ => 0))), (q1, .inl (F.2.1.2.2 0, 8, .inl (fun _ => 0))), (q2, .inl (F.2.1.2.2 0, 8, .inl (fun _ => 0))), (q3, .inl (F.2.1.2.2 0, 8, .inl (fun _ => 0))), (q4, .inl (F.2.1.2.2 0, 8, .inl (fun _ => 0))), (q5, .inl (F.2.1.2.2 0, 8, .inl (fun _ => 0))), (q6, .inl (F.2.1.2.2 0, 8, .inl (fun _ => 0))), (q7, .inl (F.2.1.2.2 0, 10, .inl (fun _ => 0)))]) rfl ?_
  refine c_aload_n ok 0 d_Gr_init_68 rfl rfl ?_
  refine c_bipush ok 10 d_Gr_init_69 (by decide) ?_
  refine c_newI ok 10 rfl (Nat.le_of_ble_eq_true rfl) wz_arr_I (Nat.le_of_ble_eq_true rfl) (Nat.le_of_ble_eq_true rfl) d_Gr_init_71 (fun q8 => ?_)
  refine c_putF ok 9 (TT := T_Gr) (N := 18) (j := 11) (ty := .array .int) in_Gr to_Gr n_Gr rfl (by decide) rfl wz_Gr_height rfl hini rfl rfl rfl rfl (Nat.le_of_ble_eq_true rfl) d_Gr_init_73 ?_
  refine c_ws (ws' := (h0, .inr (9, [.null, .ref q0, .ref q1, .ref q2, .ref q3, .ref q4, .ref q5, .ref q6, vI 0, vI 0, .ref q7, .ref q8, .null, .null, vI 0, .null, .null, .null])) :: [(q0, .inl (F.2.1.2.2 0, 8, .inl (fun _ => 0))), (q1, .inl (F.2.1.2.2 0, 8, .inl (fun _ => 0))), (q2, .inl (F.2.1.2.2 0, 8, .inl (fun _ => 0))), (q3, .inl (F.2.1.2.2 0, 8, .inl (fun _ => 0))), (q4, .inl (F.2.1.2.2 0, 8, .inl (fun _ => 0))), (q5, .inl (F.2.1.2.2 0, 8, .inl (fun _ => 0))), (q6, .inl (F.2.1.2.2 0, 8, .inl (fun _ => 0))), (q7, .inl (F.2.1.2.2 0, 10, .inl (fun _ => 0))), (q8, .inl (F.2.1.2.2 0, 10, .inl (fun _ => 0)))]) rfl ?_
  refine c_aload_n ok 0 d_Gr_init_76 rfl rfl ?_
  refine c_bipush ok 10 d_Gr_init_77 (by decide) ?_
  refine c_newI ok 10 rfl (Nat.le_of_ble_eq_true rfl) wz_arr_I (Nat.le_of_ble_eq_true rfl) (Nat.le_of_ble_eq_true rfl) d_Gr_init_79 (fun q9 => ?_)
  refine c_putF ok 9 (TT := T_Gr) (N := 18) (j := 12) (ty := .array .int) in_Gr to_Gr n_Gr rfl (by decide) rfl wz_Gr_had rfl hini rfl rfl rfl rfl (Nat.le_of_ble_eq_true rfl) d_Gr_init_81 ?_
  refine c_ws (ws' := (h0, .inr (9, [.null, .ref q0, .ref q1, .ref q2, .ref q3, .ref q4, .ref q5, .ref q6, vI 0, vI 0, .ref q7, .ref q8, .ref q9, .null, vI 0, .null, .null, .null])) :: [(q0, .inl (F.2.1.2.2 0, 8, .inl (fun _ => 0))), (q1, .inl (F.2.1.2.2 0, 8, .inl (fun _ => 0))), (q2, .inl (F.2.1.2.2 0, 8, .inl (fun _ => 0))), (q3, .inl (F.2.1.2.2 0, 8, .inl (fun _ => 0))), (q4, .inl (F.2.1.2.2 0, 8, .inl (fun _ => 0))), (q5, .inl (F.2.1.2.2 0, 8, .inl (fun _ => 0))), (q6, .inl (F.2.1.2.2 0, 8, .inl (fun _ => 0))), (q7, .inl (F.2.1.2.2 0, 10, .inl (fun _ => 0))), (q8, .inl (F.2.1.2.2 0, 10, .inl (fun _ => 0))), (q9, .inl (F.2.1.2.2 0, 10, .inl (fun _ => 0)))]) rfl ?_
  refine c_aload_n ok 0 d_Gr_init_84 rfl rfl ?_
  refine c_bipush ok 10 d_Gr_init_85 (by decide) ?_
  refine c_newI ok 10 rfl (Nat.le_of_ble_eq_true rfl) wz_arr_I (Nat.le_of_ble_eq_true rfl) (Nat.le_of_ble_eq_true rfl) d_Gr_init_87 (fun q10 => ?_)
  refine c_putF ok 9 (TT := T_Gr) (N := 18) (j := 13) (ty := .array .int) in_Gr to_Gr n_Gr rfl (by decide) rfl wz_Gr_hadNot rfl hini rfl rfl rfl rfl (Nat.le_of_ble_eq_true rfl) d_Gr_init_89 ?_
  refine c_ws (ws' := (h0, .inr (9, [.null, .ref q0, .ref q1, .ref q2, .ref q3, .ref q4, .ref q5, .ref q6, vI 0, vI 0, .ref q7, .ref q8, .ref q9, .ref q10, vI 0, .null, .null, .null])) :: [(q0, .inl (F.2.1.2.2 0, 8, .inl (fun _ => 0))), (q1, .inl (F.2.1.2.2 0, 8, .inl (fun _ => 0))), (q2, .inl (F.2.1.2.2 0, 8, .inl (fun _ => 0))), (q3, .inl (F.2.1.2.2 0, 8, .inl (fun _ => 0))), (q4, .inl (F.2.1.2.2 0, 8, .inl (fun _ => 0))), (q5, .inl (F.2.1.2.2 0, 8, .inl (fun _ => 0))), (q6, .inl (F.2.1.2.2 0, 8, .inl (fun _ => 0))), (q7, .inl (F.2.1.2.2 0, 10, .inl (fun _ => 0))), (q8, .inl (F.2.1.2.2 0, 10, .inl (fun _ => 0))), (q9, .inl (F.2.1.2.2 0, 10, .inl (fun _ => 0))), (q10, .inl (F.2.1.2.2 0, 10, .inl (fun _ => 0)))]) rfl ?_
  refine c_aload_n ok 0 d_Gr_init_92 rfl rfl ?_
  refine c_bipush ok 10 d_Gr_init_93 (by decide) ?_
  refine c_newI ok 10 rfl (Nat.le_of_ble_eq_true rfl) wz_arr_I (Nat.le_of_ble_eq_true rfl) (Nat.le_of_ble_eq_true rfl) d_Gr_init_95 (fun q11 => ?_)
  refine c_putF ok 9 (TT := T_Gr) (N := 18) (j := 15) (ty := .array .int) in_Gr to_Gr n_Gr rfl (by decide) rfl wz_Gr_same rfl hini rfl rfl rfl rfl (Nat.le_of_ble_eq_true rfl) d_Gr_init_97 ?_
  refine c_ws (ws' := (h0, .inr (9, [.null, .ref q0, .ref q1, .ref q2, .ref q3, .ref q4, .ref q5, .ref q6, vI 0, vI 0, .ref q7, .ref q8, .ref q9, .ref q10, vI 0, .ref q11, .null, .null])) :: [(q0, .inl (F.2.1.2.2 0, 8, .inl (fun _ => 0))), (q1, .inl (F.2.1.2.2 0, 8, .inl (fun _ => 0))), (q2, .inl (F.2.1.2.2 0, 8, .inl (fun _ => 0))), (q3, .inl (F.2.1.2.2 0, 8, .inl (fun _ => 0))), (q4, .inl (F.2.1.2.2 0, 8, .inl (fun _ => 0))), (q5, .inl (F.2.1.2.2 0, 8, .inl (fun _ => 0))), (q6, .inl (F.2.1.2.2 0, 8, .inl (fun _ => 0))), (q7, .inl (F.2.1.2.2 0, 10, .inl (fun _ => 0))), (q8, .inl (F.2.1.2.2 0, 10, .inl (fun _ => 0))), (q9, .inl (F.2.1.2.2 0, 10, .inl (fun _ => 0))), (q10, .inl (F.2.1.2.2 0, 10, .inl (fun _ => 0))), (q11, .inl (F.2.1.2.2 0, 10, .inl (fun _ => 0)))]) rfl ?_
  refine c_aload_n ok 0 d_Gr_init_100 rfl rfl ?_
  refine c_bipush ok 8 d_Gr_init_101 (by decide) ?_
  refine c_newI ok 8 rfl (Nat.le_of_ble_eq_true rfl) wz_arr_I (Nat.le_of_ble_eq_true rfl) (Nat.le_of_ble_eq_true rfl) d_Gr_init_103 (fun q12 => ?_)
  refine c_putF ok 9 (TT := T_Gr) (N := 18) (j := 16) (ty := .array .int) in_Gr to_Gr n_Gr rfl (by decide) rfl wz_Gr_choices rfl hini rfl rfl rfl rfl (Nat.le_of_ble_eq_true rfl) d_Gr_init_105 ?_
  refine c_ws (ws' := (h0, .inr (9, [.null, .ref q0, .ref q1, .ref q2, .ref q3, .ref q4, .ref q5, .ref q6, vI 0, vI 0, .ref q7, .ref q8, .ref q9, .ref q10, vI 0, .ref q11, .ref q12, .null])) :: [(q0, .inl (F.2.1.2.2 0, 8, .inl (fun _ => 0))), (q1, .inl (F.2.1.2.2 0, 8, .inl (fun _ => 0))), (q2, .inl (F.2.1.2.2 0, 8, .inl (fun _ => 0))), (q3, .inl (F.2.1.2.2 0, 8, .inl (fun _ => 0))), (q4, .inl (F.2.1.2.2 0, 8, .inl (fun _ => 0))), (q5, .inl (F.2.1.2.2 0, 8, .inl (fun _ => 0))), (q6, .inl (F.2.1.2.2 0, 8, .inl (fun _ => 0))), (q7, .inl (F.2.1.2.2 0, 10, .inl (fun _ => 0))), (q8, .inl (F.2.1.2.2 0, 10, .inl (fun _ => 0))), (q9, .inl (F.2.1.2.2 0, 10, .inl (fun _ => 0))), (q10, .inl (F.2.1.2.2 0, 10, .inl (fun _ => 0))), (q11, .inl (F.2.1.2.2 0, 10, .inl (fun _ => 0))), (q12, .inl (F.2.1.2.2 0, 8, .inl (fun _ => 0)))]) rfl ?_
  refine c_aload_n ok 0 d_Gr_init_108 rfl rfl ?_
  refine c_sipush ok 256 d_Gr_init_109 (by decide) ?_
  refine c_newI ok 256 rfl (Nat.le_of_ble_eq_true rfl) wz_arr_I (Nat.le_of_ble_eq_true rfl) (Nat.le_of_ble_eq_true rfl) d_Gr_init_112 (fun q13 => ?_)
  refine c_putF ok 9 (TT := T_Gr) (N := 18) (j := 17) (ty := .array .int) in_Gr to_Gr n_Gr rfl (by decide) rfl wz_Gr_perSubset rfl hini rfl rfl rfl rfl (Nat.le_of_ble_eq_true rfl) d_Gr_init_114 ?_
  refine c_ws (ws' := (h0, .inr (9, [.null, .ref q0, .ref q1, .ref q2, .ref q3, .ref q4, .ref q5, .ref q6, vI 0, vI 0, .ref q7, .ref q8, .ref q9, .ref q10, vI 0, .ref q11, .ref q12, .ref q13])) :: [(q0, .inl (F.2.1.2.2 0, 8, .inl (fun _ => 0))), (q1, .inl (F.2.1.2.2 0, 8, .inl (fun _ => 0))), (q2, .inl (F.2.1.2.2 0, 8, .inl (fun _ => 0))), (q3, .inl (F.2.1.2.2 0, 8, .inl (fun _ => 0))), (q4, .inl (F.2.1.2.2 0, 8, .inl (fun _ => 0))), (q5, .inl (F.2.1.2.2 0, 8, .inl (fun _ => 0))), (q6, .inl (F.2.1.2.2 0, 8, .inl (fun _ => 0))), (q7, .inl (F.2.1.2.2 0, 10, .inl (fun _ => 0))), (q8, .inl (F.2.1.2.2 0, 10, .inl (fun _ => 0))), (q9, .inl (F.2.1.2.2 0, 10, .inl (fun _ => 0))), (q10, .inl (F.2.1.2.2 0, 10, .inl (fun _ => 0))), (q11, .inl (F.2.1.2.2 0, 10, .inl (fun _ => 0))), (q12, .inl (F.2.1.2.2 0, 8, .inl (fun _ => 0))), (q13, .inl (F.2.1.2.2 0, 256, .inl (fun _ => 0)))]) rfl ?_
  refine c_aload_n ok 0 d_Gr_init_117 rfl rfl ?_
  refine c_aload_n ok 1 d_Gr_init_118 rfl rfl ?_
  refine c_putF ok 9 (TT := T_Gr) (N := 18) (j := 0) (ty := .object "LastSeen$Names") in_Gr to_Gr n_Gr rfl (by decide) rfl wz_Gr_names rfl hini rfl rfl rfl rfl (Nat.le_of_ble_eq_true rfl) d_Gr_init_119 ?_
  refine c_ws (ws' := (h0, .inr (9, [.ref a1, .ref q0, .ref q1, .ref q2, .ref q3, .ref q4, .ref q5, .ref q6, vI 0, vI 0, .ref q7, .ref q8, .ref q9, .ref q10, vI 0, .ref q11, .ref q12, .ref q13])) :: [(q0, .inl (F.2.1.2.2 0, 8, .inl (fun _ => 0))), (q1, .inl (F.2.1.2.2 0, 8, .inl (fun _ => 0))), (q2, .inl (F.2.1.2.2 0, 8, .inl (fun _ => 0))), (q3, .inl (F.2.1.2.2 0, 8, .inl (fun _ => 0))), (q4, .inl (F.2.1.2.2 0, 8, .inl (fun _ => 0))), (q5, .inl (F.2.1.2.2 0, 8, .inl (fun _ => 0))), (q6, .inl (F.2.1.2.2 0, 8, .inl (fun _ => 0))), (q7, .inl (F.2.1.2.2 0, 10, .inl (fun _ => 0))), (q8, .inl (F.2.1.2.2 0, 10, .inl (fun _ => 0))), (q9, .inl (F.2.1.2.2 0, 10, .inl (fun _ => 0))), (q10, .inl (F.2.1.2.2 0, 10, .inl (fun _ => 0))), (q11, .inl (F.2.1.2.2 0, 10, .inl (fun _ => 0))), (q12, .inl (F.2.1.2.2 0, 8, .inl (fun _ => 0))), (q13, .inl (F.2.1.2.2 0, 256, .inl (fun _ => 0)))]) rfl ?_
  exact hQ _ _ _ (u_of [q0, q1, q2, q3, q4, q5, q6, q7, q8, q9, q10, q11, q12, q13]) _ (okC_code ok) d_Gr_init_122 trivial rfl
def fMf (z : Int) : Int := if 0 ≤ z ∧ z < 100 then (if z % 11 = 0 then 0 else 100000) else 0
def fMg (z : Int) : Int := if 0 ≤ z ∧ z < 8 then (-1) else 0
set_option maxHeartbeats 4000000 in
set_option maxRecDepth 100000 in
theorem ctor_Md_1 {F : FT} {G : GE} {h0 : Nat} (hG : F.2.1 = G) (hm : F.2.2.2.2.2.2.2.2.2.2.2.2.2.2.1 = 2) (ok : OkC F prog_12_method_1_code "LastSeenModel" ({ frames := 1, cells := 54, slots := 63927, locals := 20 } : Room)) {u : Nat → Nat} {g : Int → Int} : ∀ (t : Nat) (x : Int) (f : Int → Int), 0 ≤ x → x ≤ 100 → 100 - x ≤ t → (∀ z, f z = if 0 ≤ z ∧ z < x then fMf z else 0) → (AtC F 54 63927 489 [(0, .ref h0)] [] (w_Md G h0 fMf g u)) → AtC F 54 63927 458 [(0, .ref h0), (1, vI x)] [] (w_Md G h0 f g u) := by
  subst hG
  have fin : ∀ f : Int → Int, (∀ z, f z = if 0 ≤ z ∧ z < 100 then fMf z else 0) → f = fMf := by
    intro f hf
    funext z
    rw [hf z]
    split
    · rfl
    · unfold fMf; rw [if_neg (by omega)]
  intro t
  induction t with
  | zero =>
    intro x f h1 h2 h3 hf kk
    have e : x = 100 := by omega
    subst e
    refine c_iload_n ok 1 d_Md_init_458 rfl rfl ?_
    refine c_bipush ok 100 d_Md_init_459 (by decide) ?_
    refine c_icmp_ge ok 489 d_Md_init_461 (by decide) ⟨by omega, by omega⟩ (by decide) (fun c => ?_) (fun c => ?_)
    · rw [fin f hf]
      exact c_sub [0] rfl kk
    · omega
  | succ t ih =>
    intro x f h1 h2 h3 hf kk
    refine c_iload_n ok 1 d_Md_init_458 rfl rfl ?_
    refine c_bipush ok 100 d_Md_init_459 (by decide) ?_
    refine c_icmp_ge ok 489 d_Md_init_461 (by decide) ⟨by omega, by omega⟩ (by decide) (fun c => ?_) (fun c => ?_)
    · have e : x = 100 := by omega
      subst e
      rw [fin f hf]
      exact c_sub [0] rfl kk
    · refine c_aload_n ok 0 d_Md_init_464 rfl rfl ?_
      refine c_getf ok 10 0 (TT := T_Md) (N := 75) (j := 0) in_Md rfl rfl (by decide) rfl wz_Md_far rfl d_Md_init_465 ?_
      refine c_iload_n ok 1 d_Md_init_468 rfl rfl ?_
      refine c_iload_n ok 1 d_Md_init_469 rfl rfl ?_
      refine c_bipush ok 11 d_Md_init_470 (by decide) ?_
      refine c_irem ok 11 d_Md_init_472 ⟨by omega, by omega⟩ (by decide) (by decide) ?_
      have fin2 : ∀ v : Int, v = fMf x → AtC F 54 63927 482 [(0, .ref h0), (1, vI x)] [vI v, vI x, .ref (u 0)] (w_Md F.2.1 h0 f g u) := by
        intro v hv
        refine c_iast ok 1 (N := 100) (f := f) (f2 := fun z => if z = x then v else f z) d_Md_init_482 (by decide) rfl ⟨by omega, by omega⟩ (fun _ => rfl) ?_
        refine c_ws (ws' := w_Md F.2.1 h0 (fun z => if z = x then v else f z) g u) rfl ?_
        refine c_iinc ok 1 (x + 1) [(1, vI (x + 1)), (0, .ref h0)] d_Md_init_483 rfl rfl hm (by decide) rfl ?_
        refine c_goto ok 458 d_Md_init_486 (by decide) ?_
        refine c_sub [1, 0] rfl (ih (x + 1) _ (by omega) (by omega) (by omega) (fun z => ?_) kk)
        rw [hf z]
        by_cases hz : z = x
        · rw [if_pos hz, if_pos ⟨by omega, by omega⟩, hv, hz]
        · rw [if_neg hz]
          by_cases hz2 : 0 ≤ z ∧ z < x
          · rw [if_pos hz2, if_pos ⟨hz2.1, by omega⟩]
          · rw [if_neg hz2, if_neg (fun q => hz2 ⟨q.1, by omega⟩)]
      have hfl : fMf x = if x % 11 = 0 then 0 else 100000 := by
        unfold fMf
        rw [if_pos ⟨by omega, by omega⟩]
      refine c_if_ne ok 480 d_Md_init_473 (by decide) ⟨by omega, by omega⟩ (fun c2 => ?_) (fun c2 => ?_)
      · refine c_ldc ok 100000 wk_Md_178 d_Md_init_480 (by decide) ?_
        exact fin2 _ (by rw [hfl, if_neg c2])
      · refine c_iconst ok 0 d_Md_init_476 rfl ?_
        refine c_goto ok 482 d_Md_init_477 (by decide) ?_
        exact fin2 _ (by rw [hfl, if_pos c2])
set_option maxHeartbeats 4000000 in
set_option maxRecDepth 100000 in
theorem ctor_Md_2 {F : FT} {G : GE} {h0 : Nat} (hG : F.2.1 = G) (hm : F.2.2.2.2.2.2.2.2.2.2.2.2.2.2.1 = 2) (ok : OkC F prog_12_method_1_code "LastSeenModel" ({ frames := 1, cells := 54, slots := 63927, locals := 20 } : Room)) {u : Nat → Nat} (hQ : RetC F 54 63927 (fun _ : Nat → Nat => True) (fun u : Nat → Nat => w_Md G h0 fMf fMg u)) : ∀ (t : Nat) (x : Int) (g : Int → Int), 0 ≤ x → x ≤ 8 → 8 - x ≤ t → (∀ z, g z = if 0 ≤ z ∧ z < x then (-1) else 0) → AtC F 54 63927 491 [(0, .ref h0), (1, vI x)] [] (w_Md G h0 fMf g u) := by
  subst hG
  have fin : ∀ g : Int → Int, (∀ z, g z = if 0 ≤ z ∧ z < 8 then (-1) else 0) → g = fMg := fun g hg => funext hg
  intro t
  induction t with
  | zero =>
    intro x g h1 h2 h3 hf
    have e : x = 8 := by omega
    subst e
    refine c_iload_n ok 1 d_Md_init_491 rfl rfl ?_
    refine c_bipush ok 8 d_Md_init_492 (by decide) ?_
    refine c_icmp_ge ok 510 d_Md_init_494 (by decide) ⟨by omega, by omega⟩ (by decide) (fun c => ?_) (fun c => ?_)
    · rw [fin g hf]
      exact hQ _ _ _ u _ (okC_code ok) d_Md_init_510 trivial rfl
    · omega
  | succ t ih =>
    intro x g h1 h2 h3 hf
    refine c_iload_n ok 1 d_Md_init_491 rfl rfl ?_
    refine c_bipush ok 8 d_Md_init_492 (by decide) ?_
    refine c_icmp_ge ok 510 d_Md_init_494 (by decide) ⟨by omega, by omega⟩ (by decide) (fun c => ?_) (fun c => ?_)
    · have e : x = 8 := by omega
      subst e
      rw [fin g hf]
      exact hQ _ _ _ u _ (okC_code ok) d_Md_init_510 trivial rfl
    · refine c_aload_n ok 0 d_Md_init_497 rfl rfl ?_
      refine c_getf ok 10 0 (TT := T_Md) (N := 75) (j := 63) in_Md rfl rfl (by decide) rfl wz_Md_given rfl d_Md_init_498 ?_
      refine c_iload_n ok 1 d_Md_init_501 rfl rfl ?_
      refine c_iconst ok (-1) d_Md_init_502 rfl ?_
      refine c_iast ok 46 (N := 8) (f := g) (f2 := fun z => if z = x then (-1) else g z) d_Md_init_503 (by decide) rfl ⟨by omega, by omega⟩ (fun _ => rfl) ?_
      refine c_ws (ws' := w_Md F.2.1 h0 fMf (fun z => if z = x then (-1) else g z) u) rfl ?_
      refine c_iinc ok 1 (x + 1) [(1, vI (x + 1)), (0, .ref h0)] d_Md_init_504 rfl rfl hm (by decide) rfl ?_
      refine c_goto ok 491 d_Md_init_507 (by decide) ?_
      refine c_sub [1, 0] rfl (ih (x + 1) _ (by omega) (by omega) (by omega) (fun z => ?_))
      rw [hf z]
      by_cases hz : z = x
      · rw [if_pos hz, if_pos ⟨by omega, by omega⟩]
      · rw [if_neg hz]
        by_cases hz2 : 0 ≤ z ∧ z < x
        · rw [if_pos hz2, if_pos ⟨hz2.1, by omega⟩]
        · rw [if_neg hz2, if_neg (fun q => hz2 ⟨q.1, by omega⟩)]
set_option maxHeartbeats 4000000 in
set_option maxRecDepth 100000 in
theorem C_Md (l : Launch) (G : GE) (h0 : Nat) (sz : Nat) : Met l y_Md_init (Cond.code y_Md_init prog_12_method_1_code 2 none :: lw_ok) ({ frames := 1, cells := 54, slots := 63927, locals := 20 } : Room) (va_Pc [.ref h0] (fun U => U.heap.size = sz ∧ va_P G.2.1 classes [(h0, .inr (10, df_Md))] U.heap ∧ va_K G.2.1 classes (tysG G) U ∧ nwK U ∧ va_D (fun _ => True) [(h0, .inr (10, df_Md))])) (va_Qv (fun _ : Nat → Nat => True) (fun u t => va_P G.2.1 classes ((fun u : Nat → Nat => w_Md G h0 fMf fMg u) u) t.heap ∧ va_D (va_A [(h0, .inr (10, df_Md))] sz) ((fun u : Nat → Nat => w_Md G h0 fMf fMg u) u)) (va_A [(h0, .inr (10, df_Md))] sz)) 54 63927 (va_A [(h0, .inr (10, df_Md))] sz) := by
  refine met_c (wN := (fun u : Nat → Nat => w_Md G h0 fMf fMg u)) (lv := [(0, .ref h0)]) [(h0, .inr (10, df_Md))] (by decide) (Nat.le_of_ble_eq_true rfl) rfl rfl (fun F hl hG hm hini ok hQ => ?_) sz
  subst hG
  refine c_aload_n ok 0 d_Md_init_0 rfl rfl ?_
  refine c_objInit ok wl_Md_1 wz_oi wz_oc (Nat.le_of_ble_eq_true rfl) (Nat.le_of_ble_eq_true rfl) d_Md_init_1 ?_
  refine c_aload_n ok 0 d_Md_init_4 rfl rfl ?_
  refine c_bipush ok 100 d_Md_init_5 (by decide) ?_
  refine c_newI ok 100 rfl (Nat.le_of_ble_eq_true rfl) wz_arr_I (Nat.le_of_ble_eq_true rfl) (Nat.le_of_ble_eq_true rfl) d_Md_init_7 (fun q0 => ?_)
  refine c_putF ok 10 (TT := T_Md) (N := 75) (j := 0) (ty := .array .int) in_Md to_Md n_Md rfl (by decide) rfl wz_Md_far rfl hini rfl rfl rfl rfl (Nat.le_of_ble_eq_true rfl) d_Md_init_9 ?_
  refine c_ws (ws' := (h0, .inr (10, [.ref q0, vI 0, .null, .null, .null, vI 0, .null, .null, .null, vI 0, vI 0, .null, vI 0, vI 0, vI 0, vI 0, .null, .null, .null, .null, .null, .null, .null, .null, .null, .null, .null, .null, .null, .null, .null, vI 0, .null, vI 0, .null, .null, .null, .null, vI 0, .null, .null, .null, .null, .null, .null, vI 0, vI 0, vI 0, vI 0, vI 0, .null, .null, .null, .null, vI 0, .null, .null, vI 0, .null, .null, .null, .null, .null, .null, .null, .null, .null, .null, .null, vI 0, vI 0, vI 0, .null, .null, .null])) :: [(q0, .inl (F.2.1.2.2 0, 100, .inl (fun _ => 0)))]) rfl ?_
  refine c_aload_n ok 0 d_Md_init_12 rfl rfl ?_
  refine c_sipush ok 200 d_Md_init_13 (by decide) ?_
  refine c_newI ok 200 rfl (Nat.le_of_ble_eq_true rfl) wz_arr_I (Nat.le_of_ble_eq_true rfl) (Nat.le_of_ble_eq_true rfl) d_Md_init_16 (fun q1 => ?_)
  refine c_putF ok 10 (TT := T_Md) (N := 75) (j := 2) (ty := .array .int) in_Md to_Md n_Md rfl (by decide) rfl wz_Md_entryIs rfl hini rfl rfl rfl rfl (Nat.le_of_ble_eq_true rfl) d_Md_init_18 ?_
  refine c_ws (ws' := (h0, .inr (10, [.ref q0, vI 0, .ref q1, .null, .null, vI 0, .null, .null, .null, vI 0, vI 0, .null, vI 0, vI 0, vI 0, vI 0, .null, .null, .null, .null, .null, .null, .null, .null, .null, .null, .null, .null, .null, .null, .null, vI 0, .null, vI 0, .null, .null, .null, .null, vI 0, .null, .null, .null, .null, .null, .null, vI 0, vI 0, vI 0, vI 0, vI 0, .null, .null, .null, .null, vI 0, .null, .null, vI 0, .null, .null, .null, .null, .null, .null, .null, .null, .null, .null, .null, vI 0, vI 0, vI 0, .null, .null, .null])) :: [(q0, .inl (F.2.1.2.2 0, 100, .inl (fun _ => 0))), (q1, .inl (F.2.1.2.2 0, 200, .inl (fun _ => 0)))]) rfl ?_
  refine c_aload_n ok 0 d_Md_init_21 rfl rfl ?_
  refine c_sipush ok 200 d_Md_init_22 (by decide) ?_
  refine c_newI ok 200 rfl (Nat.le_of_ble_eq_true rfl) wz_arr_I (Nat.le_of_ble_eq_true rfl) (Nat.le_of_ble_eq_true rfl) d_Md_init_25 (fun q2 => ?_)
  refine c_putF ok 10 (TT := T_Md) (N := 75) (j := 3) (ty := .array .int) in_Md to_Md n_Md rfl (by decide) rfl wz_Md_entryA rfl hini rfl rfl rfl rfl (Nat.le_of_ble_eq_true rfl) d_Md_init_27 ?_
  refine c_ws (ws' := (h0, .inr (10, [.ref q0, vI 0, .ref q1, .ref q2, .null, vI 0, .null, .null, .null, vI 0, vI 0, .null, vI 0, vI 0, vI 0, vI 0, .null, .null, .null, .null, .null, .null, .null, .null, .null, .null, .null, .null, .null, .null, .null, vI 0, .null, vI 0, .null, .null, .null, .null, vI 0, .null, .null, .null, .null, .null, .null, vI 0, vI 0, vI 0, vI 0, vI 0, .null, .null, .null, .null, vI 0, .null, .null, vI 0, .null, .null, .null, .null, .null, .null, .null, .null, .null, .null, .null, vI 0, vI 0, vI 0, .null, .null, .null])) :: [(q0, .inl (F.2.1.2.2 0, 100, .inl (fun _ => 0))), (q1, .inl (F.2.1.2.2 0, 200, .inl (fun _ => 0))), (q2, .inl (F.2.1.2.2 0, 200, .inl (fun _ => 0)))]) rfl ?_
  refine c_aload_n ok 0 d_Md_init_30 rfl rfl ?_
  refine c_sipush ok 200 d_Md_init_31 (by decide) ?_
  refine c_newI ok 200 rfl (Nat.le_of_ble_eq_true rfl) wz_arr_I (Nat.le_of_ble_eq_true rfl) (Nat.le_of_ble_eq_true rfl) d_Md_init_34 (fun q3 => ?_)
  refine c_putF ok 10 (TT := T_Md) (N := 75) (j := 4) (ty := .array .int) in_Md to_Md n_Md rfl (by decide) rfl wz_Md_entryB rfl hini rfl rfl rfl rfl (Nat.le_of_ble_eq_true rfl) d_Md_init_36 ?_
  refine c_ws (ws' := (h0, .inr (10, [.ref q0, vI 0, .ref q1, .ref q2, .ref q3, vI 0, .null, .null, .null, vI 0, vI 0, .null, vI 0, vI 0, vI 0, vI 0, .null, .null, .null, .null, .null, .null, .null, .null, .null, .null, .null, .null, .null, .null, .null, vI 0, .null, vI 0, .null, .null, .null, .null, vI 0, .null, .null, .null, .null, .null, .null, vI 0, vI 0, vI 0, vI 0, vI 0, .null, .null, .null, .null, vI 0, .null, .null, vI 0, .null, .null, .null, .null, .null, .null, .null, .null, .null, .null, .null, vI 0, vI 0, vI 0, .null, .null, .null])) :: [(q0, .inl (F.2.1.2.2 0, 100, .inl (fun _ => 0))), (q1, .inl (F.2.1.2.2 0, 200, .inl (fun _ => 0))), (q2, .inl (F.2.1.2.2 0, 200, .inl (fun _ => 0))), (q3, .inl (F.2.1.2.2 0, 200, .inl (fun _ => 0)))]) rfl ?_
  refine c_aload_n ok 0 d_Md_init_39 rfl rfl ?_
  refine c_sipush ok 200 d_Md_init_40 (by decide) ?_
  refine c_newI ok 200 rfl (Nat.le_of_ble_eq_true rfl) wz_arr_I (Nat.le_of_ble_eq_true rfl) (Nat.le_of_ble_eq_true rfl) d_Md_init_43 (fun q4 => ?_)
  refine c_putF ok 10 (TT := T_Md) (N := 75) (j := 6) (ty := .array .int) in_Md to_Md n_Md rfl (by decide) rfl wz_Md_tape rfl hini rfl rfl rfl rfl (Nat.le_of_ble_eq_true rfl) d_Md_init_45 ?_
  refine c_ws (ws' := (h0, .inr (10, [.ref q0, vI 0, .ref q1, .ref q2, .ref q3, vI 0, .ref q4, .null, .null, vI 0, vI 0, .null, vI 0, vI 0, vI 0, vI 0, .null, .null, .null, .null, .null, .null, .null, .null, .null, .null, .null, .null, .null, .null, .null, vI 0, .null, vI 0, .null, .null, .null, .null, vI 0, .null, .null, .null, .null, .null, .null, vI 0, vI 0, vI 0, vI 0, vI 0, .null, .null, .null, .null, vI 0, .null, .null, vI 0, .null, .null, .null, .null, .null, .null, .null, .null, .null, .null, .null, vI 0, vI 0, vI 0, .null, .null, .null])) :: [(q0, .inl (F.2.1.2.2 0, 100, .inl (fun _ => 0))), (q1, .inl (F.2.1.2.2 0, 200, .inl (fun _ => 0))), (q2, .inl (F.2.1.2.2 0, 200, .inl (fun _ => 0))), (q3, .inl (F.2.1.2.2 0, 200, .inl (fun _ => 0))), (q4, .inl (F.2.1.2.2 0, 200, .inl (fun _ => 0)))]) rfl ?_
  refine c_aload_n ok 0 d_Md_init_48 rfl rfl ?_
  refine c_sipush ok 240 d_Md_init_49 (by decide) ?_
  refine c_newI ok 240 rfl (Nat.le_of_ble_eq_true rfl) wz_arr_I (Nat.le_of_ble_eq_true rfl) (Nat.le_of_ble_eq_true rfl) d_Md_init_52 (fun q5 => ?_)
  refine c_putF ok 10 (TT := T_Md) (N := 75) (j := 7) (ty := .array .int) in_Md to_Md n_Md rfl (by decide) rfl wz_Md_key rfl hini rfl rfl rfl rfl (Nat.le_of_ble_eq_true rfl) d_Md_init_54 ?_
  refine c_ws (ws' := (h0, .inr (10, [.ref q0, vI 0, .ref q1, .ref q2, .ref q3, vI 0, .ref q4, .ref q5, .null, vI 0, vI 0, .null, vI 0, vI 0, vI 0, vI 0, .null, .null, .null, .null, .null, .null, .null, .null, .null, .null, .null, .null, .null, .null, .null, vI 0, .null, vI 0, .null, .null, .null, .null, vI 0, .null, .null, .null, .null, .null, .null, vI 0, vI 0, vI 0, vI 0, vI 0, .null, .null, .null, .null, vI 0, .null, .null, vI 0, .null, .null, .null, .null, .null, .null, .null, .null, .null, .null, .null, vI 0, vI 0, vI 0, .null, .null, .null])) :: [(q0, .inl (F.2.1.2.2 0, 100, .inl (fun _ => 0))), (q1, .inl (F.2.1.2.2 0, 200, .inl (fun _ => 0))), (q2, .inl (F.2.1.2.2 0, 200, .inl (fun _ => 0))), (q3, .inl (F.2.1.2.2 0, 200, .inl (fun _ => 0))), (q4, .inl (F.2.1.2.2 0, 200, .inl (fun _ => 0))), (q5, .inl (F.2.1.2.2 0, 240, .inl (fun _ => 0)))]) rfl ?_
  refine c_aload_n ok 0 d_Md_init_57 rfl rfl ?_
  refine c_bipush ok 20 d_Md_init_58 (by decide) ?_
  refine c_newI ok 20 rfl (Nat.le_of_ble_eq_true rfl) wz_arr_I (Nat.le_of_ble_eq_true rfl) (Nat.le_of_ble_eq_true rfl) d_Md_init_60 (fun q6 => ?_)
  refine c_putF ok 10 (TT := T_Md) (N := 75) (j := 8) (ty := .array .int) in_Md to_Md n_Md rfl (by decide) rfl wz_Md_keySize rfl hini rfl rfl rfl rfl (Nat.le_of_ble_eq_true rfl) d_Md_init_62 ?_
  refine c_ws (ws' := (h0, .inr (10, [.ref q0, vI 0, .ref q1, .ref q2, .ref q3, vI 0, .ref q4, .ref q5, .ref q6, vI 0, vI 0, .null, vI 0, vI 0, vI 0, vI 0, .null, .null, .null, .null, .null, .null, .null, .null, .null, .null, .null, .null, .null, .null, .null, vI 0, .null, vI 0, .null, .null, .null, .null, vI 0, .null, .null, .null, .null, .null, .null, vI 0, vI 0, vI 0, vI 0, vI 0, .null, .null, .null, .null, vI 0, .null, .null, vI 0, .null, .null, .null, .null, .null, .null, .null, .null, .null, .null, .null, vI 0, vI 0, vI 0, .null, .null, .null])) :: [(q0, .inl (F.2.1.2.2 0, 100, .inl (fun _ => 0))), (q1, .inl (F.2.1.2.2 0, 200, .inl (fun _ => 0))), (q2, .inl (F.2.1.2.2 0, 200, .inl (fun _ => 0))), (q3, .inl (F.2.1.2.2 0, 200, .inl (fun _ => 0))), (q4, .inl (F.2.1.2.2 0, 200, .inl (fun _ => 0))), (q5, .inl (F.2.1.2.2 0, 240, .inl (fun _ => 0))), (q6, .inl (F.2.1.2.2 0, 20, .inl (fun _ => 0)))]) rfl ?_
  refine c_aload_n ok 0 d_Md_init_65 rfl rfl ?_
  refine c_bipush ok 12 d_Md_init_66 (by decide) ?_
  refine c_newI ok 12 rfl (Nat.le_of_ble_eq_true rfl) wz_arr_I (Nat.le_of_ble_eq_true rfl) (Nat.le_of_ble_eq_true rfl) d_Md_init_68 (fun q7 => ?_)
  refine c_putF ok 10 (TT := T_Md) (N := 75) (j := 11) (ty := .array .int) in_Md to_Md n_Md rfl (by decide) rfl wz_Md_spelled rfl hini rfl rfl rfl rfl (Nat.le_of_ble_eq_true rfl) d_Md_init_70 ?_
  refine c_ws (ws' := (h0, .inr (10, [.ref q0, vI 0, .ref q1, .ref q2, .ref q3, vI 0, .ref q4, .ref q5, .ref q6, vI 0, vI 0, .ref q7, vI 0, vI 0, vI 0, vI 0, .null, .null, .null, .null, .null, .null, .null, .null, .null, .null, .null, .null, .null, .null, .null, vI 0, .null, vI 0, .null, .null, .null, .null, vI 0, .null, .null, .null, .null, .null, .null, vI 0, vI 0, vI 0, vI 0, vI 0, .null, .null, .null, .null, vI 0, .null, .null, vI 0, .null, .null, .null, .null, .null, .null, .null, .null, .null, .null, .null, vI 0, vI 0, vI 0, .null, .null, .null])) :: [(q0, .inl (F.2.1.2.2 0, 100, .inl (fun _ => 0))), (q1, .inl (F.2.1.2.2 0, 200, .inl (fun _ => 0))), (q2, .inl (F.2.1.2.2 0, 200, .inl (fun _ => 0))), (q3, .inl (F.2.1.2.2 0, 200, .inl (fun _ => 0))), (q4, .inl (F.2.1.2.2 0, 200, .inl (fun _ => 0))), (q5, .inl (F.2.1.2.2 0, 240, .inl (fun _ => 0))), (q6, .inl (F.2.1.2.2 0, 20, .inl (fun _ => 0))), (q7, .inl (F.2.1.2.2 0, 12, .inl (fun _ => 0)))]) rfl ?_
  refine c_aload_n ok 0 d_Md_init_73 rfl rfl ?_
  refine c_sipush ok 400 d_Md_init_74 (by decide) ?_
  refine c_newZ ok 400 rfl (Nat.le_of_ble_eq_true rfl) wz_arr_Z (Nat.le_of_ble_eq_true rfl) (Nat.le_of_ble_eq_true rfl) d_Md_init_77 (fun q8 => ?_)
  refine c_putF ok 10 (TT := T_Md) (N := 75) (j := 16) (ty := .array .boolean) in_Md to_Md n_Md rfl (by decide) rfl wz_Md_isLinked rfl hini rfl rfl rfl rfl (Nat.le_of_ble_eq_true rfl) d_Md_init_79 ?_
  refine c_ws (ws' := (h0, .inr (10, [.ref q0, vI 0, .ref q1, .ref q2, .ref q3, vI 0, .ref q4, .ref q5, .ref q6, vI 0, vI 0, .ref q7, vI 0, vI 0, vI 0, vI 0, .ref q8, .null, .null, .null, .null, .null, .null, .null, .null, .null, .null, .null, .null, .null, .null, vI 0, .null, vI 0, .null, .null, .null, .null, vI 0, .null, .null, .null, .null, .null, .null, vI 0, vI 0, vI 0, vI 0, vI 0, .null, .null, .null, .null, vI 0, .null, .null, vI 0, .null, .null, .null, .null, .null, .null, .null, .null, .null, .null, .null, vI 0, vI 0, vI 0, .null, .null, .null])) :: [(q0, .inl (F.2.1.2.2 0, 100, .inl (fun _ => 0))), (q1, .inl (F.2.1.2.2 0, 200, .inl (fun _ => 0))), (q2, .inl (F.2.1.2.2 0, 200, .inl (fun _ => 0))), (q3, .inl (F.2.1.2.2 0, 200, .inl (fun _ => 0))), (q4, .inl (F.2.1.2.2 0, 200, .inl (fun _ => 0))), (q5, .inl (F.2.1.2.2 0, 240, .inl (fun _ => 0))), (q6, .inl (F.2.1.2.2 0, 20, .inl (fun _ => 0))), (q7, .inl (F.2.1.2.2 0, 12, .inl (fun _ => 0))), (q8, .inl (F.2.1.2.2 2, 400, .inl (fun _ => 0)))]) rfl ?_
  refine c_aload_n ok 0 d_Md_init_82 rfl rfl ?_
  refine c_sipush ok 400 d_Md_init_83 (by decide) ?_
  refine c_newZ ok 400 rfl (Nat.le_of_ble_eq_true rfl) wz_arr_Z (Nat.le_of_ble_eq_true rfl) (Nat.le_of_ble_eq_true rfl) d_Md_init_86 (fun q9 => ?_)
  refine c_putF ok 10 (TT := T_Md) (N := 75) (j := 17) (ty := .array .boolean) in_Md to_Md n_Md rfl (by decide) rfl wz_Md_isParted rfl hini rfl rfl rfl rfl (Nat.le_of_ble_eq_true rfl) d_Md_init_88 ?_
  refine c_ws (ws' := (h0, .inr (10, [.ref q0, vI 0, .ref q1, .ref q2, .ref q3, vI 0, .ref q4, .ref q5, .ref q6, vI 0, vI 0, .ref q7, vI 0, vI 0, vI 0, vI 0, .ref q8, .ref q9, .null, .null, .null, .null, .null, .null, .null, .null, .null, .null, .null, .null, .null, vI 0, .null, vI 0, .null, .null, .null, .null, vI 0, .null, .null, .null, .null, .null, .null, vI 0, vI 0, vI 0, vI 0, vI 0, .null, .null, .null, .null, vI 0, .null, .null, vI 0, .null, .null, .null, .null, .null, .null, .null, .null, .null, .null, .null, vI 0, vI 0, vI 0, .null, .null, .null])) :: [(q0, .inl (F.2.1.2.2 0, 100, .inl (fun _ => 0))), (q1, .inl (F.2.1.2.2 0, 200, .inl (fun _ => 0))), (q2, .inl (F.2.1.2.2 0, 200, .inl (fun _ => 0))), (q3, .inl (F.2.1.2.2 0, 200, .inl (fun _ => 0))), (q4, .inl (F.2.1.2.2 0, 200, .inl (fun _ => 0))), (q5, .inl (F.2.1.2.2 0, 240, .inl (fun _ => 0))), (q6, .inl (F.2.1.2.2 0, 20, .inl (fun _ => 0))), (q7, .inl (F.2.1.2.2 0, 12, .inl (fun _ => 0))), (q8, .inl (F.2.1.2.2 2, 400, .inl (fun _ => 0))), (q9, .inl (F.2.1.2.2 2, 400, .inl (fun _ => 0)))]) rfl ?_
  refine c_aload_n ok 0 d_Md_init_91 rfl rfl ?_
  refine c_bipush ok 40 d_Md_init_92 (by decide) ?_
  refine c_newZ ok 40 rfl (Nat.le_of_ble_eq_true rfl) wz_arr_Z (Nat.le_of_ble_eq_true rfl) (Nat.le_of_ble_eq_true rfl) d_Md_init_94 (fun q10 => ?_)
  refine c_putF ok 10 (TT := T_Md) (N := 75) (j := 18) (ty := .array .boolean) in_Md to_Md n_Md rfl (by decide) rfl wz_Md_isGone rfl hini rfl rfl rfl rfl (Nat.le_of_ble_eq_true rfl) d_Md_init_96 ?_
  refine c_ws (ws' := (h0, .inr (10, [.ref q0, vI 0, .ref q1, .ref q2, .ref q3, vI 0, .ref q4, .ref q5, .ref q6, vI 0, vI 0, .ref q7, vI 0, vI 0, vI 0, vI 0, .ref q8, .ref q9, .ref q10, .null, .null, .null, .null, .null, .null, .null, .null, .null, .null, .null, .null, vI 0, .null, vI 0, .null, .null, .null, .null, vI 0, .null, .null, .null, .null, .null, .null, vI 0, vI 0, vI 0, vI 0, vI 0, .null, .null, .null, .null, vI 0, .null, .null, vI 0, .null, .null, .null, .null, .null, .null, .null, .null, .null, .null, .null, vI 0, vI 0, vI 0, .null, .null, .null])) :: [(q0, .inl (F.2.1.2.2 0, 100, .inl (fun _ => 0))), (q1, .inl (F.2.1.2.2 0, 200, .inl (fun _ => 0))), (q2, .inl (F.2.1.2.2 0, 200, .inl (fun _ => 0))), (q3, .inl (F.2.1.2.2 0, 200, .inl (fun _ => 0))), (q4, .inl (F.2.1.2.2 0, 200, .inl (fun _ => 0))), (q5, .inl (F.2.1.2.2 0, 240, .inl (fun _ => 0))), (q6, .inl (F.2.1.2.2 0, 20, .inl (fun _ => 0))), (q7, .inl (F.2.1.2.2 0, 12, .inl (fun _ => 0))), (q8, .inl (F.2.1.2.2 2, 400, .inl (fun _ => 0))), (q9, .inl (F.2.1.2.2 2, 400, .inl (fun _ => 0))), (q10, .inl (F.2.1.2.2 2, 40, .inl (fun _ => 0)))]) rfl ?_
  refine c_aload_n ok 0 d_Md_init_99 rfl rfl ?_
  refine c_bipush ok 40 d_Md_init_100 (by decide) ?_
  refine c_newZ ok 40 rfl (Nat.le_of_ble_eq_true rfl) wz_arr_Z (Nat.le_of_ble_eq_true rfl) (Nat.le_of_ble_eq_true rfl) d_Md_init_102 (fun q11 => ?_)
  refine c_putF ok 10 (TT := T_Md) (N := 75) (j := 19) (ty := .array .boolean) in_Md to_Md n_Md rfl (by decide) rfl wz_Md_stands rfl hini rfl rfl rfl rfl (Nat.le_of_ble_eq_true rfl) d_Md_init_104 ?_
  refine c_ws (ws' := (h0, .inr (10, [.ref q0, vI 0, .ref q1, .ref q2, .ref q3, vI 0, .ref q4, .ref q5, .ref q6, vI 0, vI 0, .ref q7, vI 0, vI 0, vI 0, vI 0, .ref q8, .ref q9, .ref q10, .ref q11, .null, .null, .null, .null, .null, .null, .null, .null, .null, .null, .null, vI 0, .null, vI 0, .null, .null, .null, .null, vI 0, .null, .null, .null, .null, .null, .null, vI 0, vI 0, vI 0, vI 0, vI 0, .null, .null, .null, .null, vI 0, .null, .null, vI 0, .null, .null, .null, .null, .null, .null, .null, .null, .null, .null, .null, vI 0, vI 0, vI 0, .null, .null, .null])) :: [(q0, .inl (F.2.1.2.2 0, 100, .inl (fun _ => 0))), (q1, .inl (F.2.1.2.2 0, 200, .inl (fun _ => 0))), (q2, .inl (F.2.1.2.2 0, 200, .inl (fun _ => 0))), (q3, .inl (F.2.1.2.2 0, 200, .inl (fun _ => 0))), (q4, .inl (F.2.1.2.2 0, 200, .inl (fun _ => 0))), (q5, .inl (F.2.1.2.2 0, 240, .inl (fun _ => 0))), (q6, .inl (F.2.1.2.2 0, 20, .inl (fun _ => 0))), (q7, .inl (F.2.1.2.2 0, 12, .inl (fun _ => 0))), (q8, .inl (F.2.1.2.2 2, 400, .inl (fun _ => 0))), (q9, .inl (F.2.1.2.2 2, 400, .inl (fun _ => 0))), (q10, .inl (F.2.1.2.2 2, 40, .inl (fun _ => 0))), (q11, .inl (F.2.1.2.2 2, 40, .inl (fun _ => 0)))]) rfl ?_
  refine c_aload_n ok 0 d_Md_init_107 rfl rfl ?_
  refine c_bipush ok 40 d_Md_init_108 (by decide) ?_
  refine c_newZ ok 40 rfl (Nat.le_of_ble_eq_true rfl) wz_arr_Z (Nat.le_of_ble_eq_true rfl) (Nat.le_of_ble_eq_true rfl) d_Md_init_110 (fun q12 => ?_)
  refine c_putF ok 10 (TT := T_Md) (N := 75) (j := 20) (ty := .array .boolean) in_Md to_Md n_Md rfl (by decide) rfl wz_Md_standsNow rfl hini rfl rfl rfl rfl (Nat.le_of_ble_eq_true rfl) d_Md_init_112 ?_
  refine c_ws (ws' := (h0, .inr (10, [.ref q0, vI 0, .ref q1, .ref q2, .ref q3, vI 0, .ref q4, .ref q5, .ref q6, vI 0, vI 0, .ref q7, vI 0, vI 0, vI 0, vI 0, .ref q8, .ref q9, .ref q10, .ref q11, .ref q12, .null, .null, .null, .null, .null, .null, .null, .null, .null, .null, vI 0, .null, vI 0, .null, .null, .null, .null, vI 0, .null, .null, .null, .null, .null, .null, vI 0, vI 0, vI 0, vI 0, vI 0, .null, .null, .null, .null, vI 0, .null, .null, vI 0, .null, .null, .null, .null, .null, .null, .null, .null, .null, .null, .null, vI 0, vI 0, vI 0, .null, .null, .null])) :: [(q0, .inl (F.2.1.2.2 0, 100, .inl (fun _ => 0))), (q1, .inl (F.2.1.2.2 0, 200, .inl (fun _ => 0))), (q2, .inl (F.2.1.2.2 0, 200, .inl (fun _ => 0))), (q3, .inl (F.2.1.2.2 0, 200, .inl (fun _ => 0))), (q4, .inl (F.2.1.2.2 0, 200, .inl (fun _ => 0))), (q5, .inl (F.2.1.2.2 0, 240, .inl (fun _ => 0))), (q6, .inl (F.2.1.2.2 0, 20, .inl (fun _ => 0))), (q7, .inl (F.2.1.2.2 0, 12, .inl (fun _ => 0))), (q8, .inl (F.2.1.2.2 2, 400, .inl (fun _ => 0))), (q9, .inl (F.2.1.2.2 2, 400, .inl (fun _ => 0))), (q10, .inl (F.2.1.2.2 2, 40, .inl (fun _ => 0))), (q11, .inl (F.2.1.2.2 2, 40, .inl (fun _ => 0))), (q12, .inl (F.2.1.2.2 2, 40, .inl (fun _ => 0)))]) rfl ?_
  refine c_aload_n ok 0 d_Md_init_115 rfl rfl ?_
  refine c_bipush ok 20 d_Md_init_116 (by decide) ?_
  refine c_newI ok 20 rfl (Nat.le_of_ble_eq_true rfl) wz_arr_I (Nat.le_of_ble_eq_true rfl) (Nat.le_of_ble_eq_true rfl) d_Md_init_118 (fun q13 => ?_)
  refine c_putF ok 10 (TT := T_Md) (N := 75) (j := 21) (ty := .array .int) in_Md to_Md n_Md rfl (by decide) rfl wz_Md_person rfl hini rfl rfl rfl rfl (Nat.le_of_ble_eq_true rfl) d_Md_init_120 ?_
  refine c_ws (ws' := (h0, .inr (10, [.ref q0, vI 0, .ref q1, .ref q2, .ref q3, vI 0, .ref q4, .ref q5, .ref q6, vI 0, vI 0, .ref q7, vI 0, vI 0, vI 0, vI 0, .ref q8, .ref q9, .ref q10, .ref q11, .ref q12, .ref q13, .null, .null, .null, .null, .null, .null, .null, .null, .null, vI 0, .null, vI 0, .null, .null, .null, .null, vI 0, .null, .null, .null, .null, .null, .null, vI 0, vI 0, vI 0, vI 0, vI 0, .null, .null, .null, .null, vI 0, .null, .null, vI 0, .null, .null, .null, .null, .null, .null, .null, .null, .null, .null, .null, vI 0, vI 0, vI 0, .null, .null, .null])) :: [(q0, .inl (F.2.1.2.2 0, 100, .inl (fun _ => 0))), (q1, .inl (F.2.1.2.2 0, 200, .inl (fun _ => 0))), (q2, .inl (F.2.1.2.2 0, 200, .inl (fun _ => 0))), (q3, .inl (F.2.1.2.2 0, 200, .inl (fun _ => 0))), (q4, .inl (F.2.1.2.2 0, 200, .inl (fun _ => 0))), (q5, .inl (F.2.1.2.2 0, 240, .inl (fun _ => 0))), (q6, .inl (F.2.1.2.2 0, 20, .inl (fun _ => 0))), (q7, .inl (F.2.1.2.2 0, 12, .inl (fun _ => 0))), (q8, .inl (F.2.1.2.2 2, 400, .inl (fun _ => 0))), (q9, .inl (F.2.1.2.2 2, 400, .inl (fun _ => 0))), (q10, .inl (F.2.1.2.2 2, 40, .inl (fun _ => 0))), (q11, .inl (F.2.1.2.2 2, 40, .inl (fun _ => 0))), (q12, .inl (F.2.1.2.2 2, 40, .inl (fun _ => 0))), (q13, .inl (F.2.1.2.2 0, 20, .inl (fun _ => 0)))]) rfl ?_
  refine c_aload_n ok 0 d_Md_init_123 rfl rfl ?_
  refine c_bipush ok 20 d_Md_init_124 (by decide) ?_
  refine c_newI ok 20 rfl (Nat.le_of_ble_eq_true rfl) wz_arr_I (Nat.le_of_ble_eq_true rfl) (Nat.le_of_ble_eq_true rfl) d_Md_init_126 (fun q14 => ?_)
  refine c_putF ok 10 (TT := T_Md) (N := 75) (j := 22) (ty := .array .int) in_Md to_Md n_Md rfl (by decide) rfl wz_Md_steps rfl hini rfl rfl rfl rfl (Nat.le_of_ble_eq_true rfl) d_Md_init_128 ?_
  refine c_ws (ws' := (h0, .inr (10, [.ref q0, vI 0, .ref q1, .ref q2, .ref q3, vI 0, .ref q4, .ref q5, .ref q6, vI 0, vI 0, .ref q7, vI 0, vI 0, vI 0, vI 0, .ref q8, .ref q9, .ref q10, .ref q11, .ref q12, .ref q13, .ref q14, .null, .null, .null, .null, .null, .null, .null, .null, vI 0, .null, vI 0, .null, .null, .null, .null, vI 0, .null, .null, .null, .null, .null, .null, vI 0, vI 0, vI 0, vI 0, vI 0, .null, .null, .null, .null, vI 0, .null, .null, vI 0, .null, .null, .null, .null, .null, .null, .null, .null, .null, .null, .null, vI 0, vI 0, vI 0, .null, .null, .null])) :: [(q0, .inl (F.2.1.2.2 0, 100, .inl (fun _ => 0))), (q1, .inl (F.2.1.2.2 0, 200, .inl (fun _ => 0))), (q2, .inl (F.2.1.2.2 0, 200, .inl (fun _ => 0))), (q3, .inl (F.2.1.2.2 0, 200, .inl (fun _ => 0))), (q4, .inl (F.2.1.2.2 0, 200, .inl (fun _ => 0))), (q5, .inl (F.2.1.2.2 0, 240, .inl (fun _ => 0))), (q6, .inl (F.2.1.2.2 0, 20, .inl (fun _ => 0))), (q7, .inl (F.2.1.2.2 0, 12, .inl (fun _ => 0))), (q8, .inl (F.2.1.2.2 2, 400, .inl (fun _ => 0))), (q9, .inl (F.2.1.2.2 2, 400, .inl (fun _ => 0))), (q10, .inl (F.2.1.2.2 2, 40, .inl (fun _ => 0))), (q11, .inl (F.2.1.2.2 2, 40, .inl (fun _ => 0))), (q12, .inl (F.2.1.2.2 2, 40, .inl (fun _ => 0))), (q13, .inl (F.2.1.2.2 0, 20, .inl (fun _ => 0))), (q14, .inl (F.2.1.2.2 0, 20, .inl (fun _ => 0)))]) rfl ?_
  refine c_aload_n ok 0 d_Md_init_131 rfl rfl ?_
  refine c_bipush ok 20 d_Md_init_132 (by decide) ?_
  refine c_newI ok 20 rfl (Nat.le_of_ble_eq_true rfl) wz_arr_I (Nat.le_of_ble_eq_true rfl) (Nat.le_of_ble_eq_true rfl) d_Md_init_134 (fun q15 => ?_)
  refine c_putF ok 10 (TT := T_Md) (N := 75) (j := 23) (ty := .array .int) in_Md to_Md n_Md rfl (by decide) rfl wz_Md_way rfl hini rfl rfl rfl rfl (Nat.le_of_ble_eq_true rfl) d_Md_init_136 ?_
  refine c_ws (ws' := (h0, .inr (10, [.ref q0, vI 0, .ref q1, .ref q2, .ref q3, vI 0, .ref q4, .ref q5, .ref q6, vI 0, vI 0, .ref q7, vI 0, vI 0, vI 0, vI 0, .ref q8, .ref q9, .ref q10, .ref q11, .ref q12, .ref q13, .ref q14, .ref q15, .null, .null, .null, .null, .null, .null, .null, vI 0, .null, vI 0, .null, .null, .null, .null, vI 0, .null, .null, .null, .null, .null, .null, vI 0, vI 0, vI 0, vI 0, vI 0, .null, .null, .null, .null, vI 0, .null, .null, vI 0, .null, .null, .null, .null, .null, .null, .null, .null, .null, .null, .null, vI 0, vI 0, vI 0, .null, .null, .null])) :: [(q0, .inl (F.2.1.2.2 0, 100, .inl (fun _ => 0))), (q1, .inl (F.2.1.2.2 0, 200, .inl (fun _ => 0))), (q2, .inl (F.2.1.2.2 0, 200, .inl (fun _ => 0))), (q3, .inl (F.2.1.2.2 0, 200, .inl (fun _ => 0))), (q4, .inl (F.2.1.2.2 0, 200, .inl (fun _ => 0))), (q5, .inl (F.2.1.2.2 0, 240, .inl (fun _ => 0))), (q6, .inl (F.2.1.2.2 0, 20, .inl (fun _ => 0))), (q7, .inl (F.2.1.2.2 0, 12, .inl (fun _ => 0))), (q8, .inl (F.2.1.2.2 2, 400, .inl (fun _ => 0))), (q9, .inl (F.2.1.2.2 2, 400, .inl (fun _ => 0))), (q10, .inl (F.2.1.2.2 2, 40, .inl (fun _ => 0))), (q11, .inl (F.2.1.2.2 2, 40, .inl (fun _ => 0))), (q12, .inl (F.2.1.2.2 2, 40, .inl (fun _ => 0))), (q13, .inl (F.2.1.2.2 0, 20, .inl (fun _ => 0))), (q14, .inl (F.2.1.2.2 0, 20, .inl (fun _ => 0))), (q15, .inl (F.2.1.2.2 0, 20, .inl (fun _ => 0)))]) rfl ?_
  refine c_aload_n ok 0 d_Md_init_139 rfl rfl ?_
  refine c_bipush ok 40 d_Md_init_140 (by decide) ?_
  refine c_newI ok 40 rfl (Nat.le_of_ble_eq_true rfl) wz_arr_I (Nat.le_of_ble_eq_true rfl) (Nat.le_of_ble_eq_true rfl) d_Md_init_142 (fun q16 => ?_)
  refine c_putF ok 10 (TT := T_Md) (N := 75) (j := 24) (ty := .array .int) in_Md to_Md n_Md rfl (by decide) rfl wz_Md_witness rfl hini rfl rfl rfl rfl (Nat.le_of_ble_eq_true rfl) d_Md_init_144 ?_
  refine c_ws (ws' := (h0, .inr (10, [.ref q0, vI 0, .ref q1, .ref q2, .ref q3, vI 0, .ref q4, .ref q5, .ref q6, vI 0, vI 0, .ref q7, vI 0, vI 0, vI 0, vI 0, .ref q8, .ref q9, .ref q10, .ref q11, .ref q12, .ref q13, .ref q14, .ref q15, .ref q16, .null, .null, .null, .null, .null, .null, vI 0, .null, vI 0, .null, .null, .null, .null, vI 0, .null, .null, .null, .null, .null, .null, vI 0, vI 0, vI 0, vI 0, vI 0, .null, .null, .null, .null, vI 0, .null, .null, vI 0, .null, .null, .null, .null, .null, .null, .null, .null, .null, .null, .null, vI 0, vI 0, vI 0, .null, .null, .null])) :: [(q0, .inl (F.2.1.2.2 0, 100, .inl (fun _ => 0))), (q1, .inl (F.2.1.2.2 0, 200, .inl (fun _ => 0))), (q2, .inl (F.2.1.2.2 0, 200, .inl (fun _ => 0))), (q3, .inl (F.2.1.2.2 0, 200, .inl (fun _ => 0))), (q4, .inl (F.2.1.2.2 0, 200, .inl (fun _ => 0))), (q5, .inl (F.2.1.2.2 0, 240, .inl (fun _ => 0))), (q6, .inl (F.2.1.2.2 0, 20, .inl (fun _ => 0))), (q7, .inl (F.2.1.2.2 0, 12, .inl (fun _ => 0))), (q8, .inl (F.2.1.2.2 2, 400, .inl (fun _ => 0))), (q9, .inl (F.2.1.2.2 2, 400, .inl (fun _ => 0))), (q10, .inl (F.2.1.2.2 2, 40, .inl (fun _ => 0))), (q11, .inl (F.2.1.2.2 2, 40, .inl (fun _ => 0))), (q12, .inl (F.2.1.2.2 2, 40, .inl (fun _ => 0))), (q13, .inl (F.2.1.2.2 0, 20, .inl (fun _ => 0))), (q14, .inl (F.2.1.2.2 0, 20, .inl (fun _ => 0))), (q15, .inl (F.2.1.2.2 0, 20, .inl (fun _ => 0))), (q16, .inl (F.2.1.2.2 0, 40, .inl (fun _ => 0)))]) rfl ?_
  refine c_aload_n ok 0 d_Md_init_147 rfl rfl ?_
  refine c_bipush ok 40 d_Md_init_148 (by decide) ?_
  refine c_newI ok 40 rfl (Nat.le_of_ble_eq_true rfl) wz_arr_I (Nat.le_of_ble_eq_true rfl) (Nat.le_of_ble_eq_true rfl) d_Md_init_150 (fun q17 => ?_)
  refine c_putF ok 10 (TT := T_Md) (N := 75) (j := 25) (ty := .array .int) in_Md to_Md n_Md rfl (by decide) rfl wz_Md_ofName rfl hini rfl rfl rfl rfl (Nat.le_of_ble_eq_true rfl) d_Md_init_152 ?_
  refine c_ws (ws' := (h0, .inr (10, [.ref q0, vI 0, .ref q1, .ref q2, .ref q3, vI 0, .ref q4, .ref q5, .ref q6, vI 0, vI 0, .ref q7, vI 0, vI 0, vI 0, vI 0, .ref q8, .ref q9, .ref q10, .ref q11, .ref q12, .ref q13, .ref q14, .ref q15, .ref q16, .ref q17, .null, .null, .null, .null, .null, vI 0, .null, vI 0, .null, .null, .null, .null, vI 0, .null, .null, .null, .null, .null, .null, vI 0, vI 0, vI 0, vI 0, vI 0, .null, .null, .null, .null, vI 0, .null, .null, vI 0, .null, .null, .null, .null, .null, .null, .null, .null, .null, .null, .null, vI 0, vI 0, vI 0, .null, .null, .null])) :: [(q0, .inl (F.2.1.2.2 0, 100, .inl (fun _ => 0))), (q1, .inl (F.2.1.2.2 0, 200, .inl (fun _ => 0))), (q2, .inl (F.2.1.2.2 0, 200, .inl (fun _ => 0))), (q3, .inl (F.2.1.2.2 0, 200, .inl (fun _ => 0))), (q4, .inl (F.2.1.2.2 0, 200, .inl (fun _ => 0))), (q5, .inl (F.2.1.2.2 0, 240, .inl (fun _ => 0))), (q6, .inl (F.2.1.2.2 0, 20, .inl (fun _ => 0))), (q7, .inl (F.2.1.2.2 0, 12, .inl (fun _ => 0))), (q8, .inl (F.2.1.2.2 2, 400, .inl (fun _ => 0))), (q9, .inl (F.2.1.2.2 2, 400, .inl (fun _ => 0))), (q10, .inl (F.2.1.2.2 2, 40, .inl (fun _ => 0))), (q11, .inl (F.2.1.2.2 2, 40, .inl (fun _ => 0))), (q12, .inl (F.2.1.2.2 2, 40, .inl (fun _ => 0))), (q13, .inl (F.2.1.2.2 0, 20, .inl (fun _ => 0))), (q14, .inl (F.2.1.2.2 0, 20, .inl (fun _ => 0))), (q15, .inl (F.2.1.2.2 0, 20, .inl (fun _ => 0))), (q16, .inl (F.2.1.2.2 0, 40, .inl (fun _ => 0))), (q17, .inl (F.2.1.2.2 0, 40, .inl (fun _ => 0)))]) rfl ?_
  refine c_aload_n ok 0 d_Md_init_155 rfl rfl ?_
  refine c_bipush ok 40 d_Md_init_156 (by decide) ?_
  refine c_newI ok 40 rfl (Nat.le_of_ble_eq_true rfl) wz_arr_I (Nat.le_of_ble_eq_true rfl) (Nat.le_of_ble_eq_true rfl) d_Md_init_158 (fun q18 => ?_)
  refine c_putF ok 10 (TT := T_Md) (N := 75) (j := 26) (ty := .array .int) in_Md to_Md n_Md rfl (by decide) rfl wz_Md_places rfl hini rfl rfl rfl rfl (Nat.le_of_ble_eq_true rfl) d_Md_init_160 ?_
  refine c_ws (ws' := (h0, .inr (10, [.ref q0, vI 0, .ref q1, .ref q2, .ref q3, vI 0, .ref q4, .ref q5, .ref q6, vI 0, vI 0, .ref q7, vI 0, vI 0, vI 0, vI 0, .ref q8, .ref q9, .ref q10, .ref q11, .ref q12, .ref q13, .ref q14, .ref q15, .ref q16, .ref q17, .ref q18, .null, .null, .null, .null, vI 0, .null, vI 0, .null, .null, .null, .null, vI 0, .null, .null, .null, .null, .null, .null, vI 0, vI 0, vI 0, vI 0, vI 0, .null, .null, .null, .null, vI 0, .null, .null, vI 0, .null, .null, .null, .null, .null, .null, .null, .null, .null, .null, .null, vI 0, vI 0, vI 0, .null, .null, .null])) :: [(q0, .inl (F.2.1.2.2 0, 100, .inl (fun _ => 0))), (q1, .inl (F.2.1.2.2 0, 200, .inl (fun _ => 0))), (q2, .inl (F.2.1.2.2 0, 200, .inl (fun _ => 0))), (q3, .inl (F.2.1.2.2 0, 200, .inl (fun _ => 0))), (q4, .inl (F.2.1.2.2 0, 200, .inl (fun _ => 0))), (q5, .inl (F.2.1.2.2 0, 240, .inl (fun _ => 0))), (q6, .inl (F.2.1.2.2 0, 20, .inl (fun _ => 0))), (q7, .inl (F.2.1.2.2 0, 12, .inl (fun _ => 0))), (q8, .inl (F.2.1.2.2 2, 400, .inl (fun _ => 0))), (q9, .inl (F.2.1.2.2 2, 400, .inl (fun _ => 0))), (q10, .inl (F.2.1.2.2 2, 40, .inl (fun _ => 0))), (q11, .inl (F.2.1.2.2 2, 40, .inl (fun _ => 0))), (q12, .inl (F.2.1.2.2 2, 40, .inl (fun _ => 0))), (q13, .inl (F.2.1.2.2 0, 20, .inl (fun _ => 0))), (q14, .inl (F.2.1.2.2 0, 20, .inl (fun _ => 0))), (q15, .inl (F.2.1.2.2 0, 20, .inl (fun _ => 0))), (q16, .inl (F.2.1.2.2 0, 40, .inl (fun _ => 0))), (q17, .inl (F.2.1.2.2 0, 40, .inl (fun _ => 0))), (q18, .inl (F.2.1.2.2 0, 40, .inl (fun _ => 0)))]) rfl ?_
  refine c_aload_n ok 0 d_Md_init_163 rfl rfl ?_
  refine c_bipush ok 40 d_Md_init_164 (by decide) ?_
  refine c_newI ok 40 rfl (Nat.le_of_ble_eq_true rfl) wz_arr_I (Nat.le_of_ble_eq_true rfl) (Nat.le_of_ble_eq_true rfl) d_Md_init_166 (fun q19 => ?_)
  refine c_putF ok 10 (TT := T_Md) (N := 75) (j := 27) (ty := .array .int) in_Md to_Md n_Md rfl (by decide) rfl wz_Md_first rfl hini rfl rfl rfl rfl (Nat.le_of_ble_eq_true rfl) d_Md_init_168 ?_
  refine c_ws (ws' := (h0, .inr (10, [.ref q0, vI 0, .ref q1, .ref q2, .ref q3, vI 0, .ref q4, .ref q5, .ref q6, vI 0, vI 0, .ref q7, vI 0, vI 0, vI 0, vI 0, .ref q8, .ref q9, .ref q10, .ref q11, .ref q12, .ref q13, .ref q14, .ref q15, .ref q16, .ref q17, .ref q18, .ref q19, .null, .null, .null, vI 0, .null, vI 0, .null, .null, .null, .null, vI 0, .null, .null, .null, .null, .null, .null, vI 0, vI 0, vI 0, vI 0, vI 0, .null, .null, .null, .null, vI 0, .null, .null, vI 0, .null, .null, .null, .null, .null, .null, .null, .null, .null, .null, .null, vI 0, vI 0, vI 0, .null, .null, .null])) :: [(q0, .inl (F.2.1.2.2 0, 100, .inl (fun _ => 0))), (q1, .inl (F.2.1.2.2 0, 200, .inl (fun _ => 0))), (q2, .inl (F.2.1.2.2 0, 200, .inl (fun _ => 0))), (q3, .inl (F.2.1.2.2 0, 200, .inl (fun _ => 0))), (q4, .inl (F.2.1.2.2 0, 200, .inl (fun _ => 0))), (q5, .inl (F.2.1.2.2 0, 240, .inl (fun _ => 0))), (q6, .inl (F.2.1.2.2 0, 20, .inl (fun _ => 0))), (q7, .inl (F.2.1.2.2 0, 12, .inl (fun _ => 0))), (q8, .inl (F.2.1.2.2 2, 400, .inl (fun _ => 0))), (q9, .inl (F.2.1.2.2 2, 400, .inl (fun _ => 0))), (q10, .inl (F.2.1.2.2 2, 40, .inl (fun _ => 0))), (q11, .inl (F.2.1.2.2 2, 40, .inl (fun _ => 0))), (q12, .inl (F.2.1.2.2 2, 40, .inl (fun _ => 0))), (q13, .inl (F.2.1.2.2 0, 20, .inl (fun _ => 0))), (q14, .inl (F.2.1.2.2 0, 20, .inl (fun _ => 0))), (q15, .inl (F.2.1.2.2 0, 20, .inl (fun _ => 0))), (q16, .inl (F.2.1.2.2 0, 40, .inl (fun _ => 0))), (q17, .inl (F.2.1.2.2 0, 40, .inl (fun _ => 0))), (q18, .inl (F.2.1.2.2 0, 40, .inl (fun _ => 0))), (q19, .inl (F.2.1.2.2 0, 40, .inl (fun _ => 0)))]) rfl ?_
  refine c_aload_n ok 0 d_Md_init_171 rfl rfl ?_
  refine c_bipush ok 40 d_Md_init_172 (by decide) ?_
  refine c_newI ok 40 rfl (Nat.le_of_ble_eq_true rfl) wz_arr_I (Nat.le_of_ble_eq_true rfl) (Nat.le_of_ble_eq_true rfl) d_Md_init_174 (fun q20 => ?_)
  refine c_putF ok 10 (TT := T_Md) (N := 75) (j := 28) (ty := .array .int) in_Md to_Md n_Md rfl (by decide) rfl wz_Md_last rfl hini rfl rfl rfl rfl (Nat.le_of_ble_eq_true rfl) d_Md_init_176 ?_
  refine c_ws (ws' := (h0, .inr (10, [.ref q0, vI 0, .ref q1, .ref q2, .ref q3, vI 0, .ref q4, .ref q5, .ref q6, vI 0, vI 0, .ref q7, vI 0, vI 0, vI 0, vI 0, .ref q8, .ref q9, .ref q10, .ref q11, .ref q12, .ref q13, .ref q14, .ref q15, .ref q16, .ref q17, .ref q18, .ref q19, .ref q20, .null, .null, vI 0, .null, vI 0, .null, .null, .null, .null, vI 0, .null, .null, .null, .null, .null, .null, vI 0, vI 0, vI 0, vI 0, vI 0, .null, .null, .null, .null, vI 0, .null, .null, vI 0, .null, .null, .null, .null, .null, .null, .null, .null, .null, .null, .null, vI 0, vI 0, vI 0, .null, .null, .null])) :: [(q0, .inl (F.2.1.2.2 0, 100, .inl (fun _ => 0))), (q1, .inl (F.2.1.2.2 0, 200, .inl (fun _ => 0))), (q2, .inl (F.2.1.2.2 0, 200, .inl (fun _ => 0))), (q3, .inl (F.2.1.2.2 0, 200, .inl (fun _ => 0))), (q4, .inl (F.2.1.2.2 0, 200, .inl (fun _ => 0))), (q5, .inl (F.2.1.2.2 0, 240, .inl (fun _ => 0))), (q6, .inl (F.2.1.2.2 0, 20, .inl (fun _ => 0))), (q7, .inl (F.2.1.2.2 0, 12, .inl (fun _ => 0))), (q8, .inl (F.2.1.2.2 2, 400, .inl (fun _ => 0))), (q9, .inl (F.2.1.2.2 2, 400, .inl (fun _ => 0))), (q10, .inl (F.2.1.2.2 2, 40, .inl (fun _ => 0))), (q11, .inl (F.2.1.2.2 2, 40, .inl (fun _ => 0))), (q12, .inl (F.2.1.2.2 2, 40, .inl (fun _ => 0))), (q13, .inl (F.2.1.2.2 0, 20, .inl (fun _ => 0))), (q14, .inl (F.2.1.2.2 0, 20, .inl (fun _ => 0))), (q15, .inl (F.2.1.2.2 0, 20, .inl (fun _ => 0))), (q16, .inl (F.2.1.2.2 0, 40, .inl (fun _ => 0))), (q17, .inl (F.2.1.2.2 0, 40, .inl (fun _ => 0))), (q18, .inl (F.2.1.2.2 0, 40, .inl (fun _ => 0))), (q19, .inl (F.2.1.2.2 0, 40, .inl (fun _ => 0))), (q20, .inl (F.2.1.2.2 0, 40, .inl (fun _ => 0)))]) rfl ?_
  refine c_aload_n ok 0 d_Md_init_179 rfl rfl ?_
  refine c_bipush ok 40 d_Md_init_180 (by decide) ?_
  refine c_newI ok 40 rfl (Nat.le_of_ble_eq_true rfl) wz_arr_I (Nat.le_of_ble_eq_true rfl) (Nat.le_of_ble_eq_true rfl) d_Md_init_182 (fun q21 => ?_)
  refine c_putF ok 10 (TT := T_Md) (N := 75) (j := 29) (ty := .array .int) in_Md to_Md n_Md rfl (by decide) rfl wz_Md_heardOf rfl hini rfl rfl rfl rfl (Nat.le_of_ble_eq_true rfl) d_Md_init_184 ?_
  refine c_ws (ws' := (h0, .inr (10, [.ref q0, vI 0, .ref q1, .ref q2, .ref q3, vI 0, .ref q4, .ref q5, .ref q6, vI 0, vI 0, .ref q7, vI 0, vI 0, vI 0, vI 0, .ref q8, .ref q9, .ref q10, .ref q11, .ref q12, .ref q13, .ref q14, .ref q15, .ref q16, .ref q17, .ref q18, .ref q19, .ref q20, .ref q21, .null, vI 0, .null, vI 0, .null, .null, .null, .null, vI 0, .null, .null, .null, .null, .null, .null, vI 0, vI 0, vI 0, vI 0, vI 0, .null, .null, .null, .null, vI 0, .null, .null, vI 0, .null, .null, .null, .null, .null, .null, .null, .null, .null, .null, .null, vI 0, vI 0, vI 0, .null, .null, .null])) :: [(q0, .inl (F.2.1.2.2 0, 100, .inl (fun _ => 0))), (q1, .inl (F.2.1.2.2 0, 200, .inl (fun _ => 0))), (q2, .inl (F.2.1.2.2 0, 200, .inl (fun _ => 0))), (q3, .inl (F.2.1.2.2 0, 200, .inl (fun _ => 0))), (q4, .inl (F.2.1.2.2 0, 200, .inl (fun _ => 0))), (q5, .inl (F.2.1.2.2 0, 240, .inl (fun _ => 0))), (q6, .inl (F.2.1.2.2 0, 20, .inl (fun _ => 0))), (q7, .inl (F.2.1.2.2 0, 12, .inl (fun _ => 0))), (q8, .inl (F.2.1.2.2 2, 400, .inl (fun _ => 0))), (q9, .inl (F.2.1.2.2 2, 400, .inl (fun _ => 0))), (q10, .inl (F.2.1.2.2 2, 40, .inl (fun _ => 0))), (q11, .inl (F.2.1.2.2 2, 40, .inl (fun _ => 0))), (q12, .inl (F.2.1.2.2 2, 40, .inl (fun _ => 0))), (q13, .inl (F.2.1.2.2 0, 20, .inl (fun _ => 0))), (q14, .inl (F.2.1.2.2 0, 20, .inl (fun _ => 0))), (q15, .inl (F.2.1.2.2 0, 20, .inl (fun _ => 0))), (q16, .inl (F.2.1.2.2 0, 40, .inl (fun _ => 0))), (q17, .inl (F.2.1.2.2 0, 40, .inl (fun _ => 0))), (q18, .inl (F.2.1.2.2 0, 40, .inl (fun _ => 0))), (q19, .inl (F.2.1.2.2 0, 40, .inl (fun _ => 0))), (q20, .inl (F.2.1.2.2 0, 40, .inl (fun _ => 0))), (q21, .inl (F.2.1.2.2 0, 40, .inl (fun _ => 0)))]) rfl ?_
  refine c_aload_n ok 0 d_Md_init_187 rfl rfl ?_
  refine c_bipush ok 40 d_Md_init_188 (by decide) ?_
  refine c_newI ok 40 rfl (Nat.le_of_ble_eq_true rfl) wz_arr_I (Nat.le_of_ble_eq_true rfl) (Nat.le_of_ble_eq_true rfl) d_Md_init_190 (fun q22 => ?_)
  refine c_putF ok 10 (TT := T_Md) (N := 75) (j := 30) (ty := .array .int) in_Md to_Md n_Md rfl (by decide) rfl wz_Md_rootOf rfl hini rfl rfl rfl rfl (Nat.le_of_ble_eq_true rfl) d_Md_init_192 ?_
  refine c_ws (ws' := (h0, .inr (10, [.ref q0, vI 0, .ref q1, .ref q2, .ref q3, vI 0, .ref q4, .ref q5, .ref q6, vI 0, vI 0, .ref q7, vI 0, vI 0, vI 0, vI 0, .ref q8, .ref q9, .ref q10, .ref q11, .ref q12, .ref q13, .ref q14, .ref q15, .ref q16, .ref q17, .ref q18, .ref q19, .ref q20, .ref q21, .ref q22, vI 0, .null, vI 0, .null, .null, .null, .null, vI 0, .null, .null, .null, .null, .null, .null, vI 0, vI 0, vI 0, vI 0, vI 0, .null, .null, .null, .null, vI 0, .null, .null, vI 0, .null, .null, .null, .null, .null, .null, .null, .null, .null, .null, .null, vI 0, vI 0, vI 0, .null, .null, .null])) :: [(q0, .inl (F.2.1.2.2 0, 100, .inl (fun _ => 0))), (q1, .inl (F.2.1.2.2 0, 200, .inl (fun _ => 0))), (q2, .inl (F.2.1.2.2 0, 200, .inl (fun _ => 0))), (q3, .inl (F.2.1.2.2 0, 200, .inl (fun _ => 0))), (q4, .inl (F.2.1.2.2 0, 200, .inl (fun _ => 0))), (q5, .inl (F.2.1.2.2 0, 240, .inl (fun _ => 0))), (q6, .inl (F.2.1.2.2 0, 20, .inl (fun _ => 0))), (q7, .inl (F.2.1.2.2 0, 12, .inl (fun _ => 0))), (q8, .inl (F.2.1.2.2 2, 400, .inl (fun _ => 0))), (q9, .inl (F.2.1.2.2 2, 400, .inl (fun _ => 0))), (q10, .inl (F.2.1.2.2 2, 40, .inl (fun _ => 0))), (q11, .inl (F.2.1.2.2 2, 40, .inl (fun _ => 0))), (q12, .inl (F.2.1.2.2 2, 40, .inl (fun _ => 0))), (q13, .inl (F.2.1.2.2 0, 20, .inl (fun _ => 0))), (q14, .inl (F.2.1.2.2 0, 20, .inl (fun _ => 0))), (q15, .inl (F.2.1.2.2 0, 20, .inl (fun _ => 0))), (q16, .inl (F.2.1.2.2 0, 40, .inl (fun _ => 0))), (q17, .inl (F.2.1.2.2 0, 40, .inl (fun _ => 0))), (q18, .inl (F.2.1.2.2 0, 40, .inl (fun _ => 0))), (q19, .inl (F.2.1.2.2 0, 40, .inl (fun _ => 0))), (q20, .inl (F.2.1.2.2 0, 40, .inl (fun _ => 0))), (q21, .inl (F.2.1.2.2 0, 40, .inl (fun _ => 0))), (q22, .inl (F.2.1.2.2 0, 40, .inl (fun _ => 0)))]) rfl ?_
  refine c_aload_n ok 0 d_Md_init_195 rfl rfl ?_
  refine c_bipush ok 40 d_Md_init_196 (by decide) ?_
  refine c_newI ok 40 rfl (Nat.le_of_ble_eq_true rfl) wz_arr_I (Nat.le_of_ble_eq_true rfl) (Nat.le_of_ble_eq_true rfl) d_Md_init_198 (fun q23 => ?_)
  refine c_putF ok 10 (TT := T_Md) (N := 75) (j := 32) (ty := .array .int) in_Md to_Md n_Md rfl (by decide) rfl wz_Md_root rfl hini rfl rfl rfl rfl (Nat.le_of_ble_eq_true rfl) d_Md_init_200 ?_
  refine c_ws (ws' := (h0, .inr (10, [.ref q0, vI 0, .ref q1, .ref q2, .ref q3, vI 0, .ref q4, .ref q5, .ref q6, vI 0, vI 0, .ref q7, vI 0, vI 0, vI 0, vI 0, .ref q8, .ref q9, .ref q10, .ref q11, .ref q12, .ref q13, .ref q14, .ref q15, .ref q16, .ref q17, .ref q18, .ref q19, .ref q20, .ref q21, .ref q22, vI 0, .ref q23, vI 0, .null, .null, .null, .null, vI 0, .null, .null, .null, .null, .null, .null, vI 0, vI 0, vI 0, vI 0, vI 0, .null, .null, .null, .null, vI 0, .null, .null, vI 0, .null, .null, .null, .null, .null, .null, .null, .null, .null, .null, .null, vI 0, vI 0, vI 0, .null, .null, .null])) :: [(q0, .inl (F.2.1.2.2 0, 100, .inl (fun _ => 0))), (q1, .inl (F.2.1.2.2 0, 200, .inl (fun _ => 0))), (q2, .inl (F.2.1.2.2 0, 200, .inl (fun _ => 0))), (q3, .inl (F.2.1.2.2 0, 200, .inl (fun _ => 0))), (q4, .inl (F.2.1.2.2 0, 200, .inl (fun _ => 0))), (q5, .inl (F.2.1.2.2 0, 240, .inl (fun _ => 0))), (q6, .inl (F.2.1.2.2 0, 20, .inl (fun _ => 0))), (q7, .inl (F.2.1.2.2 0, 12, .inl (fun _ => 0))), (q8, .inl (F.2.1.2.2 2, 400, .inl (fun _ => 0))), (q9, .inl (F.2.1.2.2 2, 400, .inl (fun _ => 0))), (q10, .inl (F.2.1.2.2 2, 40, .inl (fun _ => 0))), (q11, .inl (F.2.1.2.2 2, 40, .inl (fun _ => 0))), (q12, .inl (F.2.1.2.2 2, 40, .inl (fun _ => 0))), (q13, .inl (F.2.1.2.2 0, 20, .inl (fun _ => 0))), (q14, .inl (F.2.1.2.2 0, 20, .inl (fun _ => 0))), (q15, .inl (F.2.1.2.2 0, 20, .inl (fun _ => 0))), (q16, .inl (F.2.1.2.2 0, 40, .inl (fun _ => 0))), (q17, .inl (F.2.1.2.2 0, 40, .inl (fun _ => 0))), (q18, .inl (F.2.1.2.2 0, 40, .inl (fun _ => 0))), (q19, .inl (F.2.1.2.2 0, 40, .inl (fun _ => 0))), (q20, .inl (F.2.1.2.2 0, 40, .inl (fun _ => 0))), (q21, .inl (F.2.1.2.2 0, 40, .inl (fun _ => 0))), (q22, .inl (F.2.1.2.2 0, 40, .inl (fun _ => 0))), (q23, .inl (F.2.1.2.2 0, 40, .inl (fun _ => 0)))]) rfl ?_
  refine c_aload_n ok 0 d_Md_init_203 rfl rfl ?_
  refine c_ldc ok 46080 wk_Md_83 d_Md_init_204 (by decide) ?_
  refine c_newI ok 46080 rfl (Nat.le_of_ble_eq_true rfl) wz_arr_I (Nat.le_of_ble_eq_true rfl) (Nat.le_of_ble_eq_true rfl) d_Md_init_206 (fun q24 => ?_)
  refine c_putF ok 10 (TT := T_Md) (N := 75) (j := 34) (ty := .array .int) in_Md to_Md n_Md rfl (by decide) rfl wz_Md_earliest rfl hini rfl rfl rfl rfl (Nat.le_of_ble_eq_true rfl) d_Md_init_208 ?_
  refine c_ws (ws' := (h0, .inr (10, [.ref q0, vI 0, .ref q1, .ref q2, .ref q3, vI 0, .ref q4, .ref q5, .ref q6, vI 0, vI 0, .ref q7, vI 0, vI 0, vI 0, vI 0, .ref q8, .ref q9, .ref q10, .ref q11, .ref q12, .ref q13, .ref q14, .ref q15, .ref q16, .ref q17, .ref q18, .ref q19, .ref q20, .ref q21, .ref q22, vI 0, .ref q23, vI 0, .ref q24, .null, .null, .null, vI 0, .null, .null, .null, .null, .null, .null, vI 0, vI 0, vI 0, vI 0, vI 0, .null, .null, .null, .null, vI 0, .null, .null, vI 0, .null, .null, .null, .null, .null, .null, .null, .null, .null, .null, .null, vI 0, vI 0, vI 0, .null, .null, .null])) :: [(q0, .inl (F.2.1.2.2 0, 100, .inl (fun _ => 0))), (q1, .inl (F.2.1.2.2 0, 200, .inl (fun _ => 0))), (q2, .inl (F.2.1.2.2 0, 200, .inl (fun _ => 0))), (q3, .inl (F.2.1.2.2 0, 200, .inl (fun _ => 0))), (q4, .inl (F.2.1.2.2 0, 200, .inl (fun _ => 0))), (q5, .inl (F.2.1.2.2 0, 240, .inl (fun _ => 0))), (q6, .inl (F.2.1.2.2 0, 20, .inl (fun _ => 0))), (q7, .inl (F.2.1.2.2 0, 12, .inl (fun _ => 0))), (q8, .inl (F.2.1.2.2 2, 400, .inl (fun _ => 0))), (q9, .inl (F.2.1.2.2 2, 400, .inl (fun _ => 0))), (q10, .inl (F.2.1.2.2 2, 40, .inl (fun _ => 0))), (q11, .inl (F.2.1.2.2 2, 40, .inl (fun _ => 0))), (q12, .inl (F.2.1.2.2 2, 40, .inl (fun _ => 0))), (q13, .inl (F.2.1.2.2 0, 20, .inl (fun _ => 0))), (q14, .inl (F.2.1.2.2 0, 20, .inl (fun _ => 0))), (q15, .inl (F.2.1.2.2 0, 20, .inl (fun _ => 0))), (q16, .inl (F.2.1.2.2 0, 40, .inl (fun _ => 0))), (q17, .inl (F.2.1.2.2 0, 40, .inl (fun _ => 0))), (q18, .inl (F.2.1.2.2 0, 40, .inl (fun _ => 0))), (q19, .inl (F.2.1.2.2 0, 40, .inl (fun _ => 0))), (q20, .inl (F.2.1.2.2 0, 40, .inl (fun _ => 0))), (q21, .inl (F.2.1.2.2 0, 40, .inl (fun _ => 0))), (q22, .inl (F.2.1.2.2 0, 40, .inl (fun _ => 0))), (q23, .inl (F.2.1.2.2 0, 40, .inl (fun _ => 0))), (q24, .inl (F.2.1.2.2 0, 46080, .inl (fun _ => 0)))]) rfl ?_
  refine c_aload_n ok 0 d_Md_init_211 rfl rfl ?_
  refine c_bipush ok 9 d_Md_init_212 (by decide) ?_
  refine c_newI ok 9 rfl (Nat.le_of_ble_eq_true rfl) wz_arr_I (Nat.le_of_ble_eq_true rfl) (Nat.le_of_ble_eq_true rfl) d_Md_init_214 (fun q25 => ?_)
  refine c_putF ok 10 (TT := T_Md) (N := 75) (j := 35) (ty := .array .int) in_Md to_Md n_Md rfl (by decide) rfl wz_Md_itemPlaces rfl hini rfl rfl rfl rfl (Nat.le_of_ble_eq_true rfl) d_Md_init_216 ?_
  refine c_ws (ws' := (h0, .inr (10, [.ref q0, vI 0, .ref q1, .ref q2, .ref q3, vI 0, .ref q4, .ref q5, .ref q6, vI 0, vI 0, .ref q7, vI 0, vI 0, vI 0, vI 0, .ref q8, .ref q9, .ref q10, .ref q11, .ref q12, .ref q13, .ref q14, .ref q15, .ref q16, .ref q17, .ref q18, .ref q19, .ref q20, .ref q21, .ref q22, vI 0, .ref q23, vI 0, .ref q24, .ref q25, .null, .null, vI 0, .null, .null, .null, .null, .null, .null, vI 0, vI 0, vI 0, vI 0, vI 0, .null, .null, .null, .null, vI 0, .null, .null, vI 0, .null, .null, .null, .null, .null, .null, .null, .null, .null, .null, .null, vI 0, vI 0, vI 0, .null, .null, .null])) :: [(q0, .inl (F.2.1.2.2 0, 100, .inl (fun _ => 0))), (q1, .inl (F.2.1.2.2 0, 200, .inl (fun _ => 0))), (q2, .inl (F.2.1.2.2 0, 200, .inl (fun _ => 0))), (q3, .inl (F.2.1.2.2 0, 200, .inl (fun _ => 0))), (q4, .inl (F.2.1.2.2 0, 200, .inl (fun _ => 0))), (q5, .inl (F.2.1.2.2 0, 240, .inl (fun _ => 0))), (q6, .inl (F.2.1.2.2 0, 20, .inl (fun _ => 0))), (q7, .inl (F.2.1.2.2 0, 12, .inl (fun _ => 0))), (q8, .inl (F.2.1.2.2 2, 400, .inl (fun _ => 0))), (q9, .inl (F.2.1.2.2 2, 400, .inl (fun _ => 0))), (q10, .inl (F.2.1.2.2 2, 40, .inl (fun _ => 0))), (q11, .inl (F.2.1.2.2 2, 40, .inl (fun _ => 0))), (q12, .inl (F.2.1.2.2 2, 40, .inl (fun _ => 0))), (q13, .inl (F.2.1.2.2 0, 20, .inl (fun _ => 0))), (q14, .inl (F.2.1.2.2 0, 20, .inl (fun _ => 0))), (q15, .inl (F.2.1.2.2 0, 20, .inl (fun _ => 0))), (q16, .inl (F.2.1.2.2 0, 40, .inl (fun _ => 0))), (q17, .inl (F.2.1.2.2 0, 40, .inl (fun _ => 0))), (q18, .inl (F.2.1.2.2 0, 40, .inl (fun _ => 0))), (q19, .inl (F.2.1.2.2 0, 40, .inl (fun _ => 0))), (q20, .inl (F.2.1.2.2 0, 40, .inl (fun _ => 0))), (q21, .inl (F.2.1.2.2 0, 40, .inl (fun _ => 0))), (q22, .inl (F.2.1.2.2 0, 40, .inl (fun _ => 0))), (q23, .inl (F.2.1.2.2 0, 40, .inl (fun _ => 0))), (q24, .inl (F.2.1.2.2 0, 46080, .inl (fun _ => 0))), (q25, .inl (F.2.1.2.2 0, 9, .inl (fun _ => 0)))]) rfl ?_
  refine c_aload_n ok 0 d_Md_init_219 rfl rfl ?_
  refine c_bipush ok 9 d_Md_init_220 (by decide) ?_
  refine c_newI ok 9 rfl (Nat.le_of_ble_eq_true rfl) wz_arr_I (Nat.le_of_ble_eq_true rfl) (Nat.le_of_ble_eq_true rfl) d_Md_init_222 (fun q26 => ?_)
  refine c_putF ok 10 (TT := T_Md) (N := 75) (j := 36) (ty := .array .int) in_Md to_Md n_Md rfl (by decide) rfl wz_Md_itemFirst rfl hini rfl rfl rfl rfl (Nat.le_of_ble_eq_true rfl) d_Md_init_224 ?_
  refine c_ws (ws' := (h0, .inr (10, [.ref q0, vI 0, .ref q1, .ref q2, .ref q3, vI 0, .ref q4, .ref q5, .ref q6, vI 0, vI 0, .ref q7, vI 0, vI 0, vI 0, vI 0, .ref q8, .ref q9, .ref q10, .ref q11, .ref q12, .ref q13, .ref q14, .ref q15, .ref q16, .ref q17, .ref q18, .ref q19, .ref q20, .ref q21, .ref q22, vI 0, .ref q23, vI 0, .ref q24, .ref q25, .ref q26, .null, vI 0, .null, .null, .null, .null, .null, .null, vI 0, vI 0, vI 0, vI 0, vI 0, .null, .null, .null, .null, vI 0, .null, .null, vI 0, .null, .null, .null, .null, .null, .null, .null, .null, .null, .null, .null, vI 0, vI 0, vI 0, .null, .null, .null])) :: [(q0, .inl (F.2.1.2.2 0, 100, .inl (fun _ => 0))), (q1, .inl (F.2.1.2.2 0, 200, .inl (fun _ => 0))), (q2, .inl (F.2.1.2.2 0, 200, .inl (fun _ => 0))), (q3, .inl (F.2.1.2.2 0, 200, .inl (fun _ => 0))), (q4, .inl (F.2.1.2.2 0, 200, .inl (fun _ => 0))), (q5, .inl (F.2.1.2.2 0, 240, .inl (fun _ => 0))), (q6, .inl (F.2.1.2.2 0, 20, .inl (fun _ => 0))), (q7, .inl (F.2.1.2.2 0, 12, .inl (fun _ => 0))), (q8, .inl (F.2.1.2.2 2, 400, .inl (fun _ => 0))), (q9, .inl (F.2.1.2.2 2, 400, .inl (fun _ => 0))), (q10, .inl (F.2.1.2.2 2, 40, .inl (fun _ => 0))), (q11, .inl (F.2.1.2.2 2, 40, .inl (fun _ => 0))), (q12, .inl (F.2.1.2.2 2, 40, .inl (fun _ => 0))), (q13, .inl (F.2.1.2.2 0, 20, .inl (fun _ => 0))), (q14, .inl (F.2.1.2.2 0, 20, .inl (fun _ => 0))), (q15, .inl (F.2.1.2.2 0, 20, .inl (fun _ => 0))), (q16, .inl (F.2.1.2.2 0, 40, .inl (fun _ => 0))), (q17, .inl (F.2.1.2.2 0, 40, .inl (fun _ => 0))), (q18, .inl (F.2.1.2.2 0, 40, .inl (fun _ => 0))), (q19, .inl (F.2.1.2.2 0, 40, .inl (fun _ => 0))), (q20, .inl (F.2.1.2.2 0, 40, .inl (fun _ => 0))), (q21, .inl (F.2.1.2.2 0, 40, .inl (fun _ => 0))), (q22, .inl (F.2.1.2.2 0, 40, .inl (fun _ => 0))), (q23, .inl (F.2.1.2.2 0, 40, .inl (fun _ => 0))), (q24, .inl (F.2.1.2.2 0, 46080, .inl (fun _ => 0))), (q25, .inl (F.2.1.2.2 0, 9, .inl (fun _ => 0))), (q26, .inl (F.2.1.2.2 0, 9, .inl (fun _ => 0)))]) rfl ?_
  refine c_aload_n ok 0 d_Md_init_227 rfl rfl ?_
  refine c_bipush ok 9 d_Md_init_228 (by decide) ?_
  refine c_newI ok 9 rfl (Nat.le_of_ble_eq_true rfl) wz_arr_I (Nat.le_of_ble_eq_true rfl) (Nat.le_of_ble_eq_true rfl) d_Md_init_230 (fun q27 => ?_)
  refine c_putF ok 10 (TT := T_Md) (N := 75) (j := 37) (ty := .array .int) in_Md to_Md n_Md rfl (by decide) rfl wz_Md_itemLast rfl hini rfl rfl rfl rfl (Nat.le_of_ble_eq_true rfl) d_Md_init_232 ?_
  refine c_ws (ws' := (h0, .inr (10, [.ref q0, vI 0, .ref q1, .ref q2, .ref q3, vI 0, .ref q4, .ref q5, .ref q6, vI 0, vI 0, .ref q7, vI 0, vI 0, vI 0, vI 0, .ref q8, .ref q9, .ref q10, .ref q11, .ref q12, .ref q13, .ref q14, .ref q15, .ref q16, .ref q17, .ref q18, .ref q19, .ref q20, .ref q21, .ref q22, vI 0, .ref q23, vI 0, .ref q24, .ref q25, .ref q26, .ref q27, vI 0, .null, .null, .null, .null, .null, .null, vI 0, vI 0, vI 0, vI 0, vI 0, .null, .null, .null, .null, vI 0, .null, .null, vI 0, .null, .null, .null, .null, .null, .null, .null, .null, .null, .null, .null, vI 0, vI 0, vI 0, .null, .null, .null])) :: [(q0, .inl (F.2.1.2.2 0, 100, .inl (fun _ => 0))), (q1, .inl (F.2.1.2.2 0, 200, .inl (fun _ => 0))), (q2, .inl (F.2.1.2.2 0, 200, .inl (fun _ => 0))), (q3, .inl (F.2.1.2.2 0, 200, .inl (fun _ => 0))), (q4, .inl (F.2.1.2.2 0, 200, .inl (fun _ => 0))), (q5, .inl (F.2.1.2.2 0, 240, .inl (fun _ => 0))), (q6, .inl (F.2.1.2.2 0, 20, .inl (fun _ => 0))), (q7, .inl (F.2.1.2.2 0, 12, .inl (fun _ => 0))), (q8, .inl (F.2.1.2.2 2, 400, .inl (fun _ => 0))), (q9, .inl (F.2.1.2.2 2, 400, .inl (fun _ => 0))), (q10, .inl (F.2.1.2.2 2, 40, .inl (fun _ => 0))), (q11, .inl (F.2.1.2.2 2, 40, .inl (fun _ => 0))), (q12, .inl (F.2.1.2.2 2, 40, .inl (fun _ => 0))), (q13, .inl (F.2.1.2.2 0, 20, .inl (fun _ => 0))), (q14, .inl (F.2.1.2.2 0, 20, .inl (fun _ => 0))), (q15, .inl (F.2.1.2.2 0, 20, .inl (fun _ => 0))), (q16, .inl (F.2.1.2.2 0, 40, .inl (fun _ => 0))), (q17, .inl (F.2.1.2.2 0, 40, .inl (fun _ => 0))), (q18, .inl (F.2.1.2.2 0, 40, .inl (fun _ => 0))), (q19, .inl (F.2.1.2.2 0, 40, .inl (fun _ => 0))), (q20, .inl (F.2.1.2.2 0, 40, .inl (fun _ => 0))), (q21, .inl (F.2.1.2.2 0, 40, .inl (fun _ => 0))), (q22, .inl (F.2.1.2.2 0, 40, .inl (fun _ => 0))), (q23, .inl (F.2.1.2.2 0, 40, .inl (fun _ => 0))), (q24, .inl (F.2.1.2.2 0, 46080, .inl (fun _ => 0))), (q25, .inl (F.2.1.2.2 0, 9, .inl (fun _ => 0))), (q26, .inl (F.2.1.2.2 0, 9, .inl (fun _ => 0))), (q27, .inl (F.2.1.2.2 0, 9, .inl (fun _ => 0)))]) rfl ?_
  refine c_aload_n ok 0 d_Md_init_235 rfl rfl ?_
  refine c_sipush ok 12000 d_Md_init_236 (by decide) ?_
  refine c_newI ok 12000 rfl (Nat.le_of_ble_eq_true rfl) wz_arr_I (Nat.le_of_ble_eq_true rfl) (Nat.le_of_ble_eq_true rfl) d_Md_init_239 (fun q28 => ?_)
  refine c_putF ok 10 (TT := T_Md) (N := 75) (j := 39) (ty := .array .int) in_Md to_Md n_Md rfl (by decide) rfl wz_Md_code rfl hini rfl rfl rfl rfl (Nat.le_of_ble_eq_true rfl) d_Md_init_241 ?_
  refine c_ws (ws' := (h0, .inr (10, [.ref q0, vI 0, .ref q1, .ref q2, .ref q3, vI 0, .ref q4, .ref q5, .ref q6, vI 0, vI 0, .ref q7, vI 0, vI 0, vI 0, vI 0, .ref q8, .ref q9, .ref q10, .ref q11, .ref q12, .ref q13, .ref q14, .ref q15, .ref q16, .ref q17, .ref q18, .ref q19, .ref q20, .ref q21, .ref q22, vI 0, .ref q23, vI 0, .ref q24, .ref q25, .ref q26, .ref q27, vI 0, .ref q28, .null, .null, .null, .null, .null, vI 0, vI 0, vI 0, vI 0, vI 0, .null, .null, .null, .null, vI 0, .null, .null, vI 0, .null, .null, .null, .null, .null, .null, .null, .null, .null, .null, .null, vI 0, vI 0, vI 0, .null, .null, .null])) :: [(q0, .inl (F.2.1.2.2 0, 100, .inl (fun _ => 0))), (q1, .inl (F.2.1.2.2 0, 200, .inl (fun _ => 0))), (q2, .inl (F.2.1.2.2 0, 200, .inl (fun _ => 0))), (q3, .inl (F.2.1.2.2 0, 200, .inl (fun _ => 0))), (q4, .inl (F.2.1.2.2 0, 200, .inl (fun _ => 0))), (q5, .inl (F.2.1.2.2 0, 240, .inl (fun _ => 0))), (q6, .inl (F.2.1.2.2 0, 20, .inl (fun _ => 0))), (q7, .inl (F.2.1.2.2 0, 12, .inl (fun _ => 0))), (q8, .inl (F.2.1.2.2 2, 400, .inl (fun _ => 0))), (q9, .inl (F.2.1.2.2 2, 400, .inl (fun _ => 0))), (q10, .inl (F.2.1.2.2 2, 40, .inl (fun _ => 0))), (q11, .inl (F.2.1.2.2 2, 40, .inl (fun _ => 0))), (q12, .inl (F.2.1.2.2 2, 40, .inl (fun _ => 0))), (q13, .inl (F.2.1.2.2 0, 20, .inl (fun _ => 0))), (q14, .inl (F.2.1.2.2 0, 20, .inl (fun _ => 0))), (q15, .inl (F.2.1.2.2 0, 20, .inl (fun _ => 0))), (q16, .inl (F.2.1.2.2 0, 40, .inl (fun _ => 0))), (q17, .inl (F.2.1.2.2 0, 40, .inl (fun _ => 0))), (q18, .inl (F.2.1.2.2 0, 40, .inl (fun _ => 0))), (q19, .inl (F.2.1.2.2 0, 40, .inl (fun _ => 0))), (q20, .inl (F.2.1.2.2 0, 40, .inl (fun _ => 0))), (q21, .inl (F.2.1.2.2 0, 40, .inl (fun _ => 0))), (q22, .inl (F.2.1.2.2 0, 40, .inl (fun _ => 0))), (q23, .inl (F.2.1.2.2 0, 40, .inl (fun _ => 0))), (q24, .inl (F.2.1.2.2 0, 46080, .inl (fun _ => 0))), (q25, .inl (F.2.1.2.2 0, 9, .inl (fun _ => 0))), (q26, .inl (F.2.1.2.2 0, 9, .inl (fun _ => 0))), (q27, .inl (F.2.1.2.2 0, 9, .inl (fun _ => 0))), (q28, .inl (F.2.1.2.2 0, 12000, .inl (fun _ => 0)))]) rfl ?_
  refine c_aload_n ok 0 d_Md_init_244 rfl rfl ?_
  refine c_sipush ok 160 d_Md_init_245 (by decide) ?_
  refine c_newI ok 160 rfl (Nat.le_of_ble_eq_true rfl) wz_arr_I (Nat.le_of_ble_eq_true rfl) (Nat.le_of_ble_eq_true rfl) d_Md_init_248 (fun q29 => ?_)
  refine c_putF ok 10 (TT := T_Md) (N := 75) (j := 40) (ty := .array .int) in_Md to_Md n_Md rfl (by decide) rfl wz_Md_clauseEnd rfl hini rfl rfl rfl rfl (Nat.le_of_ble_eq_true rfl) d_Md_init_250 ?_
  refine c_ws (ws' := (h0, .inr (10, [.ref q0, vI 0, .ref q1, .ref q2, .ref q3, vI 0, .ref q4, .ref q5, .ref q6, vI 0, vI 0, .ref q7, vI 0, vI 0, vI 0, vI 0, .ref q8, .ref q9, .ref q10, .ref q11, .ref q12, .ref q13, .ref q14, .ref q15, .ref q16, .ref q17, .ref q18, .ref q19, .ref q20, .ref q21, .ref q22, vI 0, .ref q23, vI 0, .ref q24, .ref q25, .ref q26, .ref q27, vI 0, .ref q28, .ref q29, .null, .null, .null, .null, vI 0, vI 0, vI 0, vI 0, vI 0, .null, .null, .null, .null, vI 0, .null, .null, vI 0, .null, .null, .null, .null, .null, .null, .null, .null, .null, .null, .null, vI 0, vI 0, vI 0, .null, .null, .null])) :: [(q0, .inl (F.2.1.2.2 0, 100, .inl (fun _ => 0))), (q1, .inl (F.2.1.2.2 0, 200, .inl (fun _ => 0))), (q2, .inl (F.2.1.2.2 0, 200, .inl (fun _ => 0))), (q3, .inl (F.2.1.2.2 0, 200, .inl (fun _ => 0))), (q4, .inl (F.2.1.2.2 0, 200, .inl (fun _ => 0))), (q5, .inl (F.2.1.2.2 0, 240, .inl (fun _ => 0))), (q6, .inl (F.2.1.2.2 0, 20, .inl (fun _ => 0))), (q7, .inl (F.2.1.2.2 0, 12, .inl (fun _ => 0))), (q8, .inl (F.2.1.2.2 2, 400, .inl (fun _ => 0))), (q9, .inl (F.2.1.2.2 2, 400, .inl (fun _ => 0))), (q10, .inl (F.2.1.2.2 2, 40, .inl (fun _ => 0))), (q11, .inl (F.2.1.2.2 2, 40, .inl (fun _ => 0))), (q12, .inl (F.2.1.2.2 2, 40, .inl (fun _ => 0))), (q13, .inl (F.2.1.2.2 0, 20, .inl (fun _ => 0))), (q14, .inl (F.2.1.2.2 0, 20, .inl (fun _ => 0))), (q15, .inl (F.2.1.2.2 0, 20, .inl (fun _ => 0))), (q16, .inl (F.2.1.2.2 0, 40, .inl (fun _ => 0))), (q17, .inl (F.2.1.2.2 0, 40, .inl (fun _ => 0))), (q18, .inl (F.2.1.2.2 0, 40, .inl (fun _ => 0))), (q19, .inl (F.2.1.2.2 0, 40, .inl (fun _ => 0))), (q20, .inl (F.2.1.2.2 0, 40, .inl (fun _ => 0))), (q21, .inl (F.2.1.2.2 0, 40, .inl (fun _ => 0))), (q22, .inl (F.2.1.2.2 0, 40, .inl (fun _ => 0))), (q23, .inl (F.2.1.2.2 0, 40, .inl (fun _ => 0))), (q24, .inl (F.2.1.2.2 0, 46080, .inl (fun _ => 0))), (q25, .inl (F.2.1.2.2 0, 9, .inl (fun _ => 0))), (q26, .inl (F.2.1.2.2 0, 9, .inl (fun _ => 0))), (q27, .inl (F.2.1.2.2 0, 9, .inl (fun _ => 0))), (q28, .inl (F.2.1.2.2 0, 12000, .inl (fun _ => 0))), (q29, .inl (F.2.1.2.2 0, 160, .inl (fun _ => 0)))]) rfl ?_
  refine c_aload_n ok 0 d_Md_init_253 rfl rfl ?_
  refine c_sipush ok 160 d_Md_init_254 (by decide) ?_
  refine c_newI ok 160 rfl (Nat.le_of_ble_eq_true rfl) wz_arr_I (Nat.le_of_ble_eq_true rfl) (Nat.le_of_ble_eq_true rfl) d_Md_init_257 (fun q30 => ?_)
  refine c_putF ok 10 (TT := T_Md) (N := 75) (j := 41) (ty := .array .int) in_Md to_Md n_Md rfl (by decide) rfl wz_Md_clauseDigit rfl hini rfl rfl rfl rfl (Nat.le_of_ble_eq_true rfl) d_Md_init_259 ?_
  refine c_ws (ws' := (h0, .inr (10, [.ref q0, vI 0, .ref q1, .ref q2, .ref q3, vI 0, .ref q4, .ref q5, .ref q6, vI 0, vI 0, .ref q7, vI 0, vI 0, vI 0, vI 0, .ref q8, .ref q9, .ref q10, .ref q11, .ref q12, .ref q13, .ref q14, .ref q15, .ref q16, .ref q17, .ref q18, .ref q19, .ref q20, .ref q21, .ref q22, vI 0, .ref q23, vI 0, .ref q24, .ref q25, .ref q26, .ref q27, vI 0, .ref q28, .ref q29, .ref q30, .null, .null, .null, vI 0, vI 0, vI 0, vI 0, vI 0, .null, .null, .null, .null, vI 0, .null, .null, vI 0, .null, .null, .null, .null, .null, .null, .null, .null, .null, .null, .null, vI 0, vI 0, vI 0, .null, .null, .null])) :: [(q0, .inl (F.2.1.2.2 0, 100, .inl (fun _ => 0))), (q1, .inl (F.2.1.2.2 0, 200, .inl (fun _ => 0))), (q2, .inl (F.2.1.2.2 0, 200, .inl (fun _ => 0))), (q3, .inl (F.2.1.2.2 0, 200, .inl (fun _ => 0))), (q4, .inl (F.2.1.2.2 0, 200, .inl (fun _ => 0))), (q5, .inl (F.2.1.2.2 0, 240, .inl (fun _ => 0))), (q6, .inl (F.2.1.2.2 0, 20, .inl (fun _ => 0))), (q7, .inl (F.2.1.2.2 0, 12, .inl (fun _ => 0))), (q8, .inl (F.2.1.2.2 2, 400, .inl (fun _ => 0))), (q9, .inl (F.2.1.2.2 2, 400, .inl (fun _ => 0))), (q10, .inl (F.2.1.2.2 2, 40, .inl (fun _ => 0))), (q11, .inl (F.2.1.2.2 2, 40, .inl (fun _ => 0))), (q12, .inl (F.2.1.2.2 2, 40, .inl (fun _ => 0))), (q13, .inl (F.2.1.2.2 0, 20, .inl (fun _ => 0))), (q14, .inl (F.2.1.2.2 0, 20, .inl (fun _ => 0))), (q15, .inl (F.2.1.2.2 0, 20, .inl (fun _ => 0))), (q16, .inl (F.2.1.2.2 0, 40, .inl (fun _ => 0))), (q17, .inl (F.2.1.2.2 0, 40, .inl (fun _ => 0))), (q18, .inl (F.2.1.2.2 0, 40, .inl (fun _ => 0))), (q19, .inl (F.2.1.2.2 0, 40, .inl (fun _ => 0))), (q20, .inl (F.2.1.2.2 0, 40, .inl (fun _ => 0))), (q21, .inl (F.2.1.2.2 0, 40, .inl (fun _ => 0))), (q22, .inl (F.2.1.2.2 0, 40, .inl (fun _ => 0))), (q23, .inl (F.2.1.2.2 0, 40, .inl (fun _ => 0))), (q24, .inl (F.2.1.2.2 0, 46080, .inl (fun _ => 0))), (q25, .inl (F.2.1.2.2 0, 9, .inl (fun _ => 0))), (q26, .inl (F.2.1.2.2 0, 9, .inl (fun _ => 0))), (q27, .inl (F.2.1.2.2 0, 9, .inl (fun _ => 0))), (q28, .inl (F.2.1.2.2 0, 12000, .inl (fun _ => 0))), (q29, .inl (F.2.1.2.2 0, 160, .inl (fun _ => 0))), (q30, .inl (F.2.1.2.2 0, 160, .inl (fun _ => 0)))]) rfl ?_
  refine c_aload_n ok 0 d_Md_init_262 rfl rfl ?_
  refine c_bipush ok 20 d_Md_init_263 (by decide) ?_
  refine c_newI ok 20 rfl (Nat.le_of_ble_eq_true rfl) wz_arr_I (Nat.le_of_ble_eq_true rfl) (Nat.le_of_ble_eq_true rfl) d_Md_init_265 (fun q31 => ?_)
  refine c_putF ok 10 (TT := T_Md) (N := 75) (j := 42) (ty := .array .int) in_Md to_Md n_Md rfl (by decide) rfl wz_Md_clauses rfl hini rfl rfl rfl rfl (Nat.le_of_ble_eq_true rfl) d_Md_init_267 ?_
  refine c_ws (ws' := (h0, .inr (10, [.ref q0, vI 0, .ref q1, .ref q2, .ref q3, vI 0, .ref q4, .ref q5, .ref q6, vI 0, vI 0, .ref q7, vI 0, vI 0, vI 0, vI 0, .ref q8, .ref q9, .ref q10, .ref q11, .ref q12, .ref q13, .ref q14, .ref q15, .ref q16, .ref q17, .ref q18, .ref q19, .ref q20, .ref q21, .ref q22, vI 0, .ref q23, vI 0, .ref q24, .ref q25, .ref q26, .ref q27, vI 0, .ref q28, .ref q29, .ref q30, .ref q31, .null, .null, vI 0, vI 0, vI 0, vI 0, vI 0, .null, .null, .null, .null, vI 0, .null, .null, vI 0, .null, .null, .null, .null, .null, .null, .null, .null, .null, .null, .null, vI 0, vI 0, vI 0, .null, .null, .null])) :: [(q0, .inl (F.2.1.2.2 0, 100, .inl (fun _ => 0))), (q1, .inl (F.2.1.2.2 0, 200, .inl (fun _ => 0))), (q2, .inl (F.2.1.2.2 0, 200, .inl (fun _ => 0))), (q3, .inl (F.2.1.2.2 0, 200, .inl (fun _ => 0))), (q4, .inl (F.2.1.2.2 0, 200, .inl (fun _ => 0))), (q5, .inl (F.2.1.2.2 0, 240, .inl (fun _ => 0))), (q6, .inl (F.2.1.2.2 0, 20, .inl (fun _ => 0))), (q7, .inl (F.2.1.2.2 0, 12, .inl (fun _ => 0))), (q8, .inl (F.2.1.2.2 2, 400, .inl (fun _ => 0))), (q9, .inl (F.2.1.2.2 2, 400, .inl (fun _ => 0))), (q10, .inl (F.2.1.2.2 2, 40, .inl (fun _ => 0))), (q11, .inl (F.2.1.2.2 2, 40, .inl (fun _ => 0))), (q12, .inl (F.2.1.2.2 2, 40, .inl (fun _ => 0))), (q13, .inl (F.2.1.2.2 0, 20, .inl (fun _ => 0))), (q14, .inl (F.2.1.2.2 0, 20, .inl (fun _ => 0))), (q15, .inl (F.2.1.2.2 0, 20, .inl (fun _ => 0))), (q16, .inl (F.2.1.2.2 0, 40, .inl (fun _ => 0))), (q17, .inl (F.2.1.2.2 0, 40, .inl (fun _ => 0))), (q18, .inl (F.2.1.2.2 0, 40, .inl (fun _ => 0))), (q19, .inl (F.2.1.2.2 0, 40, .inl (fun _ => 0))), (q20, .inl (F.2.1.2.2 0, 40, .inl (fun _ => 0))), (q21, .inl (F.2.1.2.2 0, 40, .inl (fun _ => 0))), (q22, .inl (F.2.1.2.2 0, 40, .inl (fun _ => 0))), (q23, .inl (F.2.1.2.2 0, 40, .inl (fun _ => 0))), (q24, .inl (F.2.1.2.2 0, 46080, .inl (fun _ => 0))), (q25, .inl (F.2.1.2.2 0, 9, .inl (fun _ => 0))), (q26, .inl (F.2.1.2.2 0, 9, .inl (fun _ => 0))), (q27, .inl (F.2.1.2.2 0, 9, .inl (fun _ => 0))), (q28, .inl (F.2.1.2.2 0, 12000, .inl (fun _ => 0))), (q29, .inl (F.2.1.2.2 0, 160, .inl (fun _ => 0))), (q30, .inl (F.2.1.2.2 0, 160, .inl (fun _ => 0))), (q31, .inl (F.2.1.2.2 0, 20, .inl (fun _ => 0)))]) rfl ?_
  refine c_aload_n ok 0 d_Md_init_270 rfl rfl ?_
  refine c_bipush ok 20 d_Md_init_271 (by decide) ?_
  refine c_newI ok 20 rfl (Nat.le_of_ble_eq_true rfl) wz_arr_I (Nat.le_of_ble_eq_true rfl) (Nat.le_of_ble_eq_true rfl) d_Md_init_273 (fun q32 => ?_)
  refine c_putF ok 10 (TT := T_Md) (N := 75) (j := 43) (ty := .array .int) in_Md to_Md n_Md rfl (by decide) rfl wz_Md_elseDigit rfl hini rfl rfl rfl rfl (Nat.le_of_ble_eq_true rfl) d_Md_init_275 ?_
  refine c_ws (ws' := (h0, .inr (10, [.ref q0, vI 0, .ref q1, .ref q2, .ref q3, vI 0, .ref q4, .ref q5, .ref q6, vI 0, vI 0, .ref q7, vI 0, vI 0, vI 0, vI 0, .ref q8, .ref q9, .ref q10, .ref q11, .ref q12, .ref q13, .ref q14, .ref q15, .ref q16, .ref q17, .ref q18, .ref q19, .ref q20, .ref q21, .ref q22, vI 0, .ref q23, vI 0, .ref q24, .ref q25, .ref q26, .ref q27, vI 0, .ref q28, .ref q29, .ref q30, .ref q31, .ref q32, .null, vI 0, vI 0, vI 0, vI 0, vI 0, .null, .null, .null, .null, vI 0, .null, .null, vI 0, .null, .null, .null, .null, .null, .null, .null, .null, .null, .null, .null, vI 0, vI 0, vI 0, .null, .null, .null])) :: [(q0, .inl (F.2.1.2.2 0, 100, .inl (fun _ => 0))), (q1, .inl (F.2.1.2.2 0, 200, .inl (fun _ => 0))), (q2, .inl (F.2.1.2.2 0, 200, .inl (fun _ => 0))), (q3, .inl (F.2.1.2.2 0, 200, .inl (fun _ => 0))), (q4, .inl (F.2.1.2.2 0, 200, .inl (fun _ => 0))), (q5, .inl (F.2.1.2.2 0, 240, .inl (fun _ => 0))), (q6, .inl (F.2.1.2.2 0, 20, .inl (fun _ => 0))), (q7, .inl (F.2.1.2.2 0, 12, .inl (fun _ => 0))), (q8, .inl (F.2.1.2.2 2, 400, .inl (fun _ => 0))), (q9, .inl (F.2.1.2.2 2, 400, .inl (fun _ => 0))), (q10, .inl (F.2.1.2.2 2, 40, .inl (fun _ => 0))), (q11, .inl (F.2.1.2.2 2, 40, .inl (fun _ => 0))), (q12, .inl (F.2.1.2.2 2, 40, .inl (fun _ => 0))), (q13, .inl (F.2.1.2.2 0, 20, .inl (fun _ => 0))), (q14, .inl (F.2.1.2.2 0, 20, .inl (fun _ => 0))), (q15, .inl (F.2.1.2.2 0, 20, .inl (fun _ => 0))), (q16, .inl (F.2.1.2.2 0, 40, .inl (fun _ => 0))), (q17, .inl (F.2.1.2.2 0, 40, .inl (fun _ => 0))), (q18, .inl (F.2.1.2.2 0, 40, .inl (fun _ => 0))), (q19, .inl (F.2.1.2.2 0, 40, .inl (fun _ => 0))), (q20, .inl (F.2.1.2.2 0, 40, .inl (fun _ => 0))), (q21, .inl (F.2.1.2.2 0, 40, .inl (fun _ => 0))), (q22, .inl (F.2.1.2.2 0, 40, .inl (fun _ => 0))), (q23, .inl (F.2.1.2.2 0, 40, .inl (fun _ => 0))), (q24, .inl (F.2.1.2.2 0, 46080, .inl (fun _ => 0))), (q25, .inl (F.2.1.2.2 0, 9, .inl (fun _ => 0))), (q26, .inl (F.2.1.2.2 0, 9, .inl (fun _ => 0))), (q27, .inl (F.2.1.2.2 0, 9, .inl (fun _ => 0))), (q28, .inl (F.2.1.2.2 0, 12000, .inl (fun _ => 0))), (q29, .inl (F.2.1.2.2 0, 160, .inl (fun _ => 0))), (q30, .inl (F.2.1.2.2 0, 160, .inl (fun _ => 0))), (q31, .inl (F.2.1.2.2 0, 20, .inl (fun _ => 0))), (q32, .inl (F.2.1.2.2 0, 20, .inl (fun _ => 0)))]) rfl ?_
  refine c_aload_n ok 0 d_Md_init_278 rfl rfl ?_
  refine c_sipush ok 200 d_Md_init_279 (by decide) ?_
  refine c_newI ok 200 rfl (Nat.le_of_ble_eq_true rfl) wz_arr_I (Nat.le_of_ble_eq_true rfl) (Nat.le_of_ble_eq_true rfl) d_Md_init_282 (fun q33 => ?_)
  refine c_putF ok 10 (TT := T_Md) (N := 75) (j := 44) (ty := .array .int) in_Md to_Md n_Md rfl (by decide) rfl wz_Md_stack rfl hini rfl rfl rfl rfl (Nat.le_of_ble_eq_true rfl) d_Md_init_284 ?_
  refine c_ws (ws' := (h0, .inr (10, [.ref q0, vI 0, .ref q1, .ref q2, .ref q3, vI 0, .ref q4, .ref q5, .ref q6, vI 0, vI 0, .ref q7, vI 0, vI 0, vI 0, vI 0, .ref q8, .ref q9, .ref q10, .ref q11, .ref q12, .ref q13, .ref q14, .ref q15, .ref q16, .ref q17, .ref q18, .ref q19, .ref q20, .ref q21, .ref q22, vI 0, .ref q23, vI 0, .ref q24, .ref q25, .ref q26, .ref q27, vI 0, .ref q28, .ref q29, .ref q30, .ref q31, .ref q32, .ref q33, vI 0, vI 0, vI 0, vI 0, vI 0, .null, .null, .null, .null, vI 0, .null, .null, vI 0, .null, .null, .null, .null, .null, .null, .null, .null, .null, .null, .null, vI 0, vI 0, vI 0, .null, .null, .null])) :: [(q0, .inl (F.2.1.2.2 0, 100, .inl (fun _ => 0))), (q1, .inl (F.2.1.2.2 0, 200, .inl (fun _ => 0))), (q2, .inl (F.2.1.2.2 0, 200, .inl (fun _ => 0))), (q3, .inl (F.2.1.2.2 0, 200, .inl (fun _ => 0))), (q4, .inl (F.2.1.2.2 0, 200, .inl (fun _ => 0))), (q5, .inl (F.2.1.2.2 0, 240, .inl (fun _ => 0))), (q6, .inl (F.2.1.2.2 0, 20, .inl (fun _ => 0))), (q7, .inl (F.2.1.2.2 0, 12, .inl (fun _ => 0))), (q8, .inl (F.2.1.2.2 2, 400, .inl (fun _ => 0))), (q9, .inl (F.2.1.2.2 2, 400, .inl (fun _ => 0))), (q10, .inl (F.2.1.2.2 2, 40, .inl (fun _ => 0))), (q11, .inl (F.2.1.2.2 2, 40, .inl (fun _ => 0))), (q12, .inl (F.2.1.2.2 2, 40, .inl (fun _ => 0))), (q13, .inl (F.2.1.2.2 0, 20, .inl (fun _ => 0))), (q14, .inl (F.2.1.2.2 0, 20, .inl (fun _ => 0))), (q15, .inl (F.2.1.2.2 0, 20, .inl (fun _ => 0))), (q16, .inl (F.2.1.2.2 0, 40, .inl (fun _ => 0))), (q17, .inl (F.2.1.2.2 0, 40, .inl (fun _ => 0))), (q18, .inl (F.2.1.2.2 0, 40, .inl (fun _ => 0))), (q19, .inl (F.2.1.2.2 0, 40, .inl (fun _ => 0))), (q20, .inl (F.2.1.2.2 0, 40, .inl (fun _ => 0))), (q21, .inl (F.2.1.2.2 0, 40, .inl (fun _ => 0))), (q22, .inl (F.2.1.2.2 0, 40, .inl (fun _ => 0))), (q23, .inl (F.2.1.2.2 0, 40, .inl (fun _ => 0))), (q24, .inl (F.2.1.2.2 0, 46080, .inl (fun _ => 0))), (q25, .inl (F.2.1.2.2 0, 9, .inl (fun _ => 0))), (q26, .inl (F.2.1.2.2 0, 9, .inl (fun _ => 0))), (q27, .inl (F.2.1.2.2 0, 9, .inl (fun _ => 0))), (q28, .inl (F.2.1.2.2 0, 12000, .inl (fun _ => 0))), (q29, .inl (F.2.1.2.2 0, 160, .inl (fun _ => 0))), (q30, .inl (F.2.1.2.2 0, 160, .inl (fun _ => 0))), (q31, .inl (F.2.1.2.2 0, 20, .inl (fun _ => 0))), (q32, .inl (F.2.1.2.2 0, 20, .inl (fun _ => 0))), (q33, .inl (F.2.1.2.2 0, 200, .inl (fun _ => 0)))]) rfl ?_
  refine c_aload_n ok 0 d_Md_init_287 rfl rfl ?_
  refine c_sipush ok 128 d_Md_init_288 (by decide) ?_
  refine c_newI ok 128 rfl (Nat.le_of_ble_eq_true rfl) wz_arr_I (Nat.le_of_ble_eq_true rfl) (Nat.le_of_ble_eq_true rfl) d_Md_init_291 (fun q34 => ?_)
  refine c_putF ok 10 (TT := T_Md) (N := 75) (j := 50) (ty := .array .int) in_Md to_Md n_Md rfl (by decide) rfl wz_Md_fact rfl hini rfl rfl rfl rfl (Nat.le_of_ble_eq_true rfl) d_Md_init_293 ?_
  refine c_ws (ws' := (h0, .inr (10, [.ref q0, vI 0, .ref q1, .ref q2, .ref q3, vI 0, .ref q4, .ref q5, .ref q6, vI 0, vI 0, .ref q7, vI 0, vI 0, vI 0, vI 0, .ref q8, .ref q9, .ref q10, .ref q11, .ref q12, .ref q13, .ref q14, .ref q15, .ref q16, .ref q17, .ref q18, .ref q19, .ref q20, .ref q21, .ref q22, vI 0, .ref q23, vI 0, .ref q24, .ref q25, .ref q26, .ref q27, vI 0, .ref q28, .ref q29, .ref q30, .ref q31, .ref q32, .ref q33, vI 0, vI 0, vI 0, vI 0, vI 0, .ref q34, .null, .null, .null, vI 0, .null, .null, vI 0, .null, .null, .null, .null, .null, .null, .null, .null, .null, .null, .null, vI 0, vI 0, vI 0, .null, .null, .null])) :: [(q0, .inl (F.2.1.2.2 0, 100, .inl (fun _ => 0))), (q1, .inl (F.2.1.2.2 0, 200, .inl (fun _ => 0))), (q2, .inl (F.2.1.2.2 0, 200, .inl (fun _ => 0))), (q3, .inl (F.2.1.2.2 0, 200, .inl (fun _ => 0))), (q4, .inl (F.2.1.2.2 0, 200, .inl (fun _ => 0))), (q5, .inl (F.2.1.2.2 0, 240, .inl (fun _ => 0))), (q6, .inl (F.2.1.2.2 0, 20, .inl (fun _ => 0))), (q7, .inl (F.2.1.2.2 0, 12, .inl (fun _ => 0))), (q8, .inl (F.2.1.2.2 2, 400, .inl (fun _ => 0))), (q9, .inl (F.2.1.2.2 2, 400, .inl (fun _ => 0))), (q10, .inl (F.2.1.2.2 2, 40, .inl (fun _ => 0))), (q11, .inl (F.2.1.2.2 2, 40, .inl (fun _ => 0))), (q12, .inl (F.2.1.2.2 2, 40, .inl (fun _ => 0))), (q13, .inl (F.2.1.2.2 0, 20, .inl (fun _ => 0))), (q14, .inl (F.2.1.2.2 0, 20, .inl (fun _ => 0))), (q15, .inl (F.2.1.2.2 0, 20, .inl (fun _ => 0))), (q16, .inl (F.2.1.2.2 0, 40, .inl (fun _ => 0))), (q17, .inl (F.2.1.2.2 0, 40, .inl (fun _ => 0))), (q18, .inl (F.2.1.2.2 0, 40, .inl (fun _ => 0))), (q19, .inl (F.2.1.2.2 0, 40, .inl (fun _ => 0))), (q20, .inl (F.2.1.2.2 0, 40, .inl (fun _ => 0))), (q21, .inl (F.2.1.2.2 0, 40, .inl (fun _ => 0))), (q22, .inl (F.2.1.2.2 0, 40, .inl (fun _ => 0))), (q23, .inl (F.2.1.2.2 0, 40, .inl (fun _ => 0))), (q24, .inl (F.2.1.2.2 0, 46080, .inl (fun _ => 0))), (q25, .inl (F.2.1.2.2 0, 9, .inl (fun _ => 0))), (q26, .inl (F.2.1.2.2 0, 9, .inl (fun _ => 0))), (q27, .inl (F.2.1.2.2 0, 9, .inl (fun _ => 0))), (q28, .inl (F.2.1.2.2 0, 12000, .inl (fun _ => 0))), (q29, .inl (F.2.1.2.2 0, 160, .inl (fun _ => 0))), (q30, .inl (F.2.1.2.2 0, 160, .inl (fun _ => 0))), (q31, .inl (F.2.1.2.2 0, 20, .inl (fun _ => 0))), (q32, .inl (F.2.1.2.2 0, 20, .inl (fun _ => 0))), (q33, .inl (F.2.1.2.2 0, 200, .inl (fun _ => 0))), (q34, .inl (F.2.1.2.2 0, 128, .inl (fun _ => 0)))]) rfl ?_
  refine c_aload_n ok 0 d_Md_init_296 rfl rfl ?_
  refine c_bipush ok 30 d_Md_init_297 (by decide) ?_
  refine c_newI ok 30 rfl (Nat.le_of_ble_eq_true rfl) wz_arr_I (Nat.le_of_ble_eq_true rfl) (Nat.le_of_ble_eq_true rfl) d_Md_init_299 (fun q35 => ?_)
  refine c_putF ok 10 (TT := T_Md) (N := 75) (j := 51) (ty := .array .int) in_Md to_Md n_Md rfl (by decide) rfl wz_Md_foundName rfl hini rfl rfl rfl rfl (Nat.le_of_ble_eq_true rfl) d_Md_init_301 ?_
  refine c_ws (ws' := (h0, .inr (10, [.ref q0, vI 0, .ref q1, .ref q2, .ref q3, vI 0, .ref q4, .ref q5, .ref q6, vI 0, vI 0, .ref q7, vI 0, vI 0, vI 0, vI 0, .ref q8, .ref q9, .ref q10, .ref q11, .ref q12, .ref q13, .ref q14, .ref q15, .ref q16, .ref q17, .ref q18, .ref q19, .ref q20, .ref q21, .ref q22, vI 0, .ref q23, vI 0, .ref q24, .ref q25, .ref q26, .ref q27, vI 0, .ref q28, .ref q29, .ref q30, .ref q31, .ref q32, .ref q33, vI 0, vI 0, vI 0, vI 0, vI 0, .ref q34, .ref q35, .null, .null, vI 0, .null, .null, vI 0, .null, .null, .null, .null, .null, .null, .null, .null, .null, .null, .null, vI 0, vI 0, vI 0, .null, .null, .null])) :: [(q0, .inl (F.2.1.2.2 0, 100, .inl (fun _ => 0))), (q1, .inl (F.2.1.2.2 0, 200, .inl (fun _ => 0))), (q2, .inl (F.2.1.2.2 0, 200, .inl (fun _ => 0))), (q3, .inl (F.2.1.2.2 0, 200, .inl (fun _ => 0))), (q4, .inl (F.2.1.2.2 0, 200, .inl (fun _ => 0))), (q5, .inl (F.2.1.2.2 0, 240, .inl (fun _ => 0))), (q6, .inl (F.2.1.2.2 0, 20, .inl (fun _ => 0))), (q7, .inl (F.2.1.2.2 0, 12, .inl (fun _ => 0))), (q8, .inl (F.2.1.2.2 2, 400, .inl (fun _ => 0))), (q9, .inl (F.2.1.2.2 2, 400, .inl (fun _ => 0))), (q10, .inl (F.2.1.2.2 2, 40, .inl (fun _ => 0))), (q11, .inl (F.2.1.2.2 2, 40, .inl (fun _ => 0))), (q12, .inl (F.2.1.2.2 2, 40, .inl (fun _ => 0))), (q13, .inl (F.2.1.2.2 0, 20, .inl (fun _ => 0))), (q14, .inl (F.2.1.2.2 0, 20, .inl (fun _ => 0))), (q15, .inl (F.2.1.2.2 0, 20, .inl (fun _ => 0))), (q16, .inl (F.2.1.2.2 0, 40, .inl (fun _ => 0))), (q17, .inl (F.2.1.2.2 0, 40, .inl (fun _ => 0))), (q18, .inl (F.2.1.2.2 0, 40, .inl (fun _ => 0))), (q19, .inl (F.2.1.2.2 0, 40, .inl (fun _ => 0))), (q20, .inl (F.2.1.2.2 0, 40, .inl (fun _ => 0))), (q21, .inl (F.2.1.2.2 0, 40, .inl (fun _ => 0))), (q22, .inl (F.2.1.2.2 0, 40, .inl (fun _ => 0))), (q23, .inl (F.2.1.2.2 0, 40, .inl (fun _ => 0))), (q24, .inl (F.2.1.2.2 0, 46080, .inl (fun _ => 0))), (q25, .inl (F.2.1.2.2 0, 9, .inl (fun _ => 0))), (q26, .inl (F.2.1.2.2 0, 9, .inl (fun _ => 0))), (q27, .inl (F.2.1.2.2 0, 9, .inl (fun _ => 0))), (q28, .inl (F.2.1.2.2 0, 12000, .inl (fun _ => 0))), (q29, .inl (F.2.1.2.2 0, 160, .inl (fun _ => 0))), (q30, .inl (F.2.1.2.2 0, 160, .inl (fun _ => 0))), (q31, .inl (F.2.1.2.2 0, 20, .inl (fun _ => 0))), (q32, .inl (F.2.1.2.2 0, 20, .inl (fun _ => 0))), (q33, .inl (F.2.1.2.2 0, 200, .inl (fun _ => 0))), (q34, .inl (F.2.1.2.2 0, 128, .inl (fun _ => 0))), (q35, .inl (F.2.1.2.2 0, 30, .inl (fun _ => 0)))]) rfl ?_
  refine c_aload_n ok 0 d_Md_init_304 rfl rfl ?_
  refine c_bipush ok 30 d_Md_init_305 (by decide) ?_
  refine c_newI ok 30 rfl (Nat.le_of_ble_eq_true rfl) wz_arr_I (Nat.le_of_ble_eq_true rfl) (Nat.le_of_ble_eq_true rfl) d_Md_init_307 (fun q36 => ?_)
  refine c_putF ok 10 (TT := T_Md) (N := 75) (j := 52) (ty := .array .int) in_Md to_Md n_Md rfl (by decide) rfl wz_Md_foundBy rfl hini rfl rfl rfl rfl (Nat.le_of_ble_eq_true rfl) d_Md_init_309 ?_
  refine c_ws (ws' := (h0, .inr (10, [.ref q0, vI 0, .ref q1, .ref q2, .ref q3, vI 0, .ref q4, .ref q5, .ref q6, vI 0, vI 0, .ref q7, vI 0, vI 0, vI 0, vI 0, .ref q8, .ref q9, .ref q10, .ref q11, .ref q12, .ref q13, .ref q14, .ref q15, .ref q16, .ref q17, .ref q18, .ref q19, .ref q20, .ref q21, .ref q22, vI 0, .ref q23, vI 0, .ref q24, .ref q25, .ref q26, .ref q27, vI 0, .ref q28, .ref q29, .ref q30, .ref q31, .ref q32, .ref q33, vI 0, vI 0, vI 0, vI 0, vI 0, .ref q34, .ref q35, .ref q36, .null, vI 0, .null, .null, vI 0, .null, .null, .null, .null, .null, .null, .null, .null, .null, .null, .null, vI 0, vI 0, vI 0, .null, .null, .null])) :: [(q0, .inl (F.2.1.2.2 0, 100, .inl (fun _ => 0))), (q1, .inl (F.2.1.2.2 0, 200, .inl (fun _ => 0))), (q2, .inl (F.2.1.2.2 0, 200, .inl (fun _ => 0))), (q3, .inl (F.2.1.2.2 0, 200, .inl (fun _ => 0))), (q4, .inl (F.2.1.2.2 0, 200, .inl (fun _ => 0))), (q5, .inl (F.2.1.2.2 0, 240, .inl (fun _ => 0))), (q6, .inl (F.2.1.2.2 0, 20, .inl (fun _ => 0))), (q7, .inl (F.2.1.2.2 0, 12, .inl (fun _ => 0))), (q8, .inl (F.2.1.2.2 2, 400, .inl (fun _ => 0))), (q9, .inl (F.2.1.2.2 2, 400, .inl (fun _ => 0))), (q10, .inl (F.2.1.2.2 2, 40, .inl (fun _ => 0))), (q11, .inl (F.2.1.2.2 2, 40, .inl (fun _ => 0))), (q12, .inl (F.2.1.2.2 2, 40, .inl (fun _ => 0))), (q13, .inl (F.2.1.2.2 0, 20, .inl (fun _ => 0))), (q14, .inl (F.2.1.2.2 0, 20, .inl (fun _ => 0))), (q15, .inl (F.2.1.2.2 0, 20, .inl (fun _ => 0))), (q16, .inl (F.2.1.2.2 0, 40, .inl (fun _ => 0))), (q17, .inl (F.2.1.2.2 0, 40, .inl (fun _ => 0))), (q18, .inl (F.2.1.2.2 0, 40, .inl (fun _ => 0))), (q19, .inl (F.2.1.2.2 0, 40, .inl (fun _ => 0))), (q20, .inl (F.2.1.2.2 0, 40, .inl (fun _ => 0))), (q21, .inl (F.2.1.2.2 0, 40, .inl (fun _ => 0))), (q22, .inl (F.2.1.2.2 0, 40, .inl (fun _ => 0))), (q23, .inl (F.2.1.2.2 0, 40, .inl (fun _ => 0))), (q24, .inl (F.2.1.2.2 0, 46080, .inl (fun _ => 0))), (q25, .inl (F.2.1.2.2 0, 9, .inl (fun _ => 0))), (q26, .inl (F.2.1.2.2 0, 9, .inl (fun _ => 0))), (q27, .inl (F.2.1.2.2 0, 9, .inl (fun _ => 0))), (q28, .inl (F.2.1.2.2 0, 12000, .inl (fun _ => 0))), (q29, .inl (F.2.1.2.2 0, 160, .inl (fun _ => 0))), (q30, .inl (F.2.1.2.2 0, 160, .inl (fun _ => 0))), (q31, .inl (F.2.1.2.2 0, 20, .inl (fun _ => 0))), (q32, .inl (F.2.1.2.2 0, 20, .inl (fun _ => 0))), (q33, .inl (F.2.1.2.2 0, 200, .inl (fun _ => 0))), (q34, .inl (F.2.1.2.2 0, 128, .inl (fun _ => 0))), (q35, .inl (F.2.1.2.2 0, 30, .inl (fun _ => 0))), (q36, .inl (F.2.1.2.2 0, 30, .inl (fun _ => 0)))]) rfl ?_
  refine c_aload_n ok 0 d_Md_init_312 rfl rfl ?_
  refine c_bipush ok 30 d_Md_init_313 (by decide) ?_
  refine c_newI ok 30 rfl (Nat.le_of_ble_eq_true rfl) wz_arr_I (Nat.le_of_ble_eq_true rfl) (Nat.le_of_ble_eq_true rfl) d_Md_init_315 (fun q37 => ?_)
  refine c_putF ok 10 (TT := T_Md) (N := 75) (j := 53) (ty := .array .int) in_Md to_Md n_Md rfl (by decide) rfl wz_Md_foundDigit rfl hini rfl rfl rfl rfl (Nat.le_of_ble_eq_true rfl) d_Md_init_317 ?_
  refine c_ws (ws' := (h0, .inr (10, [.ref q0, vI 0, .ref q1, .ref q2, .ref q3, vI 0, .ref q4, .ref q5, .ref q6, vI 0, vI 0, .ref q7, vI 0, vI 0, vI 0, vI 0, .ref q8, .ref q9, .ref q10, .ref q11, .ref q12, .ref q13, .ref q14, .ref q15, .ref q16, .ref q17, .ref q18, .ref q19, .ref q20, .ref q21, .ref q22, vI 0, .ref q23, vI 0, .ref q24, .ref q25, .ref q26, .ref q27, vI 0, .ref q28, .ref q29, .ref q30, .ref q31, .ref q32, .ref q33, vI 0, vI 0, vI 0, vI 0, vI 0, .ref q34, .ref q35, .ref q36, .ref q37, vI 0, .null, .null, vI 0, .null, .null, .null, .null, .null, .null, .null, .null, .null, .null, .null, vI 0, vI 0, vI 0, .null, .null, .null])) :: [(q0, .inl (F.2.1.2.2 0, 100, .inl (fun _ => 0))), (q1, .inl (F.2.1.2.2 0, 200, .inl (fun _ => 0))), (q2, .inl (F.2.1.2.2 0, 200, .inl (fun _ => 0))), (q3, .inl (F.2.1.2.2 0, 200, .inl (fun _ => 0))), (q4, .inl (F.2.1.2.2 0, 200, .inl (fun _ => 0))), (q5, .inl (F.2.1.2.2 0, 240, .inl (fun _ => 0))), (q6, .inl (F.2.1.2.2 0, 20, .inl (fun _ => 0))), (q7, .inl (F.2.1.2.2 0, 12, .inl (fun _ => 0))), (q8, .inl (F.2.1.2.2 2, 400, .inl (fun _ => 0))), (q9, .inl (F.2.1.2.2 2, 400, .inl (fun _ => 0))), (q10, .inl (F.2.1.2.2 2, 40, .inl (fun _ => 0))), (q11, .inl (F.2.1.2.2 2, 40, .inl (fun _ => 0))), (q12, .inl (F.2.1.2.2 2, 40, .inl (fun _ => 0))), (q13, .inl (F.2.1.2.2 0, 20, .inl (fun _ => 0))), (q14, .inl (F.2.1.2.2 0, 20, .inl (fun _ => 0))), (q15, .inl (F.2.1.2.2 0, 20, .inl (fun _ => 0))), (q16, .inl (F.2.1.2.2 0, 40, .inl (fun _ => 0))), (q17, .inl (F.2.1.2.2 0, 40, .inl (fun _ => 0))), (q18, .inl (F.2.1.2.2 0, 40, .inl (fun _ => 0))), (q19, .inl (F.2.1.2.2 0, 40, .inl (fun _ => 0))), (q20, .inl (F.2.1.2.2 0, 40, .inl (fun _ => 0))), (q21, .inl (F.2.1.2.2 0, 40, .inl (fun _ => 0))), (q22, .inl (F.2.1.2.2 0, 40, .inl (fun _ => 0))), (q23, .inl (F.2.1.2.2 0, 40, .inl (fun _ => 0))), (q24, .inl (F.2.1.2.2 0, 46080, .inl (fun _ => 0))), (q25, .inl (F.2.1.2.2 0, 9, .inl (fun _ => 0))), (q26, .inl (F.2.1.2.2 0, 9, .inl (fun _ => 0))), (q27, .inl (F.2.1.2.2 0, 9, .inl (fun _ => 0))), (q28, .inl (F.2.1.2.2 0, 12000, .inl (fun _ => 0))), (q29, .inl (F.2.1.2.2 0, 160, .inl (fun _ => 0))), (q30, .inl (F.2.1.2.2 0, 160, .inl (fun _ => 0))), (q31, .inl (F.2.1.2.2 0, 20, .inl (fun _ => 0))), (q32, .inl (F.2.1.2.2 0, 20, .inl (fun _ => 0))), (q33, .inl (F.2.1.2.2 0, 200, .inl (fun _ => 0))), (q34, .inl (F.2.1.2.2 0, 128, .inl (fun _ => 0))), (q35, .inl (F.2.1.2.2 0, 30, .inl (fun _ => 0))), (q36, .inl (F.2.1.2.2 0, 30, .inl (fun _ => 0))), (q37, .inl (F.2.1.2.2 0, 30, .inl (fun _ => 0)))]) rfl ?_
  refine c_aload_n ok 0 d_Md_init_320 rfl rfl ?_
  refine c_bipush ok 32 d_Md_init_321 (by decide) ?_
  refine c_newI ok 32 rfl (Nat.le_of_ble_eq_true rfl) wz_arr_I (Nat.le_of_ble_eq_true rfl) (Nat.le_of_ble_eq_true rfl) d_Md_init_323 (fun q38 => ?_)
  refine c_putF ok 10 (TT := T_Md) (N := 75) (j := 55) (ty := .array .int) in_Md to_Md n_Md rfl (by decide) rfl wz_Md_boneMany rfl hini rfl rfl rfl rfl (Nat.le_of_ble_eq_true rfl) d_Md_init_325 ?_
  refine c_ws (ws' := (h0, .inr (10, [.ref q0, vI 0, .ref q1, .ref q2, .ref q3, vI 0, .ref q4, .ref q5, .ref q6, vI 0, vI 0, .ref q7, vI 0, vI 0, vI 0, vI 0, .ref q8, .ref q9, .ref q10, .ref q11, .ref q12, .ref q13, .ref q14, .ref q15, .ref q16, .ref q17, .ref q18, .ref q19, .ref q20, .ref q21, .ref q22, vI 0, .ref q23, vI 0, .ref q24, .ref q25, .ref q26, .ref q27, vI 0, .ref q28, .ref q29, .ref q30, .ref q31, .ref q32, .ref q33, vI 0, vI 0, vI 0, vI 0, vI 0, .ref q34, .ref q35, .ref q36, .ref q37, vI 0, .ref q38, .null, vI 0, .null, .null, .null, .null, .null, .null, .null, .null, .null, .null, .null, vI 0, vI 0, vI 0, .null, .null, .null])) :: [(q0, .inl (F.2.1.2.2 0, 100, .inl (fun _ => 0))), (q1, .inl (F.2.1.2.2 0, 200, .inl (fun _ => 0))), (q2, .inl (F.2.1.2.2 0, 200, .inl (fun _ => 0))), (q3, .inl (F.2.1.2.2 0, 200, .inl (fun _ => 0))), (q4, .inl (F.2.1.2.2 0, 200, .inl (fun _ => 0))), (q5, .inl (F.2.1.2.2 0, 240, .inl (fun _ => 0))), (q6, .inl (F.2.1.2.2 0, 20, .inl (fun _ => 0))), (q7, .inl (F.2.1.2.2 0, 12, .inl (fun _ => 0))), (q8, .inl (F.2.1.2.2 2, 400, .inl (fun _ => 0))), (q9, .inl (F.2.1.2.2 2, 400, .inl (fun _ => 0))), (q10, .inl (F.2.1.2.2 2, 40, .inl (fun _ => 0))), (q11, .inl (F.2.1.2.2 2, 40, .inl (fun _ => 0))), (q12, .inl (F.2.1.2.2 2, 40, .inl (fun _ => 0))), (q13, .inl (F.2.1.2.2 0, 20, .inl (fun _ => 0))), (q14, .inl (F.2.1.2.2 0, 20, .inl (fun _ => 0))), (q15, .inl (F.2.1.2.2 0, 20, .inl (fun _ => 0))), (q16, .inl (F.2.1.2.2 0, 40, .inl (fun _ => 0))), (q17, .inl (F.2.1.2.2 0, 40, .inl (fun _ => 0))), (q18, .inl (F.2.1.2.2 0, 40, .inl (fun _ => 0))), (q19, .inl (F.2.1.2.2 0, 40, .inl (fun _ => 0))), (q20, .inl (F.2.1.2.2 0, 40, .inl (fun _ => 0))), (q21, .inl (F.2.1.2.2 0, 40, .inl (fun _ => 0))), (q22, .inl (F.2.1.2.2 0, 40, .inl (fun _ => 0))), (q23, .inl (F.2.1.2.2 0, 40, .inl (fun _ => 0))), (q24, .inl (F.2.1.2.2 0, 46080, .inl (fun _ => 0))), (q25, .inl (F.2.1.2.2 0, 9, .inl (fun _ => 0))), (q26, .inl (F.2.1.2.2 0, 9, .inl (fun _ => 0))), (q27, .inl (F.2.1.2.2 0, 9, .inl (fun _ => 0))), (q28, .inl (F.2.1.2.2 0, 12000, .inl (fun _ => 0))), (q29, .inl (F.2.1.2.2 0, 160, .inl (fun _ => 0))), (q30, .inl (F.2.1.2.2 0, 160, .inl (fun _ => 0))), (q31, .inl (F.2.1.2.2 0, 20, .inl (fun _ => 0))), (q32, .inl (F.2.1.2.2 0, 20, .inl (fun _ => 0))), (q33, .inl (F.2.1.2.2 0, 200, .inl (fun _ => 0))), (q34, .inl (F.2.1.2.2 0, 128, .inl (fun _ => 0))), (q35, .inl (F.2.1.2.2 0, 30, .inl (fun _ => 0))), (q36, .inl (F.2.1.2.2 0, 30, .inl (fun _ => 0))), (q37, .inl (F.2.1.2.2 0, 30, .inl (fun _ => 0))), (q38, .inl (F.2.1.2.2 0, 32, .inl (fun _ => 0)))]) rfl ?_
  refine c_aload_n ok 0 d_Md_init_328 rfl rfl ?_
  refine c_sipush ok 384 d_Md_init_329 (by decide) ?_
  refine c_newI ok 384 rfl (Nat.le_of_ble_eq_true rfl) wz_arr_I (Nat.le_of_ble_eq_true rfl) (Nat.le_of_ble_eq_true rfl) d_Md_init_332 (fun q39 => ?_)
  refine c_putF ok 10 (TT := T_Md) (N := 75) (j := 56) (ty := .array .int) in_Md to_Md n_Md rfl (by decide) rfl wz_Md_boneSize rfl hini rfl rfl rfl rfl (Nat.le_of_ble_eq_true rfl) d_Md_init_334 ?_
  refine c_ws (ws' := (h0, .inr (10, [.ref q0, vI 0, .ref q1, .ref q2, .ref q3, vI 0, .ref q4, .ref q5, .ref q6, vI 0, vI 0, .ref q7, vI 0, vI 0, vI 0, vI 0, .ref q8, .ref q9, .ref q10, .ref q11, .ref q12, .ref q13, .ref q14, .ref q15, .ref q16, .ref q17, .ref q18, .ref q19, .ref q20, .ref q21, .ref q22, vI 0, .ref q23, vI 0, .ref q24, .ref q25, .ref q26, .ref q27, vI 0, .ref q28, .ref q29, .ref q30, .ref q31, .ref q32, .ref q33, vI 0, vI 0, vI 0, vI 0, vI 0, .ref q34, .ref q35, .ref q36, .ref q37, vI 0, .ref q38, .ref q39, vI 0, .null, .null, .null, .null, .null, .null, .null, .null, .null, .null, .null, vI 0, vI 0, vI 0, .null, .null, .null])) :: [(q0, .inl (F.2.1.2.2 0, 100, .inl (fun _ => 0))), (q1, .inl (F.2.1.2.2 0, 200, .inl (fun _ => 0))), (q2, .inl (F.2.1.2.2 0, 200, .inl (fun _ => 0))), (q3, .inl (F.2.1.2.2 0, 200, .inl (fun _ => 0))), (q4, .inl (F.2.1.2.2 0, 200, .inl (fun _ => 0))), (q5, .inl (F.2.1.2.2 0, 240, .inl (fun _ => 0))), (q6, .inl (F.2.1.2.2 0, 20, .inl (fun _ => 0))), (q7, .inl (F.2.1.2.2 0, 12, .inl (fun _ => 0))), (q8, .inl (F.2.1.2.2 2, 400, .inl (fun _ => 0))), (q9, .inl (F.2.1.2.2 2, 400, .inl (fun _ => 0))), (q10, .inl (F.2.1.2.2 2, 40, .inl (fun _ => 0))), (q11, .inl (F.2.1.2.2 2, 40, .inl (fun _ => 0))), (q12, .inl (F.2.1.2.2 2, 40, .inl (fun _ => 0))), (q13, .inl (F.2.1.2.2 0, 20, .inl (fun _ => 0))), (q14, .inl (F.2.1.2.2 0, 20, .inl (fun _ => 0))), (q15, .inl (F.2.1.2.2 0, 20, .inl (fun _ => 0))), (q16, .inl (F.2.1.2.2 0, 40, .inl (fun _ => 0))), (q17, .inl (F.2.1.2.2 0, 40, .inl (fun _ => 0))), (q18, .inl (F.2.1.2.2 0, 40, .inl (fun _ => 0))), (q19, .inl (F.2.1.2.2 0, 40, .inl (fun _ => 0))), (q20, .inl (F.2.1.2.2 0, 40, .inl (fun _ => 0))), (q21, .inl (F.2.1.2.2 0, 40, .inl (fun _ => 0))), (q22, .inl (F.2.1.2.2 0, 40, .inl (fun _ => 0))), (q23, .inl (F.2.1.2.2 0, 40, .inl (fun _ => 0))), (q24, .inl (F.2.1.2.2 0, 46080, .inl (fun _ => 0))), (q25, .inl (F.2.1.2.2 0, 9, .inl (fun _ => 0))), (q26, .inl (F.2.1.2.2 0, 9, .inl (fun _ => 0))), (q27, .inl (F.2.1.2.2 0, 9, .inl (fun _ => 0))), (q28, .inl (F.2.1.2.2 0, 12000, .inl (fun _ => 0))), (q29, .inl (F.2.1.2.2 0, 160, .inl (fun _ => 0))), (q30, .inl (F.2.1.2.2 0, 160, .inl (fun _ => 0))), (q31, .inl (F.2.1.2.2 0, 20, .inl (fun _ => 0))), (q32, .inl (F.2.1.2.2 0, 20, .inl (fun _ => 0))), (q33, .inl (F.2.1.2.2 0, 200, .inl (fun _ => 0))), (q34, .inl (F.2.1.2.2 0, 128, .inl (fun _ => 0))), (q35, .inl (F.2.1.2.2 0, 30, .inl (fun _ => 0))), (q36, .inl (F.2.1.2.2 0, 30, .inl (fun _ => 0))), (q37, .inl (F.2.1.2.2 0, 30, .inl (fun _ => 0))), (q38, .inl (F.2.1.2.2 0, 32, .inl (fun _ => 0))), (q39, .inl (F.2.1.2.2 0, 384, .inl (fun _ => 0)))]) rfl ?_
  refine c_aload_n ok 0 d_Md_init_337 rfl rfl ?_
  refine c_iconst ok 2 d_Md_init_338 rfl ?_
  refine c_putI ok 10 (TT := T_Md) (N := 75) (j := 57) (ty := .int) in_Md to_Md n_Md rfl (by decide) rfl wz_Md_bound rfl rfl rfl rfl (Nat.le_of_ble_eq_true rfl) d_Md_init_339 ?_
  refine c_ws (ws' := (h0, .inr (10, [.ref q0, vI 0, .ref q1, .ref q2, .ref q3, vI 0, .ref q4, .ref q5, .ref q6, vI 0, vI 0, .ref q7, vI 0, vI 0, vI 0, vI 0, .ref q8, .ref q9, .ref q10, .ref q11, .ref q12, .ref q13, .ref q14, .ref q15, .ref q16, .ref q17, .ref q18, .ref q19, .ref q20, .ref q21, .ref q22, vI 0, .ref q23, vI 0, .ref q24, .ref q25, .ref q26, .ref q27, vI 0, .ref q28, .ref q29, .ref q30, .ref q31, .ref q32, .ref q33, vI 0, vI 0, vI 0, vI 0, vI 0, .ref q34, .ref q35, .ref q36, .ref q37, vI 0, .ref q38, .ref q39, vI 2, .null, .null, .null, .null, .null, .null, .null, .null, .null, .null, .null, vI 0, vI 0, vI 0, .null, .null, .null])) :: [(q0, .inl (F.2.1.2.2 0, 100, .inl (fun _ => 0))), (q1, .inl (F.2.1.2.2 0, 200, .inl (fun _ => 0))), (q2, .inl (F.2.1.2.2 0, 200, .inl (fun _ => 0))), (q3, .inl (F.2.1.2.2 0, 200, .inl (fun _ => 0))), (q4, .inl (F.2.1.2.2 0, 200, .inl (fun _ => 0))), (q5, .inl (F.2.1.2.2 0, 240, .inl (fun _ => 0))), (q6, .inl (F.2.1.2.2 0, 20, .inl (fun _ => 0))), (q7, .inl (F.2.1.2.2 0, 12, .inl (fun _ => 0))), (q8, .inl (F.2.1.2.2 2, 400, .inl (fun _ => 0))), (q9, .inl (F.2.1.2.2 2, 400, .inl (fun _ => 0))), (q10, .inl (F.2.1.2.2 2, 40, .inl (fun _ => 0))), (q11, .inl (F.2.1.2.2 2, 40, .inl (fun _ => 0))), (q12, .inl (F.2.1.2.2 2, 40, .inl (fun _ => 0))), (q13, .inl (F.2.1.2.2 0, 20, .inl (fun _ => 0))), (q14, .inl (F.2.1.2.2 0, 20, .inl (fun _ => 0))), (q15, .inl (F.2.1.2.2 0, 20, .inl (fun _ => 0))), (q16, .inl (F.2.1.2.2 0, 40, .inl (fun _ => 0))), (q17, .inl (F.2.1.2.2 0, 40, .inl (fun _ => 0))), (q18, .inl (F.2.1.2.2 0, 40, .inl (fun _ => 0))), (q19, .inl (F.2.1.2.2 0, 40, .inl (fun _ => 0))), (q20, .inl (F.2.1.2.2 0, 40, .inl (fun _ => 0))), (q21, .inl (F.2.1.2.2 0, 40, .inl (fun _ => 0))), (q22, .inl (F.2.1.2.2 0, 40, .inl (fun _ => 0))), (q23, .inl (F.2.1.2.2 0, 40, .inl (fun _ => 0))), (q24, .inl (F.2.1.2.2 0, 46080, .inl (fun _ => 0))), (q25, .inl (F.2.1.2.2 0, 9, .inl (fun _ => 0))), (q26, .inl (F.2.1.2.2 0, 9, .inl (fun _ => 0))), (q27, .inl (F.2.1.2.2 0, 9, .inl (fun _ => 0))), (q28, .inl (F.2.1.2.2 0, 12000, .inl (fun _ => 0))), (q29, .inl (F.2.1.2.2 0, 160, .inl (fun _ => 0))), (q30, .inl (F.2.1.2.2 0, 160, .inl (fun _ => 0))), (q31, .inl (F.2.1.2.2 0, 20, .inl (fun _ => 0))), (q32, .inl (F.2.1.2.2 0, 20, .inl (fun _ => 0))), (q33, .inl (F.2.1.2.2 0, 200, .inl (fun _ => 0))), (q34, .inl (F.2.1.2.2 0, 128, .inl (fun _ => 0))), (q35, .inl (F.2.1.2.2 0, 30, .inl (fun _ => 0))), (q36, .inl (F.2.1.2.2 0, 30, .inl (fun _ => 0))), (q37, .inl (F.2.1.2.2 0, 30, .inl (fun _ => 0))), (q38, .inl (F.2.1.2.2 0, 32, .inl (fun _ => 0))), (q39, .inl (F.2.1.2.2 0, 384, .inl (fun _ => 0)))]) rfl ?_
  refine c_aload_n ok 0 d_Md_init_342 rfl rfl ?_
  refine c_bipush ok 8 d_Md_init_343 (by decide) ?_
  refine c_newI ok 8 rfl (Nat.le_of_ble_eq_true rfl) wz_arr_I (Nat.le_of_ble_eq_true rfl) (Nat.le_of_ble_eq_true rfl) d_Md_init_345 (fun q40 => ?_)
  refine c_putF ok 10 (TT := T_Md) (N := 75) (j := 58) (ty := .array .int) in_Md to_Md n_Md rfl (by decide) rfl wz_Md_setGrave rfl hini rfl rfl rfl rfl (Nat.le_of_ble_eq_true rfl) d_Md_init_347 ?_
  refine c_ws (ws' := (h0, .inr (10, [.ref q0, vI 0, .ref q1, .ref q2, .ref q3, vI 0, .ref q4, .ref q5, .ref q6, vI 0, vI 0, .ref q7, vI 0, vI 0, vI 0, vI 0, .ref q8, .ref q9, .ref q10, .ref q11, .ref q12, .ref q13, .ref q14, .ref q15, .ref q16, .ref q17, .ref q18, .ref q19, .ref q20, .ref q21, .ref q22, vI 0, .ref q23, vI 0, .ref q24, .ref q25, .ref q26, .ref q27, vI 0, .ref q28, .ref q29, .ref q30, .ref q31, .ref q32, .ref q33, vI 0, vI 0, vI 0, vI 0, vI 0, .ref q34, .ref q35, .ref q36, .ref q37, vI 0, .ref q38, .ref q39, vI 2, .ref q40, .null, .null, .null, .null, .null, .null, .null, .null, .null, .null, vI 0, vI 0, vI 0, .null, .null, .null])) :: [(q0, .inl (F.2.1.2.2 0, 100, .inl (fun _ => 0))), (q1, .inl (F.2.1.2.2 0, 200, .inl (fun _ => 0))), (q2, .inl (F.2.1.2.2 0, 200, .inl (fun _ => 0))), (q3, .inl (F.2.1.2.2 0, 200, .inl (fun _ => 0))), (q4, .inl (F.2.1.2.2 0, 200, .inl (fun _ => 0))), (q5, .inl (F.2.1.2.2 0, 240, .inl (fun _ => 0))), (q6, .inl (F.2.1.2.2 0, 20, .inl (fun _ => 0))), (q7, .inl (F.2.1.2.2 0, 12, .inl (fun _ => 0))), (q8, .inl (F.2.1.2.2 2, 400, .inl (fun _ => 0))), (q9, .inl (F.2.1.2.2 2, 400, .inl (fun _ => 0))), (q10, .inl (F.2.1.2.2 2, 40, .inl (fun _ => 0))), (q11, .inl (F.2.1.2.2 2, 40, .inl (fun _ => 0))), (q12, .inl (F.2.1.2.2 2, 40, .inl (fun _ => 0))), (q13, .inl (F.2.1.2.2 0, 20, .inl (fun _ => 0))), (q14, .inl (F.2.1.2.2 0, 20, .inl (fun _ => 0))), (q15, .inl (F.2.1.2.2 0, 20, .inl (fun _ => 0))), (q16, .inl (F.2.1.2.2 0, 40, .inl (fun _ => 0))), (q17, .inl (F.2.1.2.2 0, 40, .inl (fun _ => 0))), (q18, .inl (F.2.1.2.2 0, 40, .inl (fun _ => 0))), (q19, .inl (F.2.1.2.2 0, 40, .inl (fun _ => 0))), (q20, .inl (F.2.1.2.2 0, 40, .inl (fun _ => 0))), (q21, .inl (F.2.1.2.2 0, 40, .inl (fun _ => 0))), (q22, .inl (F.2.1.2.2 0, 40, .inl (fun _ => 0))), (q23, .inl (F.2.1.2.2 0, 40, .inl (fun _ => 0))), (q24, .inl (F.2.1.2.2 0, 46080, .inl (fun _ => 0))), (q25, .inl (F.2.1.2.2 0, 9, .inl (fun _ => 0))), (q26, .inl (F.2.1.2.2 0, 9, .inl (fun _ => 0))), (q27, .inl (F.2.1.2.2 0, 9, .inl (fun _ => 0))), (q28, .inl (F.2.1.2.2 0, 12000, .inl (fun _ => 0))), (q29, .inl (F.2.1.2.2 0, 160, .inl (fun _ => 0))), (q30, .inl (F.2.1.2.2 0, 160, .inl (fun _ => 0))), (q31, .inl (F.2.1.2.2 0, 20, .inl (fun _ => 0))), (q32, .inl (F.2.1.2.2 0, 20, .inl (fun _ => 0))), (q33, .inl (F.2.1.2.2 0, 200, .inl (fun _ => 0))), (q34, .inl (F.2.1.2.2 0, 128, .inl (fun _ => 0))), (q35, .inl (F.2.1.2.2 0, 30, .inl (fun _ => 0))), (q36, .inl (F.2.1.2.2 0, 30, .inl (fun _ => 0))), (q37, .inl (F.2.1.2.2 0, 30, .inl (fun _ => 0))), (q38, .inl (F.2.1.2.2 0, 32, .inl (fun _ => 0))), (q39, .inl (F.2.1.2.2 0, 384, .inl (fun _ => 0))), (q40, .inl (F.2.1.2.2 0, 8, .inl (fun _ => 0)))]) rfl ?_
  refine c_aload_n ok 0 d_Md_init_350 rfl rfl ?_
  refine c_bipush ok 8 d_Md_init_351 (by decide) ?_
  refine c_newI ok 8 rfl (Nat.le_of_ble_eq_true rfl) wz_arr_I (Nat.le_of_ble_eq_true rfl) (Nat.le_of_ble_eq_true rfl) d_Md_init_353 (fun q41 => ?_)
  refine c_putF ok 10 (TT := T_Md) (N := 75) (j := 59) (ty := .array .int) in_Md to_Md n_Md rfl (by decide) rfl wz_Md_low rfl hini rfl rfl rfl rfl (Nat.le_of_ble_eq_true rfl) d_Md_init_355 ?_
  refine c_ws (ws' := (h0, .inr (10, [.ref q0, vI 0, .ref q1, .ref q2, .ref q3, vI 0, .ref q4, .ref q5, .ref q6, vI 0, vI 0, .ref q7, vI 0, vI 0, vI 0, vI 0, .ref q8, .ref q9, .ref q10, .ref q11, .ref q12, .ref q13, .ref q14, .ref q15, .ref q16, .ref q17, .ref q18, .ref q19, .ref q20, .ref q21, .ref q22, vI 0, .ref q23, vI 0, .ref q24, .ref q25, .ref q26, .ref q27, vI 0, .ref q28, .ref q29, .ref q30, .ref q31, .ref q32, .ref q33, vI 0, vI 0, vI 0, vI 0, vI 0, .ref q34, .ref q35, .ref q36, .ref q37, vI 0, .ref q38, .ref q39, vI 2, .ref q40, .ref q41, .null, .null, .null, .null, .null, .null, .null, .null, .null, vI 0, vI 0, vI 0, .null, .null, .null])) :: [(q0, .inl (F.2.1.2.2 0, 100, .inl (fun _ => 0))), (q1, .inl (F.2.1.2.2 0, 200, .inl (fun _ => 0))), (q2, .inl (F.2.1.2.2 0, 200, .inl (fun _ => 0))), (q3, .inl (F.2.1.2.2 0, 200, .inl (fun _ => 0))), (q4, .inl (F.2.1.2.2 0, 200, .inl (fun _ => 0))), (q5, .inl (F.2.1.2.2 0, 240, .inl (fun _ => 0))), (q6, .inl (F.2.1.2.2 0, 20, .inl (fun _ => 0))), (q7, .inl (F.2.1.2.2 0, 12, .inl (fun _ => 0))), (q8, .inl (F.2.1.2.2 2, 400, .inl (fun _ => 0))), (q9, .inl (F.2.1.2.2 2, 400, .inl (fun _ => 0))), (q10, .inl (F.2.1.2.2 2, 40, .inl (fun _ => 0))), (q11, .inl (F.2.1.2.2 2, 40, .inl (fun _ => 0))), (q12, .inl (F.2.1.2.2 2, 40, .inl (fun _ => 0))), (q13, .inl (F.2.1.2.2 0, 20, .inl (fun _ => 0))), (q14, .inl (F.2.1.2.2 0, 20, .inl (fun _ => 0))), (q15, .inl (F.2.1.2.2 0, 20, .inl (fun _ => 0))), (q16, .inl (F.2.1.2.2 0, 40, .inl (fun _ => 0))), (q17, .inl (F.2.1.2.2 0, 40, .inl (fun _ => 0))), (q18, .inl (F.2.1.2.2 0, 40, .inl (fun _ => 0))), (q19, .inl (F.2.1.2.2 0, 40, .inl (fun _ => 0))), (q20, .inl (F.2.1.2.2 0, 40, .inl (fun _ => 0))), (q21, .inl (F.2.1.2.2 0, 40, .inl (fun _ => 0))), (q22, .inl (F.2.1.2.2 0, 40, .inl (fun _ => 0))), (q23, .inl (F.2.1.2.2 0, 40, .inl (fun _ => 0))), (q24, .inl (F.2.1.2.2 0, 46080, .inl (fun _ => 0))), (q25, .inl (F.2.1.2.2 0, 9, .inl (fun _ => 0))), (q26, .inl (F.2.1.2.2 0, 9, .inl (fun _ => 0))), (q27, .inl (F.2.1.2.2 0, 9, .inl (fun _ => 0))), (q28, .inl (F.2.1.2.2 0, 12000, .inl (fun _ => 0))), (q29, .inl (F.2.1.2.2 0, 160, .inl (fun _ => 0))), (q30, .inl (F.2.1.2.2 0, 160, .inl (fun _ => 0))), (q31, .inl (F.2.1.2.2 0, 20, .inl (fun _ => 0))), (q32, .inl (F.2.1.2.2 0, 20, .inl (fun _ => 0))), (q33, .inl (F.2.1.2.2 0, 200, .inl (fun _ => 0))), (q34, .inl (F.2.1.2.2 0, 128, .inl (fun _ => 0))), (q35, .inl (F.2.1.2.2 0, 30, .inl (fun _ => 0))), (q36, .inl (F.2.1.2.2 0, 30, .inl (fun _ => 0))), (q37, .inl (F.2.1.2.2 0, 30, .inl (fun _ => 0))), (q38, .inl (F.2.1.2.2 0, 32, .inl (fun _ => 0))), (q39, .inl (F.2.1.2.2 0, 384, .inl (fun _ => 0))), (q40, .inl (F.2.1.2.2 0, 8, .inl (fun _ => 0))), (q41, .inl (F.2.1.2.2 0, 8, .inl (fun _ => 0)))]) rfl ?_
  refine c_aload_n ok 0 d_Md_init_358 rfl rfl ?_
  refine c_bipush ok 8 d_Md_init_359 (by decide) ?_
  refine c_newI ok 8 rfl (Nat.le_of_ble_eq_true rfl) wz_arr_I (Nat.le_of_ble_eq_true rfl) (Nat.le_of_ble_eq_true rfl) d_Md_init_361 (fun q42 => ?_)
  refine c_putF ok 10 (TT := T_Md) (N := 75) (j := 60) (ty := .array .int) in_Md to_Md n_Md rfl (by decide) rfl wz_Md_high rfl hini rfl rfl rfl rfl (Nat.le_of_ble_eq_true rfl) d_Md_init_363 ?_
  refine c_ws (ws' := (h0, .inr (10, [.ref q0, vI 0, .ref q1, .ref q2, .ref q3, vI 0, .ref q4, .ref q5, .ref q6, vI 0, vI 0, .ref q7, vI 0, vI 0, vI 0, vI 0, .ref q8, .ref q9, .ref q10, .ref q11, .ref q12, .ref q13, .ref q14, .ref q15, .ref q16, .ref q17, .ref q18, .ref q19, .ref q20, .ref q21, .ref q22, vI 0, .ref q23, vI 0, .ref q24, .ref q25, .ref q26, .ref q27, vI 0, .ref q28, .ref q29, .ref q30, .ref q31, .ref q32, .ref q33, vI 0, vI 0, vI 0, vI 0, vI 0, .ref q34, .ref q35, .ref q36, .ref q37, vI 0, .ref q38, .ref q39, vI 2, .ref q40, .ref q41, .ref q42, .null, .null, .null, .null, .null, .null, .null, .null, vI 0, vI 0, vI 0, .null, .null, .null])) :: [(q0, .inl (F.2.1.2.2 0, 100, .inl (fun _ => 0))), (q1, .inl (F.2.1.2.2 0, 200, .inl (fun _ => 0))), (q2, .inl (F.2.1.2.2 0, 200, .inl (fun _ => 0))), (q3, .inl (F.2.1.2.2 0, 200, .inl (fun _ => 0))), (q4, .inl (F.2.1.2.2 0, 200, .inl (fun _ => 0))), (q5, .inl (F.2.1.2.2 0, 240, .inl (fun _ => 0))), (q6, .inl (F.2.1.2.2 0, 20, .inl (fun _ => 0))), (q7, .inl (F.2.1.2.2 0, 12, .inl (fun _ => 0))), (q8, .inl (F.2.1.2.2 2, 400, .inl (fun _ => 0))), (q9, .inl (F.2.1.2.2 2, 400, .inl (fun _ => 0))), (q10, .inl (F.2.1.2.2 2, 40, .inl (fun _ => 0))), (q11, .inl (F.2.1.2.2 2, 40, .inl (fun _ => 0))), (q12, .inl (F.2.1.2.2 2, 40, .inl (fun _ => 0))), (q13, .inl (F.2.1.2.2 0, 20, .inl (fun _ => 0))), (q14, .inl (F.2.1.2.2 0, 20, .inl (fun _ => 0))), (q15, .inl (F.2.1.2.2 0, 20, .inl (fun _ => 0))), (q16, .inl (F.2.1.2.2 0, 40, .inl (fun _ => 0))), (q17, .inl (F.2.1.2.2 0, 40, .inl (fun _ => 0))), (q18, .inl (F.2.1.2.2 0, 40, .inl (fun _ => 0))), (q19, .inl (F.2.1.2.2 0, 40, .inl (fun _ => 0))), (q20, .inl (F.2.1.2.2 0, 40, .inl (fun _ => 0))), (q21, .inl (F.2.1.2.2 0, 40, .inl (fun _ => 0))), (q22, .inl (F.2.1.2.2 0, 40, .inl (fun _ => 0))), (q23, .inl (F.2.1.2.2 0, 40, .inl (fun _ => 0))), (q24, .inl (F.2.1.2.2 0, 46080, .inl (fun _ => 0))), (q25, .inl (F.2.1.2.2 0, 9, .inl (fun _ => 0))), (q26, .inl (F.2.1.2.2 0, 9, .inl (fun _ => 0))), (q27, .inl (F.2.1.2.2 0, 9, .inl (fun _ => 0))), (q28, .inl (F.2.1.2.2 0, 12000, .inl (fun _ => 0))), (q29, .inl (F.2.1.2.2 0, 160, .inl (fun _ => 0))), (q30, .inl (F.2.1.2.2 0, 160, .inl (fun _ => 0))), (q31, .inl (F.2.1.2.2 0, 20, .inl (fun _ => 0))), (q32, .inl (F.2.1.2.2 0, 20, .inl (fun _ => 0))), (q33, .inl (F.2.1.2.2 0, 200, .inl (fun _ => 0))), (q34, .inl (F.2.1.2.2 0, 128, .inl (fun _ => 0))), (q35, .inl (F.2.1.2.2 0, 30, .inl (fun _ => 0))), (q36, .inl (F.2.1.2.2 0, 30, .inl (fun _ => 0))), (q37, .inl (F.2.1.2.2 0, 30, .inl (fun _ => 0))), (q38, .inl (F.2.1.2.2 0, 32, .inl (fun _ => 0))), (q39, .inl (F.2.1.2.2 0, 384, .inl (fun _ => 0))), (q40, .inl (F.2.1.2.2 0, 8, .inl (fun _ => 0))), (q41, .inl (F.2.1.2.2 0, 8, .inl (fun _ => 0))), (q42, .inl (F.2.1.2.2 0, 8, .inl (fun _ => 0)))]) rfl ?_
  refine c_aload_n ok 0 d_Md_init_366 rfl rfl ?_
  refine c_bipush ok 8 d_Md_init_367 (by decide) ?_
  refine c_newI ok 8 rfl (Nat.le_of_ble_eq_true rfl) wz_arr_I (Nat.le_of_ble_eq_true rfl) (Nat.le_of_ble_eq_true rfl) d_Md_init_369 (fun q43 => ?_)
  refine c_putF ok 10 (TT := T_Md) (N := 75) (j := 61) (ty := .array .int) in_Md to_Md n_Md rfl (by decide) rfl wz_Md_has rfl hini rfl rfl rfl rfl (Nat.le_of_ble_eq_true rfl) d_Md_init_371 ?_
  refine c_ws (ws' := (h0, .inr (10, [.ref q0, vI 0, .ref q1, .ref q2, .ref q3, vI 0, .ref q4, .ref q5, .ref q6, vI 0, vI 0, .ref q7, vI 0, vI 0, vI 0, vI 0, .ref q8, .ref q9, .ref q10, .ref q11, .ref q12, .ref q13, .ref q14, .ref q15, .ref q16, .ref q17, .ref q18, .ref q19, .ref q20, .ref q21, .ref q22, vI 0, .ref q23, vI 0, .ref q24, .ref q25, .ref q26, .ref q27, vI 0, .ref q28, .ref q29, .ref q30, .ref q31, .ref q32, .ref q33, vI 0, vI 0, vI 0, vI 0, vI 0, .ref q34, .ref q35, .ref q36, .ref q37, vI 0, .ref q38, .ref q39, vI 2, .ref q40, .ref q41, .ref q42, .ref q43, .null, .null, .null, .null, .null, .null, .null, vI 0, vI 0, vI 0, .null, .null, .null])) :: [(q0, .inl (F.2.1.2.2 0, 100, .inl (fun _ => 0))), (q1, .inl (F.2.1.2.2 0, 200, .inl (fun _ => 0))), (q2, .inl (F.2.1.2.2 0, 200, .inl (fun _ => 0))), (q3, .inl (F.2.1.2.2 0, 200, .inl (fun _ => 0))), (q4, .inl (F.2.1.2.2 0, 200, .inl (fun _ => 0))), (q5, .inl (F.2.1.2.2 0, 240, .inl (fun _ => 0))), (q6, .inl (F.2.1.2.2 0, 20, .inl (fun _ => 0))), (q7, .inl (F.2.1.2.2 0, 12, .inl (fun _ => 0))), (q8, .inl (F.2.1.2.2 2, 400, .inl (fun _ => 0))), (q9, .inl (F.2.1.2.2 2, 400, .inl (fun _ => 0))), (q10, .inl (F.2.1.2.2 2, 40, .inl (fun _ => 0))), (q11, .inl (F.2.1.2.2 2, 40, .inl (fun _ => 0))), (q12, .inl (F.2.1.2.2 2, 40, .inl (fun _ => 0))), (q13, .inl (F.2.1.2.2 0, 20, .inl (fun _ => 0))), (q14, .inl (F.2.1.2.2 0, 20, .inl (fun _ => 0))), (q15, .inl (F.2.1.2.2 0, 20, .inl (fun _ => 0))), (q16, .inl (F.2.1.2.2 0, 40, .inl (fun _ => 0))), (q17, .inl (F.2.1.2.2 0, 40, .inl (fun _ => 0))), (q18, .inl (F.2.1.2.2 0, 40, .inl (fun _ => 0))), (q19, .inl (F.2.1.2.2 0, 40, .inl (fun _ => 0))), (q20, .inl (F.2.1.2.2 0, 40, .inl (fun _ => 0))), (q21, .inl (F.2.1.2.2 0, 40, .inl (fun _ => 0))), (q22, .inl (F.2.1.2.2 0, 40, .inl (fun _ => 0))), (q23, .inl (F.2.1.2.2 0, 40, .inl (fun _ => 0))), (q24, .inl (F.2.1.2.2 0, 46080, .inl (fun _ => 0))), (q25, .inl (F.2.1.2.2 0, 9, .inl (fun _ => 0))), (q26, .inl (F.2.1.2.2 0, 9, .inl (fun _ => 0))), (q27, .inl (F.2.1.2.2 0, 9, .inl (fun _ => 0))), (q28, .inl (F.2.1.2.2 0, 12000, .inl (fun _ => 0))), (q29, .inl (F.2.1.2.2 0, 160, .inl (fun _ => 0))), (q30, .inl (F.2.1.2.2 0, 160, .inl (fun _ => 0))), (q31, .inl (F.2.1.2.2 0, 20, .inl (fun _ => 0))), (q32, .inl (F.2.1.2.2 0, 20, .inl (fun _ => 0))), (q33, .inl (F.2.1.2.2 0, 200, .inl (fun _ => 0))), (q34, .inl (F.2.1.2.2 0, 128, .inl (fun _ => 0))), (q35, .inl (F.2.1.2.2 0, 30, .inl (fun _ => 0))), (q36, .inl (F.2.1.2.2 0, 30, .inl (fun _ => 0))), (q37, .inl (F.2.1.2.2 0, 30, .inl (fun _ => 0))), (q38, .inl (F.2.1.2.2 0, 32, .inl (fun _ => 0))), (q39, .inl (F.2.1.2.2 0, 384, .inl (fun _ => 0))), (q40, .inl (F.2.1.2.2 0, 8, .inl (fun _ => 0))), (q41, .inl (F.2.1.2.2 0, 8, .inl (fun _ => 0))), (q42, .inl (F.2.1.2.2 0, 8, .inl (fun _ => 0))), (q43, .inl (F.2.1.2.2 0, 8, .inl (fun _ => 0)))]) rfl ?_
  refine c_aload_n ok 0 d_Md_init_374 rfl rfl ?_
  refine c_bipush ok 8 d_Md_init_375 (by decide) ?_
  refine c_newI ok 8 rfl (Nat.le_of_ble_eq_true rfl) wz_arr_I (Nat.le_of_ble_eq_true rfl) (Nat.le_of_ble_eq_true rfl) d_Md_init_377 (fun q44 => ?_)
  refine c_putF ok 10 (TT := T_Md) (N := 75) (j := 62) (ty := .array .int) in_Md to_Md n_Md rfl (by decide) rfl wz_Md_hasNot rfl hini rfl rfl rfl rfl (Nat.le_of_ble_eq_true rfl) d_Md_init_379 ?_
  refine c_ws (ws' := (h0, .inr (10, [.ref q0, vI 0, .ref q1, .ref q2, .ref q3, vI 0, .ref q4, .ref q5, .ref q6, vI 0, vI 0, .ref q7, vI 0, vI 0, vI 0, vI 0, .ref q8, .ref q9, .ref q10, .ref q11, .ref q12, .ref q13, .ref q14, .ref q15, .ref q16, .ref q17, .ref q18, .ref q19, .ref q20, .ref q21, .ref q22, vI 0, .ref q23, vI 0, .ref q24, .ref q25, .ref q26, .ref q27, vI 0, .ref q28, .ref q29, .ref q30, .ref q31, .ref q32, .ref q33, vI 0, vI 0, vI 0, vI 0, vI 0, .ref q34, .ref q35, .ref q36, .ref q37, vI 0, .ref q38, .ref q39, vI 2, .ref q40, .ref q41, .ref q42, .ref q43, .ref q44, .null, .null, .null, .null, .null, .null, vI 0, vI 0, vI 0, .null, .null, .null])) :: [(q0, .inl (F.2.1.2.2 0, 100, .inl (fun _ => 0))), (q1, .inl (F.2.1.2.2 0, 200, .inl (fun _ => 0))), (q2, .inl (F.2.1.2.2 0, 200, .inl (fun _ => 0))), (q3, .inl (F.2.1.2.2 0, 200, .inl (fun _ => 0))), (q4, .inl (F.2.1.2.2 0, 200, .inl (fun _ => 0))), (q5, .inl (F.2.1.2.2 0, 240, .inl (fun _ => 0))), (q6, .inl (F.2.1.2.2 0, 20, .inl (fun _ => 0))), (q7, .inl (F.2.1.2.2 0, 12, .inl (fun _ => 0))), (q8, .inl (F.2.1.2.2 2, 400, .inl (fun _ => 0))), (q9, .inl (F.2.1.2.2 2, 400, .inl (fun _ => 0))), (q10, .inl (F.2.1.2.2 2, 40, .inl (fun _ => 0))), (q11, .inl (F.2.1.2.2 2, 40, .inl (fun _ => 0))), (q12, .inl (F.2.1.2.2 2, 40, .inl (fun _ => 0))), (q13, .inl (F.2.1.2.2 0, 20, .inl (fun _ => 0))), (q14, .inl (F.2.1.2.2 0, 20, .inl (fun _ => 0))), (q15, .inl (F.2.1.2.2 0, 20, .inl (fun _ => 0))), (q16, .inl (F.2.1.2.2 0, 40, .inl (fun _ => 0))), (q17, .inl (F.2.1.2.2 0, 40, .inl (fun _ => 0))), (q18, .inl (F.2.1.2.2 0, 40, .inl (fun _ => 0))), (q19, .inl (F.2.1.2.2 0, 40, .inl (fun _ => 0))), (q20, .inl (F.2.1.2.2 0, 40, .inl (fun _ => 0))), (q21, .inl (F.2.1.2.2 0, 40, .inl (fun _ => 0))), (q22, .inl (F.2.1.2.2 0, 40, .inl (fun _ => 0))), (q23, .inl (F.2.1.2.2 0, 40, .inl (fun _ => 0))), (q24, .inl (F.2.1.2.2 0, 46080, .inl (fun _ => 0))), (q25, .inl (F.2.1.2.2 0, 9, .inl (fun _ => 0))), (q26, .inl (F.2.1.2.2 0, 9, .inl (fun _ => 0))), (q27, .inl (F.2.1.2.2 0, 9, .inl (fun _ => 0))), (q28, .inl (F.2.1.2.2 0, 12000, .inl (fun _ => 0))), (q29, .inl (F.2.1.2.2 0, 160, .inl (fun _ => 0))), (q30, .inl (F.2.1.2.2 0, 160, .inl (fun _ => 0))), (q31, .inl (F.2.1.2.2 0, 20, .inl (fun _ => 0))), (q32, .inl (F.2.1.2.2 0, 20, .inl (fun _ => 0))), (q33, .inl (F.2.1.2.2 0, 200, .inl (fun _ => 0))), (q34, .inl (F.2.1.2.2 0, 128, .inl (fun _ => 0))), (q35, .inl (F.2.1.2.2 0, 30, .inl (fun _ => 0))), (q36, .inl (F.2.1.2.2 0, 30, .inl (fun _ => 0))), (q37, .inl (F.2.1.2.2 0, 30, .inl (fun _ => 0))), (q38, .inl (F.2.1.2.2 0, 32, .inl (fun _ => 0))), (q39, .inl (F.2.1.2.2 0, 384, .inl (fun _ => 0))), (q40, .inl (F.2.1.2.2 0, 8, .inl (fun _ => 0))), (q41, .inl (F.2.1.2.2 0, 8, .inl (fun _ => 0))), (q42, .inl (F.2.1.2.2 0, 8, .inl (fun _ => 0))), (q43, .inl (F.2.1.2.2 0, 8, .inl (fun _ => 0))), (q44, .inl (F.2.1.2.2 0, 8, .inl (fun _ => 0)))]) rfl ?_
  refine c_aload_n ok 0 d_Md_init_382 rfl rfl ?_
  refine c_bipush ok 8 d_Md_init_383 (by decide) ?_
  refine c_newI ok 8 rfl (Nat.le_of_ble_eq_true rfl) wz_arr_I (Nat.le_of_ble_eq_true rfl) (Nat.le_of_ble_eq_true rfl) d_Md_init_385 (fun q45 => ?_)
  refine c_putF ok 10 (TT := T_Md) (N := 75) (j := 63) (ty := .array .int) in_Md to_Md n_Md rfl (by decide) rfl wz_Md_given rfl hini rfl rfl rfl rfl (Nat.le_of_ble_eq_true rfl) d_Md_init_387 ?_
  refine c_ws (ws' := (h0, .inr (10, [.ref q0, vI 0, .ref q1, .ref q2, .ref q3, vI 0, .ref q4, .ref q5, .ref q6, vI 0, vI 0, .ref q7, vI 0, vI 0, vI 0, vI 0, .ref q8, .ref q9, .ref q10, .ref q11, .ref q12, .ref q13, .ref q14, .ref q15, .ref q16, .ref q17, .ref q18, .ref q19, .ref q20, .ref q21, .ref q22, vI 0, .ref q23, vI 0, .ref q24, .ref q25, .ref q26, .ref q27, vI 0, .ref q28, .ref q29, .ref q30, .ref q31, .ref q32, .ref q33, vI 0, vI 0, vI 0, vI 0, vI 0, .ref q34, .ref q35, .ref q36, .ref q37, vI 0, .ref q38, .ref q39, vI 2, .ref q40, .ref q41, .ref q42, .ref q43, .ref q44, .ref q45, .null, .null, .null, .null, .null, vI 0, vI 0, vI 0, .null, .null, .null])) :: [(q0, .inl (F.2.1.2.2 0, 100, .inl (fun _ => 0))), (q1, .inl (F.2.1.2.2 0, 200, .inl (fun _ => 0))), (q2, .inl (F.2.1.2.2 0, 200, .inl (fun _ => 0))), (q3, .inl (F.2.1.2.2 0, 200, .inl (fun _ => 0))), (q4, .inl (F.2.1.2.2 0, 200, .inl (fun _ => 0))), (q5, .inl (F.2.1.2.2 0, 240, .inl (fun _ => 0))), (q6, .inl (F.2.1.2.2 0, 20, .inl (fun _ => 0))), (q7, .inl (F.2.1.2.2 0, 12, .inl (fun _ => 0))), (q8, .inl (F.2.1.2.2 2, 400, .inl (fun _ => 0))), (q9, .inl (F.2.1.2.2 2, 400, .inl (fun _ => 0))), (q10, .inl (F.2.1.2.2 2, 40, .inl (fun _ => 0))), (q11, .inl (F.2.1.2.2 2, 40, .inl (fun _ => 0))), (q12, .inl (F.2.1.2.2 2, 40, .inl (fun _ => 0))), (q13, .inl (F.2.1.2.2 0, 20, .inl (fun _ => 0))), (q14, .inl (F.2.1.2.2 0, 20, .inl (fun _ => 0))), (q15, .inl (F.2.1.2.2 0, 20, .inl (fun _ => 0))), (q16, .inl (F.2.1.2.2 0, 40, .inl (fun _ => 0))), (q17, .inl (F.2.1.2.2 0, 40, .inl (fun _ => 0))), (q18, .inl (F.2.1.2.2 0, 40, .inl (fun _ => 0))), (q19, .inl (F.2.1.2.2 0, 40, .inl (fun _ => 0))), (q20, .inl (F.2.1.2.2 0, 40, .inl (fun _ => 0))), (q21, .inl (F.2.1.2.2 0, 40, .inl (fun _ => 0))), (q22, .inl (F.2.1.2.2 0, 40, .inl (fun _ => 0))), (q23, .inl (F.2.1.2.2 0, 40, .inl (fun _ => 0))), (q24, .inl (F.2.1.2.2 0, 46080, .inl (fun _ => 0))), (q25, .inl (F.2.1.2.2 0, 9, .inl (fun _ => 0))), (q26, .inl (F.2.1.2.2 0, 9, .inl (fun _ => 0))), (q27, .inl (F.2.1.2.2 0, 9, .inl (fun _ => 0))), (q28, .inl (F.2.1.2.2 0, 12000, .inl (fun _ => 0))), (q29, .inl (F.2.1.2.2 0, 160, .inl (fun _ => 0))), (q30, .inl (F.2.1.2.2 0, 160, .inl (fun _ => 0))), (q31, .inl (F.2.1.2.2 0, 20, .inl (fun _ => 0))), (q32, .inl (F.2.1.2.2 0, 20, .inl (fun _ => 0))), (q33, .inl (F.2.1.2.2 0, 200, .inl (fun _ => 0))), (q34, .inl (F.2.1.2.2 0, 128, .inl (fun _ => 0))), (q35, .inl (F.2.1.2.2 0, 30, .inl (fun _ => 0))), (q36, .inl (F.2.1.2.2 0, 30, .inl (fun _ => 0))), (q37, .inl (F.2.1.2.2 0, 30, .inl (fun _ => 0))), (q38, .inl (F.2.1.2.2 0, 32, .inl (fun _ => 0))), (q39, .inl (F.2.1.2.2 0, 384, .inl (fun _ => 0))), (q40, .inl (F.2.1.2.2 0, 8, .inl (fun _ => 0))), (q41, .inl (F.2.1.2.2 0, 8, .inl (fun _ => 0))), (q42, .inl (F.2.1.2.2 0, 8, .inl (fun _ => 0))), (q43, .inl (F.2.1.2.2 0, 8, .inl (fun _ => 0))), (q44, .inl (F.2.1.2.2 0, 8, .inl (fun _ => 0))), (q45, .inl (F.2.1.2.2 0, 8, .inl (fun _ => 0)))]) rfl ?_
  refine c_aload_n ok 0 d_Md_init_390 rfl rfl ?_
  refine c_bipush ok 8 d_Md_init_391 (by decide) ?_
  refine c_newI ok 8 rfl (Nat.le_of_ble_eq_true rfl) wz_arr_I (Nat.le_of_ble_eq_true rfl) (Nat.le_of_ble_eq_true rfl) d_Md_init_393 (fun q46 => ?_)
  refine c_putF ok 10 (TT := T_Md) (N := 75) (j := 64) (ty := .array .int) in_Md to_Md n_Md rfl (by decide) rfl wz_Md_givenAt rfl hini rfl rfl rfl rfl (Nat.le_of_ble_eq_true rfl) d_Md_init_395 ?_
  refine c_ws (ws' := (h0, .inr (10, [.ref q0, vI 0, .ref q1, .ref q2, .ref q3, vI 0, .ref q4, .ref q5, .ref q6, vI 0, vI 0, .ref q7, vI 0, vI 0, vI 0, vI 0, .ref q8, .ref q9, .ref q10, .ref q11, .ref q12, .ref q13, .ref q14, .ref q15, .ref q16, .ref q17, .ref q18, .ref q19, .ref q20, .ref q21, .ref q22, vI 0, .ref q23, vI 0, .ref q24, .ref q25, .ref q26, .ref q27, vI 0, .ref q28, .ref q29, .ref q30, .ref q31, .ref q32, .ref q33, vI 0, vI 0, vI 0, vI 0, vI 0, .ref q34, .ref q35, .ref q36, .ref q37, vI 0, .ref q38, .ref q39, vI 2, .ref q40, .ref q41, .ref q42, .ref q43, .ref q44, .ref q45, .ref q46, .null, .null, .null, .null, vI 0, vI 0, vI 0, .null, .null, .null])) :: [(q0, .inl (F.2.1.2.2 0, 100, .inl (fun _ => 0))), (q1, .inl (F.2.1.2.2 0, 200, .inl (fun _ => 0))), (q2, .inl (F.2.1.2.2 0, 200, .inl (fun _ => 0))), (q3, .inl (F.2.1.2.2 0, 200, .inl (fun _ => 0))), (q4, .inl (F.2.1.2.2 0, 200, .inl (fun _ => 0))), (q5, .inl (F.2.1.2.2 0, 240, .inl (fun _ => 0))), (q6, .inl (F.2.1.2.2 0, 20, .inl (fun _ => 0))), (q7, .inl (F.2.1.2.2 0, 12, .inl (fun _ => 0))), (q8, .inl (F.2.1.2.2 2, 400, .inl (fun _ => 0))), (q9, .inl (F.2.1.2.2 2, 400, .inl (fun _ => 0))), (q10, .inl (F.2.1.2.2 2, 40, .inl (fun _ => 0))), (q11, .inl (F.2.1.2.2 2, 40, .inl (fun _ => 0))), (q12, .inl (F.2.1.2.2 2, 40, .inl (fun _ => 0))), (q13, .inl (F.2.1.2.2 0, 20, .inl (fun _ => 0))), (q14, .inl (F.2.1.2.2 0, 20, .inl (fun _ => 0))), (q15, .inl (F.2.1.2.2 0, 20, .inl (fun _ => 0))), (q16, .inl (F.2.1.2.2 0, 40, .inl (fun _ => 0))), (q17, .inl (F.2.1.2.2 0, 40, .inl (fun _ => 0))), (q18, .inl (F.2.1.2.2 0, 40, .inl (fun _ => 0))), (q19, .inl (F.2.1.2.2 0, 40, .inl (fun _ => 0))), (q20, .inl (F.2.1.2.2 0, 40, .inl (fun _ => 0))), (q21, .inl (F.2.1.2.2 0, 40, .inl (fun _ => 0))), (q22, .inl (F.2.1.2.2 0, 40, .inl (fun _ => 0))), (q23, .inl (F.2.1.2.2 0, 40, .inl (fun _ => 0))), (q24, .inl (F.2.1.2.2 0, 46080, .inl (fun _ => 0))), (q25, .inl (F.2.1.2.2 0, 9, .inl (fun _ => 0))), (q26, .inl (F.2.1.2.2 0, 9, .inl (fun _ => 0))), (q27, .inl (F.2.1.2.2 0, 9, .inl (fun _ => 0))), (q28, .inl (F.2.1.2.2 0, 12000, .inl (fun _ => 0))), (q29, .inl (F.2.1.2.2 0, 160, .inl (fun _ => 0))), (q30, .inl (F.2.1.2.2 0, 160, .inl (fun _ => 0))), (q31, .inl (F.2.1.2.2 0, 20, .inl (fun _ => 0))), (q32, .inl (F.2.1.2.2 0, 20, .inl (fun _ => 0))), (q33, .inl (F.2.1.2.2 0, 200, .inl (fun _ => 0))), (q34, .inl (F.2.1.2.2 0, 128, .inl (fun _ => 0))), (q35, .inl (F.2.1.2.2 0, 30, .inl (fun _ => 0))), (q36, .inl (F.2.1.2.2 0, 30, .inl (fun _ => 0))), (q37, .inl (F.2.1.2.2 0, 30, .inl (fun _ => 0))), (q38, .inl (F.2.1.2.2 0, 32, .inl (fun _ => 0))), (q39, .inl (F.2.1.2.2 0, 384, .inl (fun _ => 0))), (q40, .inl (F.2.1.2.2 0, 8, .inl (fun _ => 0))), (q41, .inl (F.2.1.2.2 0, 8, .inl (fun _ => 0))), (q42, .inl (F.2.1.2.2 0, 8, .inl (fun _ => 0))), (q43, .inl (F.2.1.2.2 0, 8, .inl (fun _ => 0))), (q44, .inl (F.2.1.2.2 0, 8, .inl (fun _ => 0))), (q45, .inl (F.2.1.2.2 0, 8, .inl (fun _ => 0))), (q46, .inl (F.2.1.2.2 0, 8, .inl (fun _ => 0)))]) rfl ?_
  refine c_aload_n ok 0 d_Md_init_398 rfl rfl ?_
  refine c_bipush ok 10 d_Md_init_399 (by decide) ?_
  refine c_newI ok 10 rfl (Nat.le_of_ble_eq_true rfl) wz_arr_I (Nat.le_of_ble_eq_true rfl) (Nat.le_of_ble_eq_true rfl) d_Md_init_401 (fun q47 => ?_)
  refine c_putF ok 10 (TT := T_Md) (N := 75) (j := 65) (ty := .array .int) in_Md to_Md n_Md rfl (by decide) rfl wz_Md_missing rfl hini rfl rfl rfl rfl (Nat.le_of_ble_eq_true rfl) d_Md_init_403 ?_
  refine c_ws (ws' := (h0, .inr (10, [.ref q0, vI 0, .ref q1, .ref q2, .ref q3, vI 0, .ref q4, .ref q5, .ref q6, vI 0, vI 0, .ref q7, vI 0, vI 0, vI 0, vI 0, .ref q8, .ref q9, .ref q10, .ref q11, .ref q12, .ref q13, .ref q14, .ref q15, .ref q16, .ref q17, .ref q18, .ref q19, .ref q20, .ref q21, .ref q22, vI 0, .ref q23, vI 0, .ref q24, .ref q25, .ref q26, .ref q27, vI 0, .ref q28, .ref q29, .ref q30, .ref q31, .ref q32, .ref q33, vI 0, vI 0, vI 0, vI 0, vI 0, .ref q34, .ref q35, .ref q36, .ref q37, vI 0, .ref q38, .ref q39, vI 2, .ref q40, .ref q41, .ref q42, .ref q43, .ref q44, .ref q45, .ref q46, .ref q47, .null, .null, .null, vI 0, vI 0, vI 0, .null, .null, .null])) :: [(q0, .inl (F.2.1.2.2 0, 100, .inl (fun _ => 0))), (q1, .inl (F.2.1.2.2 0, 200, .inl (fun _ => 0))), (q2, .inl (F.2.1.2.2 0, 200, .inl (fun _ => 0))), (q3, .inl (F.2.1.2.2 0, 200, .inl (fun _ => 0))), (q4, .inl (F.2.1.2.2 0, 200, .inl (fun _ => 0))), (q5, .inl (F.2.1.2.2 0, 240, .inl (fun _ => 0))), (q6, .inl (F.2.1.2.2 0, 20, .inl (fun _ => 0))), (q7, .inl (F.2.1.2.2 0, 12, .inl (fun _ => 0))), (q8, .inl (F.2.1.2.2 2, 400, .inl (fun _ => 0))), (q9, .inl (F.2.1.2.2 2, 400, .inl (fun _ => 0))), (q10, .inl (F.2.1.2.2 2, 40, .inl (fun _ => 0))), (q11, .inl (F.2.1.2.2 2, 40, .inl (fun _ => 0))), (q12, .inl (F.2.1.2.2 2, 40, .inl (fun _ => 0))), (q13, .inl (F.2.1.2.2 0, 20, .inl (fun _ => 0))), (q14, .inl (F.2.1.2.2 0, 20, .inl (fun _ => 0))), (q15, .inl (F.2.1.2.2 0, 20, .inl (fun _ => 0))), (q16, .inl (F.2.1.2.2 0, 40, .inl (fun _ => 0))), (q17, .inl (F.2.1.2.2 0, 40, .inl (fun _ => 0))), (q18, .inl (F.2.1.2.2 0, 40, .inl (fun _ => 0))), (q19, .inl (F.2.1.2.2 0, 40, .inl (fun _ => 0))), (q20, .inl (F.2.1.2.2 0, 40, .inl (fun _ => 0))), (q21, .inl (F.2.1.2.2 0, 40, .inl (fun _ => 0))), (q22, .inl (F.2.1.2.2 0, 40, .inl (fun _ => 0))), (q23, .inl (F.2.1.2.2 0, 40, .inl (fun _ => 0))), (q24, .inl (F.2.1.2.2 0, 46080, .inl (fun _ => 0))), (q25, .inl (F.2.1.2.2 0, 9, .inl (fun _ => 0))), (q26, .inl (F.2.1.2.2 0, 9, .inl (fun _ => 0))), (q27, .inl (F.2.1.2.2 0, 9, .inl (fun _ => 0))), (q28, .inl (F.2.1.2.2 0, 12000, .inl (fun _ => 0))), (q29, .inl (F.2.1.2.2 0, 160, .inl (fun _ => 0))), (q30, .inl (F.2.1.2.2 0, 160, .inl (fun _ => 0))), (q31, .inl (F.2.1.2.2 0, 20, .inl (fun _ => 0))), (q32, .inl (F.2.1.2.2 0, 20, .inl (fun _ => 0))), (q33, .inl (F.2.1.2.2 0, 200, .inl (fun _ => 0))), (q34, .inl (F.2.1.2.2 0, 128, .inl (fun _ => 0))), (q35, .inl (F.2.1.2.2 0, 30, .inl (fun _ => 0))), (q36, .inl (F.2.1.2.2 0, 30, .inl (fun _ => 0))), (q37, .inl (F.2.1.2.2 0, 30, .inl (fun _ => 0))), (q38, .inl (F.2.1.2.2 0, 32, .inl (fun _ => 0))), (q39, .inl (F.2.1.2.2 0, 384, .inl (fun _ => 0))), (q40, .inl (F.2.1.2.2 0, 8, .inl (fun _ => 0))), (q41, .inl (F.2.1.2.2 0, 8, .inl (fun _ => 0))), (q42, .inl (F.2.1.2.2 0, 8, .inl (fun _ => 0))), (q43, .inl (F.2.1.2.2 0, 8, .inl (fun _ => 0))), (q44, .inl (F.2.1.2.2 0, 8, .inl (fun _ => 0))), (q45, .inl (F.2.1.2.2 0, 8, .inl (fun _ => 0))), (q46, .inl (F.2.1.2.2 0, 8, .inl (fun _ => 0))), (q47, .inl (F.2.1.2.2 0, 10, .inl (fun _ => 0)))]) rfl ?_
  refine c_aload_n ok 0 d_Md_init_406 rfl rfl ?_
  refine c_bipush ok 10 d_Md_init_407 (by decide) ?_
  refine c_newI ok 10 rfl (Nat.le_of_ble_eq_true rfl) wz_arr_I (Nat.le_of_ble_eq_true rfl) (Nat.le_of_ble_eq_true rfl) d_Md_init_409 (fun q48 => ?_)
  refine c_putF ok 10 (TT := T_Md) (N := 75) (j := 66) (ty := .array .int) in_Md to_Md n_Md rfl (by decide) rfl wz_Md_height rfl hini rfl rfl rfl rfl (Nat.le_of_ble_eq_true rfl) d_Md_init_411 ?_
  refine c_ws (ws' := (h0, .inr (10, [.ref q0, vI 0, .ref q1, .ref q2, .ref q3, vI 0, .ref q4, .ref q5, .ref q6, vI 0, vI 0, .ref q7, vI 0, vI 0, vI 0, vI 0, .ref q8, .ref q9, .ref q10, .ref q11, .ref q12, .ref q13, .ref q14, .ref q15, .ref q16, .ref q17, .ref q18, .ref q19, .ref q20, .ref q21, .ref q22, vI 0, .ref q23, vI 0, .ref q24, .ref q25, .ref q26, .ref q27, vI 0, .ref q28, .ref q29, .ref q30, .ref q31, .ref q32, .ref q33, vI 0, vI 0, vI 0, vI 0, vI 0, .ref q34, .ref q35, .ref q36, .ref q37, vI 0, .ref q38, .ref q39, vI 2, .ref q40, .ref q41, .ref q42, .ref q43, .ref q44, .ref q45, .ref q46, .ref q47, .ref q48, .null, .null, vI 0, vI 0, vI 0, .null, .null, .null])) :: [(q0, .inl (F.2.1.2.2 0, 100, .inl (fun _ => 0))), (q1, .inl (F.2.1.2.2 0, 200, .inl (fun _ => 0))), (q2, .inl (F.2.1.2.2 0, 200, .inl (fun _ => 0))), (q3, .inl (F.2.1.2.2 0, 200, .inl (fun _ => 0))), (q4, .inl (F.2.1.2.2 0, 200, .inl (fun _ => 0))), (q5, .inl (F.2.1.2.2 0, 240, .inl (fun _ => 0))), (q6, .inl (F.2.1.2.2 0, 20, .inl (fun _ => 0))), (q7, .inl (F.2.1.2.2 0, 12, .inl (fun _ => 0))), (q8, .inl (F.2.1.2.2 2, 400, .inl (fun _ => 0))), (q9, .inl (F.2.1.2.2 2, 400, .inl (fun _ => 0))), (q10, .inl (F.2.1.2.2 2, 40, .inl (fun _ => 0))), (q11, .inl (F.2.1.2.2 2, 40, .inl (fun _ => 0))), (q12, .inl (F.2.1.2.2 2, 40, .inl (fun _ => 0))), (q13, .inl (F.2.1.2.2 0, 20, .inl (fun _ => 0))), (q14, .inl (F.2.1.2.2 0, 20, .inl (fun _ => 0))), (q15, .inl (F.2.1.2.2 0, 20, .inl (fun _ => 0))), (q16, .inl (F.2.1.2.2 0, 40, .inl (fun _ => 0))), (q17, .inl (F.2.1.2.2 0, 40, .inl (fun _ => 0))), (q18, .inl (F.2.1.2.2 0, 40, .inl (fun _ => 0))), (q19, .inl (F.2.1.2.2 0, 40, .inl (fun _ => 0))), (q20, .inl (F.2.1.2.2 0, 40, .inl (fun _ => 0))), (q21, .inl (F.2.1.2.2 0, 40, .inl (fun _ => 0))), (q22, .inl (F.2.1.2.2 0, 40, .inl (fun _ => 0))), (q23, .inl (F.2.1.2.2 0, 40, .inl (fun _ => 0))), (q24, .inl (F.2.1.2.2 0, 46080, .inl (fun _ => 0))), (q25, .inl (F.2.1.2.2 0, 9, .inl (fun _ => 0))), (q26, .inl (F.2.1.2.2 0, 9, .inl (fun _ => 0))), (q27, .inl (F.2.1.2.2 0, 9, .inl (fun _ => 0))), (q28, .inl (F.2.1.2.2 0, 12000, .inl (fun _ => 0))), (q29, .inl (F.2.1.2.2 0, 160, .inl (fun _ => 0))), (q30, .inl (F.2.1.2.2 0, 160, .inl (fun _ => 0))), (q31, .inl (F.2.1.2.2 0, 20, .inl (fun _ => 0))), (q32, .inl (F.2.1.2.2 0, 20, .inl (fun _ => 0))), (q33, .inl (F.2.1.2.2 0, 200, .inl (fun _ => 0))), (q34, .inl (F.2.1.2.2 0, 128, .inl (fun _ => 0))), (q35, .inl (F.2.1.2.2 0, 30, .inl (fun _ => 0))), (q36, .inl (F.2.1.2.2 0, 30, .inl (fun _ => 0))), (q37, .inl (F.2.1.2.2 0, 30, .inl (fun _ => 0))), (q38, .inl (F.2.1.2.2 0, 32, .inl (fun _ => 0))), (q39, .inl (F.2.1.2.2 0, 384, .inl (fun _ => 0))), (q40, .inl (F.2.1.2.2 0, 8, .inl (fun _ => 0))), (q41, .inl (F.2.1.2.2 0, 8, .inl (fun _ => 0))), (q42, .inl (F.2.1.2.2 0, 8, .inl (fun _ => 0))), (q43, .inl (F.2.1.2.2 0, 8, .inl (fun _ => 0))), (q44, .inl (F.2.1.2.2 0, 8, .inl (fun _ => 0))), (q45, .inl (F.2.1.2.2 0, 8, .inl (fun _ => 0))), (q46, .inl (F.2.1.2.2 0, 8, .inl (fun _ => 0))), (q47, .inl (F.2.1.2.2 0, 10, .inl (fun _ => 0))), (q48, .inl (F.2.1.2.2 0, 10, .inl (fun _ => 0)))]) rfl ?_
  refine c_aload_n ok 0 d_Md_init_414 rfl rfl ?_
  refine c_bipush ok 10 d_Md_init_415 (by decide) ?_
  refine c_newI ok 10 rfl (Nat.le_of_ble_eq_true rfl) wz_arr_I (Nat.le_of_ble_eq_true rfl) (Nat.le_of_ble_eq_true rfl) d_Md_init_417 (fun q49 => ?_)
  refine c_putF ok 10 (TT := T_Md) (N := 75) (j := 67) (ty := .array .int) in_Md to_Md n_Md rfl (by decide) rfl wz_Md_had rfl hini rfl rfl rfl rfl (Nat.le_of_ble_eq_true rfl) d_Md_init_419 ?_
  refine c_ws (ws' := (h0, .inr (10, [.ref q0, vI 0, .ref q1, .ref q2, .ref q3, vI 0, .ref q4, .ref q5, .ref q6, vI 0, vI 0, .ref q7, vI 0, vI 0, vI 0, vI 0, .ref q8, .ref q9, .ref q10, .ref q11, .ref q12, .ref q13, .ref q14, .ref q15, .ref q16, .ref q17, .ref q18, .ref q19, .ref q20, .ref q21, .ref q22, vI 0, .ref q23, vI 0, .ref q24, .ref q25, .ref q26, .ref q27, vI 0, .ref q28, .ref q29, .ref q30, .ref q31, .ref q32, .ref q33, vI 0, vI 0, vI 0, vI 0, vI 0, .ref q34, .ref q35, .ref q36, .ref q37, vI 0, .ref q38, .ref q39, vI 2, .ref q40, .ref q41, .ref q42, .ref q43, .ref q44, .ref q45, .ref q46, .ref q47, .ref q48, .ref q49, .null, vI 0, vI 0, vI 0, .null, .null, .null])) :: [(q0, .inl (F.2.1.2.2 0, 100, .inl (fun _ => 0))), (q1, .inl (F.2.1.2.2 0, 200, .inl (fun _ => 0))), (q2, .inl (F.2.1.2.2 0, 200, .inl (fun _ => 0))), (q3, .inl (F.2.1.2.2 0, 200, .inl (fun _ => 0))), (q4, .inl (F.2.1.2.2 0, 200, .inl (fun _ => 0))), (q5, .inl (F.2.1.2.2 0, 240, .inl (fun _ => 0))), (q6, .inl (F.2.1.2.2 0, 20, .inl (fun _ => 0))), (q7, .inl (F.2.1.2.2 0, 12, .inl (fun _ => 0))), (q8, .inl (F.2.1.2.2 2, 400, .inl (fun _ => 0))), (q9, .inl (F.2.1.2.2 2, 400, .inl (fun _ => 0))), (q10, .inl (F.2.1.2.2 2, 40, .inl (fun _ => 0))), (q11, .inl (F.2.1.2.2 2, 40, .inl (fun _ => 0))), (q12, .inl (F.2.1.2.2 2, 40, .inl (fun _ => 0))), (q13, .inl (F.2.1.2.2 0, 20, .inl (fun _ => 0))), (q14, .inl (F.2.1.2.2 0, 20, .inl (fun _ => 0))), (q15, .inl (F.2.1.2.2 0, 20, .inl (fun _ => 0))), (q16, .inl (F.2.1.2.2 0, 40, .inl (fun _ => 0))), (q17, .inl (F.2.1.2.2 0, 40, .inl (fun _ => 0))), (q18, .inl (F.2.1.2.2 0, 40, .inl (fun _ => 0))), (q19, .inl (F.2.1.2.2 0, 40, .inl (fun _ => 0))), (q20, .inl (F.2.1.2.2 0, 40, .inl (fun _ => 0))), (q21, .inl (F.2.1.2.2 0, 40, .inl (fun _ => 0))), (q22, .inl (F.2.1.2.2 0, 40, .inl (fun _ => 0))), (q23, .inl (F.2.1.2.2 0, 40, .inl (fun _ => 0))), (q24, .inl (F.2.1.2.2 0, 46080, .inl (fun _ => 0))), (q25, .inl (F.2.1.2.2 0, 9, .inl (fun _ => 0))), (q26, .inl (F.2.1.2.2 0, 9, .inl (fun _ => 0))), (q27, .inl (F.2.1.2.2 0, 9, .inl (fun _ => 0))), (q28, .inl (F.2.1.2.2 0, 12000, .inl (fun _ => 0))), (q29, .inl (F.2.1.2.2 0, 160, .inl (fun _ => 0))), (q30, .inl (F.2.1.2.2 0, 160, .inl (fun _ => 0))), (q31, .inl (F.2.1.2.2 0, 20, .inl (fun _ => 0))), (q32, .inl (F.2.1.2.2 0, 20, .inl (fun _ => 0))), (q33, .inl (F.2.1.2.2 0, 200, .inl (fun _ => 0))), (q34, .inl (F.2.1.2.2 0, 128, .inl (fun _ => 0))), (q35, .inl (F.2.1.2.2 0, 30, .inl (fun _ => 0))), (q36, .inl (F.2.1.2.2 0, 30, .inl (fun _ => 0))), (q37, .inl (F.2.1.2.2 0, 30, .inl (fun _ => 0))), (q38, .inl (F.2.1.2.2 0, 32, .inl (fun _ => 0))), (q39, .inl (F.2.1.2.2 0, 384, .inl (fun _ => 0))), (q40, .inl (F.2.1.2.2 0, 8, .inl (fun _ => 0))), (q41, .inl (F.2.1.2.2 0, 8, .inl (fun _ => 0))), (q42, .inl (F.2.1.2.2 0, 8, .inl (fun _ => 0))), (q43, .inl (F.2.1.2.2 0, 8, .inl (fun _ => 0))), (q44, .inl (F.2.1.2.2 0, 8, .inl (fun _ => 0))), (q45, .inl (F.2.1.2.2 0, 8, .inl (fun _ => 0))), (q46, .inl (F.2.1.2.2 0, 8, .inl (fun _ => 0))), (q47, .inl (F.2.1.2.2 0, 10, .inl (fun _ => 0))), (q48, .inl (F.2.1.2.2 0, 10, .inl (fun _ => 0))), (q49, .inl (F.2.1.2.2 0, 10, .inl (fun _ => 0)))]) rfl ?_
  refine c_aload_n ok 0 d_Md_init_422 rfl rfl ?_
  refine c_bipush ok 10 d_Md_init_423 (by decide) ?_
  refine c_newI ok 10 rfl (Nat.le_of_ble_eq_true rfl) wz_arr_I (Nat.le_of_ble_eq_true rfl) (Nat.le_of_ble_eq_true rfl) d_Md_init_425 (fun q50 => ?_)
  refine c_putF ok 10 (TT := T_Md) (N := 75) (j := 68) (ty := .array .int) in_Md to_Md n_Md rfl (by decide) rfl wz_Md_hadNot rfl hini rfl rfl rfl rfl (Nat.le_of_ble_eq_true rfl) d_Md_init_427 ?_
  refine c_ws (ws' := (h0, .inr (10, [.ref q0, vI 0, .ref q1, .ref q2, .ref q3, vI 0, .ref q4, .ref q5, .ref q6, vI 0, vI 0, .ref q7, vI 0, vI 0, vI 0, vI 0, .ref q8, .ref q9, .ref q10, .ref q11, .ref q12, .ref q13, .ref q14, .ref q15, .ref q16, .ref q17, .ref q18, .ref q19, .ref q20, .ref q21, .ref q22, vI 0, .ref q23, vI 0, .ref q24, .ref q25, .ref q26, .ref q27, vI 0, .ref q28, .ref q29, .ref q30, .ref q31, .ref q32, .ref q33, vI 0, vI 0, vI 0, vI 0, vI 0, .ref q34, .ref q35, .ref q36, .ref q37, vI 0, .ref q38, .ref q39, vI 2, .ref q40, .ref q41, .ref q42, .ref q43, .ref q44, .ref q45, .ref q46, .ref q47, .ref q48, .ref q49, .ref q50, vI 0, vI 0, vI 0, .null, .null, .null])) :: [(q0, .inl (F.2.1.2.2 0, 100, .inl (fun _ => 0))), (q1, .inl (F.2.1.2.2 0, 200, .inl (fun _ => 0))), (q2, .inl (F.2.1.2.2 0, 200, .inl (fun _ => 0))), (q3, .inl (F.2.1.2.2 0, 200, .inl (fun _ => 0))), (q4, .inl (F.2.1.2.2 0, 200, .inl (fun _ => 0))), (q5, .inl (F.2.1.2.2 0, 240, .inl (fun _ => 0))), (q6, .inl (F.2.1.2.2 0, 20, .inl (fun _ => 0))), (q7, .inl (F.2.1.2.2 0, 12, .inl (fun _ => 0))), (q8, .inl (F.2.1.2.2 2, 400, .inl (fun _ => 0))), (q9, .inl (F.2.1.2.2 2, 400, .inl (fun _ => 0))), (q10, .inl (F.2.1.2.2 2, 40, .inl (fun _ => 0))), (q11, .inl (F.2.1.2.2 2, 40, .inl (fun _ => 0))), (q12, .inl (F.2.1.2.2 2, 40, .inl (fun _ => 0))), (q13, .inl (F.2.1.2.2 0, 20, .inl (fun _ => 0))), (q14, .inl (F.2.1.2.2 0, 20, .inl (fun _ => 0))), (q15, .inl (F.2.1.2.2 0, 20, .inl (fun _ => 0))), (q16, .inl (F.2.1.2.2 0, 40, .inl (fun _ => 0))), (q17, .inl (F.2.1.2.2 0, 40, .inl (fun _ => 0))), (q18, .inl (F.2.1.2.2 0, 40, .inl (fun _ => 0))), (q19, .inl (F.2.1.2.2 0, 40, .inl (fun _ => 0))), (q20, .inl (F.2.1.2.2 0, 40, .inl (fun _ => 0))), (q21, .inl (F.2.1.2.2 0, 40, .inl (fun _ => 0))), (q22, .inl (F.2.1.2.2 0, 40, .inl (fun _ => 0))), (q23, .inl (F.2.1.2.2 0, 40, .inl (fun _ => 0))), (q24, .inl (F.2.1.2.2 0, 46080, .inl (fun _ => 0))), (q25, .inl (F.2.1.2.2 0, 9, .inl (fun _ => 0))), (q26, .inl (F.2.1.2.2 0, 9, .inl (fun _ => 0))), (q27, .inl (F.2.1.2.2 0, 9, .inl (fun _ => 0))), (q28, .inl (F.2.1.2.2 0, 12000, .inl (fun _ => 0))), (q29, .inl (F.2.1.2.2 0, 160, .inl (fun _ => 0))), (q30, .inl (F.2.1.2.2 0, 160, .inl (fun _ => 0))), (q31, .inl (F.2.1.2.2 0, 20, .inl (fun _ => 0))), (q32, .inl (F.2.1.2.2 0, 20, .inl (fun _ => 0))), (q33, .inl (F.2.1.2.2 0, 200, .inl (fun _ => 0))), (q34, .inl (F.2.1.2.2 0, 128, .inl (fun _ => 0))), (q35, .inl (F.2.1.2.2 0, 30, .inl (fun _ => 0))), (q36, .inl (F.2.1.2.2 0, 30, .inl (fun _ => 0))), (q37, .inl (F.2.1.2.2 0, 30, .inl (fun _ => 0))), (q38, .inl (F.2.1.2.2 0, 32, .inl (fun _ => 0))), (q39, .inl (F.2.1.2.2 0, 384, .inl (fun _ => 0))), (q40, .inl (F.2.1.2.2 0, 8, .inl (fun _ => 0))), (q41, .inl (F.2.1.2.2 0, 8, .inl (fun _ => 0))), (q42, .inl (F.2.1.2.2 0, 8, .inl (fun _ => 0))), (q43, .inl (F.2.1.2.2 0, 8, .inl (fun _ => 0))), (q44, .inl (F.2.1.2.2 0, 8, .inl (fun _ => 0))), (q45, .inl (F.2.1.2.2 0, 8, .inl (fun _ => 0))), (q46, .inl (F.2.1.2.2 0, 8, .inl (fun _ => 0))), (q47, .inl (F.2.1.2.2 0, 10, .inl (fun _ => 0))), (q48, .inl (F.2.1.2.2 0, 10, .inl (fun _ => 0))), (q49, .inl (F.2.1.2.2 0, 10, .inl (fun _ => 0))), (q50, .inl (F.2.1.2.2 0, 10, .inl (fun _ => 0)))]) rfl ?_
  refine c_aload_n ok 0 d_Md_init_430 rfl rfl ?_
  refine c_bipush ok 10 d_Md_init_431 (by decide) ?_
  refine c_newI ok 10 rfl (Nat.le_of_ble_eq_true rfl) wz_arr_I (Nat.le_of_ble_eq_true rfl) (Nat.le_of_ble_eq_true rfl) d_Md_init_433 (fun q51 => ?_)
  refine c_putF ok 10 (TT := T_Md) (N := 75) (j := 72) (ty := .array .int) in_Md to_Md n_Md rfl (by decide) rfl wz_Md_first1 rfl hini rfl rfl rfl rfl (Nat.le_of_ble_eq_true rfl) d_Md_init_435 ?_
  refine c_ws (ws' := (h0, .inr (10, [.ref q0, vI 0, .ref q1, .ref q2, .ref q3, vI 0, .ref q4, .ref q5, .ref q6, vI 0, vI 0, .ref q7, vI 0, vI 0, vI 0, vI 0, .ref q8, .ref q9, .ref q10, .ref q11, .ref q12, .ref q13, .ref q14, .ref q15, .ref q16, .ref q17, .ref q18, .ref q19, .ref q20, .ref q21, .ref q22, vI 0, .ref q23, vI 0, .ref q24, .ref q25, .ref q26, .ref q27, vI 0, .ref q28, .ref q29, .ref q30, .ref q31, .ref q32, .ref q33, vI 0, vI 0, vI 0, vI 0, vI 0, .ref q34, .ref q35, .ref q36, .ref q37, vI 0, .ref q38, .ref q39, vI 2, .ref q40, .ref q41, .ref q42, .ref q43, .ref q44, .ref q45, .ref q46, .ref q47, .ref q48, .ref q49, .ref q50, vI 0, vI 0, vI 0, .ref q51, .null, .null])) :: [(q0, .inl (F.2.1.2.2 0, 100, .inl (fun _ => 0))), (q1, .inl (F.2.1.2.2 0, 200, .inl (fun _ => 0))), (q2, .inl (F.2.1.2.2 0, 200, .inl (fun _ => 0))), (q3, .inl (F.2.1.2.2 0, 200, .inl (fun _ => 0))), (q4, .inl (F.2.1.2.2 0, 200, .inl (fun _ => 0))), (q5, .inl (F.2.1.2.2 0, 240, .inl (fun _ => 0))), (q6, .inl (F.2.1.2.2 0, 20, .inl (fun _ => 0))), (q7, .inl (F.2.1.2.2 0, 12, .inl (fun _ => 0))), (q8, .inl (F.2.1.2.2 2, 400, .inl (fun _ => 0))), (q9, .inl (F.2.1.2.2 2, 400, .inl (fun _ => 0))), (q10, .inl (F.2.1.2.2 2, 40, .inl (fun _ => 0))), (q11, .inl (F.2.1.2.2 2, 40, .inl (fun _ => 0))), (q12, .inl (F.2.1.2.2 2, 40, .inl (fun _ => 0))), (q13, .inl (F.2.1.2.2 0, 20, .inl (fun _ => 0))), (q14, .inl (F.2.1.2.2 0, 20, .inl (fun _ => 0))), (q15, .inl (F.2.1.2.2 0, 20, .inl (fun _ => 0))), (q16, .inl (F.2.1.2.2 0, 40, .inl (fun _ => 0))), (q17, .inl (F.2.1.2.2 0, 40, .inl (fun _ => 0))), (q18, .inl (F.2.1.2.2 0, 40, .inl (fun _ => 0))), (q19, .inl (F.2.1.2.2 0, 40, .inl (fun _ => 0))), (q20, .inl (F.2.1.2.2 0, 40, .inl (fun _ => 0))), (q21, .inl (F.2.1.2.2 0, 40, .inl (fun _ => 0))), (q22, .inl (F.2.1.2.2 0, 40, .inl (fun _ => 0))), (q23, .inl (F.2.1.2.2 0, 40, .inl (fun _ => 0))), (q24, .inl (F.2.1.2.2 0, 46080, .inl (fun _ => 0))), (q25, .inl (F.2.1.2.2 0, 9, .inl (fun _ => 0))), (q26, .inl (F.2.1.2.2 0, 9, .inl (fun _ => 0))), (q27, .inl (F.2.1.2.2 0, 9, .inl (fun _ => 0))), (q28, .inl (F.2.1.2.2 0, 12000, .inl (fun _ => 0))), (q29, .inl (F.2.1.2.2 0, 160, .inl (fun _ => 0))), (q30, .inl (F.2.1.2.2 0, 160, .inl (fun _ => 0))), (q31, .inl (F.2.1.2.2 0, 20, .inl (fun _ => 0))), (q32, .inl (F.2.1.2.2 0, 20, .inl (fun _ => 0))), (q33, .inl (F.2.1.2.2 0, 200, .inl (fun _ => 0))), (q34, .inl (F.2.1.2.2 0, 128, .inl (fun _ => 0))), (q35, .inl (F.2.1.2.2 0, 30, .inl (fun _ => 0))), (q36, .inl (F.2.1.2.2 0, 30, .inl (fun _ => 0))), (q37, .inl (F.2.1.2.2 0, 30, .inl (fun _ => 0))), (q38, .inl (F.2.1.2.2 0, 32, .inl (fun _ => 0))), (q39, .inl (F.2.1.2.2 0, 384, .inl (fun _ => 0))), (q40, .inl (F.2.1.2.2 0, 8, .inl (fun _ => 0))), (q41, .inl (F.2.1.2.2 0, 8, .inl (fun _ => 0))), (q42, .inl (F.2.1.2.2 0, 8, .inl (fun _ => 0))), (q43, .inl (F.2.1.2.2 0, 8, .inl (fun _ => 0))), (q44, .inl (F.2.1.2.2 0, 8, .inl (fun _ => 0))), (q45, .inl (F.2.1.2.2 0, 8, .inl (fun _ => 0))), (q46, .inl (F.2.1.2.2 0, 8, .inl (fun _ => 0))), (q47, .inl (F.2.1.2.2 0, 10, .inl (fun _ => 0))), (q48, .inl (F.2.1.2.2 0, 10, .inl (fun _ => 0))), (q49, .inl (F.2.1.2.2 0, 10, .inl (fun _ => 0))), (q50, .inl (F.2.1.2.2 0, 10, .inl (fun _ => 0))), (q51, .inl (F.2.1.2.2 0, 10, .inl (fun _ => 0)))]) rfl ?_
  refine c_aload_n ok 0 d_Md_init_438 rfl rfl ?_
  refine c_sipush ok 1024 d_Md_init_439 (by decide) ?_
  refine c_newI ok 1024 rfl (Nat.le_of_ble_eq_true rfl) wz_arr_I (Nat.le_of_ble_eq_true rfl) (Nat.le_of_ble_eq_true rfl) d_Md_init_442 (fun q52 => ?_)
  refine c_putF ok 10 (TT := T_Md) (N := 75) (j := 73) (ty := .array .int) in_Md to_Md n_Md rfl (by decide) rfl wz_Md_ways rfl hini rfl rfl rfl rfl (Nat.le_of_ble_eq_true rfl) d_Md_init_444 ?_
  refine c_ws (ws' := (h0, .inr (10, [.ref q0, vI 0, .ref q1, .ref q2, .ref q3, vI 0, .ref q4, .ref q5, .ref q6, vI 0, vI 0, .ref q7, vI 0, vI 0, vI 0, vI 0, .ref q8, .ref q9, .ref q10, .ref q11, .ref q12, .ref q13, .ref q14, .ref q15, .ref q16, .ref q17, .ref q18, .ref q19, .ref q20, .ref q21, .ref q22, vI 0, .ref q23, vI 0, .ref q24, .ref q25, .ref q26, .ref q27, vI 0, .ref q28, .ref q29, .ref q30, .ref q31, .ref q32, .ref q33, vI 0, vI 0, vI 0, vI 0, vI 0, .ref q34, .ref q35, .ref q36, .ref q37, vI 0, .ref q38, .ref q39, vI 2, .ref q40, .ref q41, .ref q42, .ref q43, .ref q44, .ref q45, .ref q46, .ref q47, .ref q48, .ref q49, .ref q50, vI 0, vI 0, vI 0, .ref q51, .ref q52, .null])) :: [(q0, .inl (F.2.1.2.2 0, 100, .inl (fun _ => 0))), (q1, .inl (F.2.1.2.2 0, 200, .inl (fun _ => 0))), (q2, .inl (F.2.1.2.2 0, 200, .inl (fun _ => 0))), (q3, .inl (F.2.1.2.2 0, 200, .inl (fun _ => 0))), (q4, .inl (F.2.1.2.2 0, 200, .inl (fun _ => 0))), (q5, .inl (F.2.1.2.2 0, 240, .inl (fun _ => 0))), (q6, .inl (F.2.1.2.2 0, 20, .inl (fun _ => 0))), (q7, .inl (F.2.1.2.2 0, 12, .inl (fun _ => 0))), (q8, .inl (F.2.1.2.2 2, 400, .inl (fun _ => 0))), (q9, .inl (F.2.1.2.2 2, 400, .inl (fun _ => 0))), (q10, .inl (F.2.1.2.2 2, 40, .inl (fun _ => 0))), (q11, .inl (F.2.1.2.2 2, 40, .inl (fun _ => 0))), (q12, .inl (F.2.1.2.2 2, 40, .inl (fun _ => 0))), (q13, .inl (F.2.1.2.2 0, 20, .inl (fun _ => 0))), (q14, .inl (F.2.1.2.2 0, 20, .inl (fun _ => 0))), (q15, .inl (F.2.1.2.2 0, 20, .inl (fun _ => 0))), (q16, .inl (F.2.1.2.2 0, 40, .inl (fun _ => 0))), (q17, .inl (F.2.1.2.2 0, 40, .inl (fun _ => 0))), (q18, .inl (F.2.1.2.2 0, 40, .inl (fun _ => 0))), (q19, .inl (F.2.1.2.2 0, 40, .inl (fun _ => 0))), (q20, .inl (F.2.1.2.2 0, 40, .inl (fun _ => 0))), (q21, .inl (F.2.1.2.2 0, 40, .inl (fun _ => 0))), (q22, .inl (F.2.1.2.2 0, 40, .inl (fun _ => 0))), (q23, .inl (F.2.1.2.2 0, 40, .inl (fun _ => 0))), (q24, .inl (F.2.1.2.2 0, 46080, .inl (fun _ => 0))), (q25, .inl (F.2.1.2.2 0, 9, .inl (fun _ => 0))), (q26, .inl (F.2.1.2.2 0, 9, .inl (fun _ => 0))), (q27, .inl (F.2.1.2.2 0, 9, .inl (fun _ => 0))), (q28, .inl (F.2.1.2.2 0, 12000, .inl (fun _ => 0))), (q29, .inl (F.2.1.2.2 0, 160, .inl (fun _ => 0))), (q30, .inl (F.2.1.2.2 0, 160, .inl (fun _ => 0))), (q31, .inl (F.2.1.2.2 0, 20, .inl (fun _ => 0))), (q32, .inl (F.2.1.2.2 0, 20, .inl (fun _ => 0))), (q33, .inl (F.2.1.2.2 0, 200, .inl (fun _ => 0))), (q34, .inl (F.2.1.2.2 0, 128, .inl (fun _ => 0))), (q35, .inl (F.2.1.2.2 0, 30, .inl (fun _ => 0))), (q36, .inl (F.2.1.2.2 0, 30, .inl (fun _ => 0))), (q37, .inl (F.2.1.2.2 0, 30, .inl (fun _ => 0))), (q38, .inl (F.2.1.2.2 0, 32, .inl (fun _ => 0))), (q39, .inl (F.2.1.2.2 0, 384, .inl (fun _ => 0))), (q40, .inl (F.2.1.2.2 0, 8, .inl (fun _ => 0))), (q41, .inl (F.2.1.2.2 0, 8, .inl (fun _ => 0))), (q42, .inl (F.2.1.2.2 0, 8, .inl (fun _ => 0))), (q43, .inl (F.2.1.2.2 0, 8, .inl (fun _ => 0))), (q44, .inl (F.2.1.2.2 0, 8, .inl (fun _ => 0))), (q45, .inl (F.2.1.2.2 0, 8, .inl (fun _ => 0))), (q46, .inl (F.2.1.2.2 0, 8, .inl (fun _ => 0))), (q47, .inl (F.2.1.2.2 0, 10, .inl (fun _ => 0))), (q48, .inl (F.2.1.2.2 0, 10, .inl (fun _ => 0))), (q49, .inl (F.2.1.2.2 0, 10, .inl (fun _ => 0))), (q50, .inl (F.2.1.2.2 0, 10, .inl (fun _ => 0))), (q51, .inl (F.2.1.2.2 0, 10, .inl (fun _ => 0))), (q52, .inl (F.2.1.2.2 0, 1024, .inl (fun _ => 0)))]) rfl ?_
  refine c_aload_n ok 0 d_Md_init_447 rfl rfl ?_
  refine c_sipush ok 1024 d_Md_init_448 (by decide) ?_
  refine c_newI ok 1024 rfl (Nat.le_of_ble_eq_true rfl) wz_arr_I (Nat.le_of_ble_eq_true rfl) (Nat.le_of_ble_eq_true rfl) d_Md_init_451 (fun q53 => ?_)
  refine c_putF ok 10 (TT := T_Md) (N := 75) (j := 74) (ty := .array .int) in_Md to_Md n_Md rfl (by decide) rfl wz_Md_waysBefore rfl hini rfl rfl rfl rfl (Nat.le_of_ble_eq_true rfl) d_Md_init_453 ?_
  refine c_ws (ws' := (h0, .inr (10, [.ref q0, vI 0, .ref q1, .ref q2, .ref q3, vI 0, .ref q4, .ref q5, .ref q6, vI 0, vI 0, .ref q7, vI 0, vI 0, vI 0, vI 0, .ref q8, .ref q9, .ref q10, .ref q11, .ref q12, .ref q13, .ref q14, .ref q15, .ref q16, .ref q17, .ref q18, .ref q19, .ref q20, .ref q21, .ref q22, vI 0, .ref q23, vI 0, .ref q24, .ref q25, .ref q26, .ref q27, vI 0, .ref q28, .ref q29, .ref q30, .ref q31, .ref q32, .ref q33, vI 0, vI 0, vI 0, vI 0, vI 0, .ref q34, .ref q35, .ref q36, .ref q37, vI 0, .ref q38, .ref q39, vI 2, .ref q40, .ref q41, .ref q42, .ref q43, .ref q44, .ref q45, .ref q46, .ref q47, .ref q48, .ref q49, .ref q50, vI 0, vI 0, vI 0, .ref q51, .ref q52, .ref q53])) :: [(q0, .inl (F.2.1.2.2 0, 100, .inl (fun _ => 0))), (q1, .inl (F.2.1.2.2 0, 200, .inl (fun _ => 0))), (q2, .inl (F.2.1.2.2 0, 200, .inl (fun _ => 0))), (q3, .inl (F.2.1.2.2 0, 200, .inl (fun _ => 0))), (q4, .inl (F.2.1.2.2 0, 200, .inl (fun _ => 0))), (q5, .inl (F.2.1.2.2 0, 240, .inl (fun _ => 0))), (q6, .inl (F.2.1.2.2 0, 20, .inl (fun _ => 0))), (q7, .inl (F.2.1.2.2 0, 12, .inl (fun _ => 0))), (q8, .inl (F.2.1.2.2 2, 400, .inl (fun _ => 0))), (q9, .inl (F.2.1.2.2 2, 400, .inl (fun _ => 0))), (q10, .inl (F.2.1.2.2 2, 40, .inl (fun _ => 0))), (q11, .inl (F.2.1.2.2 2, 40, .inl (fun _ => 0))), (q12, .inl (F.2.1.2.2 2, 40, .inl (fun _ => 0))), (q13, .inl (F.2.1.2.2 0, 20, .inl (fun _ => 0))), (q14, .inl (F.2.1.2.2 0, 20, .inl (fun _ => 0))), (q15, .inl (F.2.1.2.2 0, 20, .inl (fun _ => 0))), (q16, .inl (F.2.1.2.2 0, 40, .inl (fun _ => 0))), (q17, .inl (F.2.1.2.2 0, 40, .inl (fun _ => 0))), (q18, .inl (F.2.1.2.2 0, 40, .inl (fun _ => 0))), (q19, .inl (F.2.1.2.2 0, 40, .inl (fun _ => 0))), (q20, .inl (F.2.1.2.2 0, 40, .inl (fun _ => 0))), (q21, .inl (F.2.1.2.2 0, 40, .inl (fun _ => 0))), (q22, .inl (F.2.1.2.2 0, 40, .inl (fun _ => 0))), (q23, .inl (F.2.1.2.2 0, 40, .inl (fun _ => 0))), (q24, .inl (F.2.1.2.2 0, 46080, .inl (fun _ => 0))), (q25, .inl (F.2.1.2.2 0, 9, .inl (fun _ => 0))), (q26, .inl (F.2.1.2.2 0, 9, .inl (fun _ => 0))), (q27, .inl (F.2.1.2.2 0, 9, .inl (fun _ => 0))), (q28, .inl (F.2.1.2.2 0, 12000, .inl (fun _ => 0))), (q29, .inl (F.2.1.2.2 0, 160, .inl (fun _ => 0))), (q30, .inl (F.2.1.2.2 0, 160, .inl (fun _ => 0))), (q31, .inl (F.2.1.2.2 0, 20, .inl (fun _ => 0))), (q32, .inl (F.2.1.2.2 0, 20, .inl (fun _ => 0))), (q33, .inl (F.2.1.2.2 0, 200, .inl (fun _ => 0))), (q34, .inl (F.2.1.2.2 0, 128, .inl (fun _ => 0))), (q35, .inl (F.2.1.2.2 0, 30, .inl (fun _ => 0))), (q36, .inl (F.2.1.2.2 0, 30, .inl (fun _ => 0))), (q37, .inl (F.2.1.2.2 0, 30, .inl (fun _ => 0))), (q38, .inl (F.2.1.2.2 0, 32, .inl (fun _ => 0))), (q39, .inl (F.2.1.2.2 0, 384, .inl (fun _ => 0))), (q40, .inl (F.2.1.2.2 0, 8, .inl (fun _ => 0))), (q41, .inl (F.2.1.2.2 0, 8, .inl (fun _ => 0))), (q42, .inl (F.2.1.2.2 0, 8, .inl (fun _ => 0))), (q43, .inl (F.2.1.2.2 0, 8, .inl (fun _ => 0))), (q44, .inl (F.2.1.2.2 0, 8, .inl (fun _ => 0))), (q45, .inl (F.2.1.2.2 0, 8, .inl (fun _ => 0))), (q46, .inl (F.2.1.2.2 0, 8, .inl (fun _ => 0))), (q47, .inl (F.2.1.2.2 0, 10, .inl (fun _ => 0))), (q48, .inl (F.2.1.2.2 0, 10, .inl (fun _ => 0))), (q49, .inl (F.2.1.2.2 0, 10, .inl (fun _ => 0))), (q50, .inl (F.2.1.2.2 0, 10, .inl (fun _ => 0))), (q51, .inl (F.2.1.2.2 0, 10, .inl (fun _ => 0))), (q52, .inl (F.2.1.2.2 0, 1024, .inl (fun _ => 0))), (q53, .inl (F.2.1.2.2 0, 1024, .inl (fun _ => 0)))]) rfl ?_
  refine c_ws (ws' := w_Md F.2.1 h0 (fun _ => 0) (fun _ => 0) (u_of [q0, q1, q2, q3, q4, q5, q6, q7, q8, q9, q10, q11, q12, q13, q14, q15, q16, q17, q18, q19, q20, q21, q22, q23, q24, q25, q26, q27, q28, q29, q30, q31, q32, q33, q34, q35, q36, q37, q38, q39, q40, q41, q42, q43, q44, q45, q46, q47, q48, q49, q50, q51, q52, q53])) rfl ?_
  refine c_iconst ok 0 d_Md_init_456 rfl ?_
  refine c_istore_n ok [(1, vI 0), (0, .ref h0)] d_Md_init_457 rfl hm (by decide) rfl ?_
  refine c_sub [1, 0] rfl (ctor_Md_1 rfl hm ok 100 0 _ (by omega) (by omega) (by omega) (fun z => by rw [if_neg (by omega)]) ?_)
  refine c_iconst ok 0 d_Md_init_489 rfl ?_
  refine c_istore_n ok [(1, vI 0), (0, .ref h0)] d_Md_init_490 rfl hm (by decide) rfl ?_
  exact c_sub [1, 0] rfl (ctor_Md_2 rfl hm ok hQ 8 0 _ (by omega) (by omega) (by omega) (fun z => by rw [if_neg (by omega)]))
end
