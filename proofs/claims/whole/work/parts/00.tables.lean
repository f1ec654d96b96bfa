section
-- ===== PART A: goes FIRST, ahead of the names: the tables' words, and 'selects' of the private methods out of them =====
/-- a private method of a class that the tables say can be made, by its rows of tables_1 -/
def lw_okq (q : MethodName × Nat) : Prop := (q.1.cls ≠ "java/lang/invoke/MethodHandle" ∧ q.1.cls ≠ "java/lang/invoke/VarHandle") ∧ Cond.instantiable q.1.cls q.2 ∈ tables_1 ∧ Cond.privateMethod q.1 ∈ tables_1 ∧ Cond.instanceMethod q.1 ∈ tables_1
theorem lw_p0 : lw_okq (⟨"LastSeen", "bookIsFull", "()Z"⟩, 14) := ⟨⟨by decide +kernel, by decide +kernel⟩, List.mem_of_getElem? (i := 15) (by decide +kernel), List.mem_of_getElem? (i := 450) (by decide +kernel), List.mem_of_getElem? (i := 451) (by decide +kernel)⟩
theorem lw_p1 : lw_okq (⟨"LastSeen$Names", "blendPh", "(I)I"⟩, 15) := ⟨⟨by decide +kernel, by decide +kernel⟩, List.mem_of_getElem? (i := 52) (by decide +kernel), List.mem_of_getElem? (i := 462) (by decide +kernel), List.mem_of_getElem? (i := 463) (by decide +kernel)⟩
theorem lw_p2 : lw_okq (⟨"LastSeen$Names", "dropBreaths", "(I)I"⟩, 15) := ⟨⟨by decide +kernel, by decide +kernel⟩, List.mem_of_getElem? (i := 52) (by decide +kernel), List.mem_of_getElem? (i := 466) (by decide +kernel), List.mem_of_getElem? (i := 467) (by decide +kernel)⟩
theorem lw_p3 : lw_okq (⟨"LastSeen$Names", "dropTwins", "(I)I"⟩, 15) := ⟨⟨by decide +kernel, by decide +kernel⟩, List.mem_of_getElem? (i := 52) (by decide +kernel), List.mem_of_getElem? (i := 470) (by decide +kernel), List.mem_of_getElem? (i := 471) (by decide +kernel)⟩
theorem lw_p4 : lw_okq (⟨"LastSeen$Names", "dropVowels", "(I)I"⟩, 15) := ⟨⟨by decide +kernel, by decide +kernel⟩, List.mem_of_getElem? (i := 52) (by decide +kernel), List.mem_of_getElem? (i := 474) (by decide +kernel), List.mem_of_getElem? (i := 475) (by decide +kernel)⟩
theorem lw_p5 : lw_okq (⟨"LastSeen", "isName", "(I)Z"⟩, 14) := ⟨⟨by decide +kernel, by decide +kernel⟩, List.mem_of_getElem? (i := 15) (by decide +kernel), List.mem_of_getElem? (i := 489) (by decide +kernel), List.mem_of_getElem? (i := 490) (by decide +kernel)⟩
theorem lw_p6 : lw_okq (⟨"LastSeen", "isNameBy", "(II)Z"⟩, 14) := ⟨⟨by decide +kernel, by decide +kernel⟩, List.mem_of_getElem? (i := 15) (by decide +kernel), List.mem_of_getElem? (i := 493) (by decide +kernel), List.mem_of_getElem? (i := 494) (by decide +kernel)⟩
theorem lw_p7 : lw_okq (⟨"LastSeen", "decree", "(III)I"⟩, 14) := ⟨⟨by decide +kernel, by decide +kernel⟩, List.mem_of_getElem? (i := 15) (by decide +kernel), List.mem_of_getElem? (i := 513) (by decide +kernel), List.mem_of_getElem? (i := 514) (by decide +kernel)⟩
theorem lw_p8 : lw_okq (⟨"LastSeen", "upTo", "(I)I"⟩, 14) := ⟨⟨by decide +kernel, by decide +kernel⟩, List.mem_of_getElem? (i := 15) (by decide +kernel), List.mem_of_getElem? (i := 529) (by decide +kernel), List.mem_of_getElem? (i := 530) (by decide +kernel)⟩
theorem lw_p9 : lw_okq (⟨"LastSeen$Names", "readKeys", "()V"⟩, 15) := ⟨⟨by decide +kernel, by decide +kernel⟩, List.mem_of_getElem? (i := 52) (by decide +kernel), List.mem_of_getElem? (i := 537) (by decide +kernel), List.mem_of_getElem? (i := 538) (by decide +kernel)⟩
theorem lw_p10 : lw_okq (⟨"LastSeen$Names", "sameKey", "(II)Z"⟩, 15) := ⟨⟨by decide +kernel, by decide +kernel⟩, List.mem_of_getElem? (i := 52) (by decide +kernel), List.mem_of_getElem? (i := 541) (by decide +kernel), List.mem_of_getElem? (i := 542) (by decide +kernel)⟩
theorem lw_p11 : lw_okq (⟨"LastSeen$Names", "tieTogether", "(III)V"⟩, 15) := ⟨⟨by decide +kernel, by decide +kernel⟩, List.mem_of_getElem? (i := 52) (by decide +kernel), List.mem_of_getElem? (i := 545) (by decide +kernel), List.mem_of_getElem? (i := 546) (by decide +kernel)⟩
theorem lw_p12 : lw_okq (⟨"LastSeen$Names", "readPersons", "()V"⟩, 15) := ⟨⟨by decide +kernel, by decide +kernel⟩, List.mem_of_getElem? (i := 52) (by decide +kernel), List.mem_of_getElem? (i := 549) (by decide +kernel), List.mem_of_getElem? (i := 550) (by decide +kernel)⟩
theorem lw_p13 : lw_okq (⟨"LastSeen$Names", "spreadFrom", "(I)V"⟩, 15) := ⟨⟨by decide +kernel, by decide +kernel⟩, List.mem_of_getElem? (i := 52) (by decide +kernel), List.mem_of_getElem? (i := 553) (by decide +kernel), List.mem_of_getElem? (i := 554) (by decide +kernel)⟩
theorem lw_p14 : lw_okq (⟨"LastSeen$Names", "countStepsTo", "(I)V"⟩, 15) := ⟨⟨by decide +kernel, by decide +kernel⟩, List.mem_of_getElem? (i := 52) (by decide +kernel), List.mem_of_getElem? (i := 589) (by decide +kernel), List.mem_of_getElem? (i := 590) (by decide +kernel)⟩
theorem lw_p15 : lw_okq (⟨"LastSeen$Names", "nearerThan", "(I)I"⟩, 15) := ⟨⟨by decide +kernel, by decide +kernel⟩, List.mem_of_getElem? (i := 52) (by decide +kernel), List.mem_of_getElem? (i := 593) (by decide +kernel), List.mem_of_getElem? (i := 594) (by decide +kernel)⟩
def lw_privs_1 : List (MethodName × Nat) := [(⟨"LastSeen", "bookIsFull", "()Z"⟩, 14), (⟨"LastSeen$Names", "blendPh", "(I)I"⟩, 15), (⟨"LastSeen$Names", "dropBreaths", "(I)I"⟩, 15), (⟨"LastSeen$Names", "dropTwins", "(I)I"⟩, 15), (⟨"LastSeen$Names", "dropVowels", "(I)I"⟩, 15), (⟨"LastSeen", "isName", "(I)Z"⟩, 14), (⟨"LastSeen", "isNameBy", "(II)Z"⟩, 14), (⟨"LastSeen", "decree", "(III)I"⟩, 14), (⟨"LastSeen", "upTo", "(I)I"⟩, 14), (⟨"LastSeen$Names", "readKeys", "()V"⟩, 15), (⟨"LastSeen$Names", "sameKey", "(II)Z"⟩, 15), (⟨"LastSeen$Names", "tieTogether", "(III)V"⟩, 15), (⟨"LastSeen$Names", "readPersons", "()V"⟩, 15), (⟨"LastSeen$Names", "spreadFrom", "(I)V"⟩, 15), (⟨"LastSeen$Names", "countStepsTo", "(I)V"⟩, 15), (⟨"LastSeen$Names", "nearerThan", "(I)I"⟩, 15)]
theorem lw_r1 : ∀ q ∈ lw_privs_1, lw_okq q := List.forall_mem_cons.mpr ⟨lw_p0, List.forall_mem_cons.mpr ⟨lw_p1, List.forall_mem_cons.mpr ⟨lw_p2, List.forall_mem_cons.mpr ⟨lw_p3, List.forall_mem_cons.mpr ⟨lw_p4, List.forall_mem_cons.mpr ⟨lw_p5, List.forall_mem_cons.mpr ⟨lw_p6, List.forall_mem_cons.mpr ⟨lw_p7, List.forall_mem_cons.mpr ⟨lw_p8, List.forall_mem_cons.mpr ⟨lw_p9, List.forall_mem_cons.mpr ⟨lw_p10, List.forall_mem_cons.mpr ⟨lw_p11, List.forall_mem_cons.mpr ⟨lw_p12, List.forall_mem_cons.mpr ⟨lw_p13, List.forall_mem_cons.mpr ⟨lw_p14, List.forall_mem_cons.mpr ⟨lw_p15, fun _ h => absurd h List.not_mem_nil⟩⟩⟩⟩⟩⟩⟩⟩⟩⟩⟩⟩⟩⟩⟩⟩
theorem lw_p16 : lw_okq (⟨"LastSeen", "isWordBy", "(II)Z"⟩, 14) := ⟨⟨by decide +kernel, by decide +kernel⟩, List.mem_of_getElem? (i := 15) (by decide +kernel), List.mem_of_getElem? (i := 624) (by decide +kernel), List.mem_of_getElem? (i := 625) (by decide +kernel)⟩
theorem lw_p17 : lw_okq (⟨"LastSeen$Hearing", "readWords", "()V"⟩, 15) := ⟨⟨by decide +kernel, by decide +kernel⟩, List.mem_of_getElem? (i := 145) (by decide +kernel), List.mem_of_getElem? (i := 679) (by decide +kernel), List.mem_of_getElem? (i := 680) (by decide +kernel)⟩
theorem lw_p18 : lw_okq (⟨"LastSeen$Hearing", "readRoots", "()V"⟩, 15) := ⟨⟨by decide +kernel, by decide +kernel⟩, List.mem_of_getElem? (i := 145) (by decide +kernel), List.mem_of_getElem? (i := 691) (by decide +kernel), List.mem_of_getElem? (i := 692) (by decide +kernel)⟩
theorem lw_p19 : lw_okq (⟨"LastSeen$Hearing", "readLatest", "()V"⟩, 15) := ⟨⟨by decide +kernel, by decide +kernel⟩, List.mem_of_getElem? (i := 145) (by decide +kernel), List.mem_of_getElem? (i := 705) (by decide +kernel), List.mem_of_getElem? (i := 706) (by decide +kernel)⟩
theorem lw_p20 : lw_okq (⟨"LastSeen$Hearing", "loadWalk", "()V"⟩, 15) := ⟨⟨by decide +kernel, by decide +kernel⟩, List.mem_of_getElem? (i := 145) (by decide +kernel), List.mem_of_getElem? (i := 741) (by decide +kernel), List.mem_of_getElem? (i := 742) (by decide +kernel)⟩
theorem lw_p21 : lw_okq (⟨"LastSeen$Walk", "readReach", "(I)V"⟩, 7) := ⟨⟨by decide +kernel, by decide +kernel⟩, List.mem_of_getElem? (i := 147) (by decide +kernel), List.mem_of_getElem? (i := 770) (by decide +kernel), List.mem_of_getElem? (i := 771) (by decide +kernel)⟩
theorem lw_p22 : lw_okq (⟨"LastSeen$Walk", "stayAt", "(II)V"⟩, 7) := ⟨⟨by decide +kernel, by decide +kernel⟩, List.mem_of_getElem? (i := 147) (by decide +kernel), List.mem_of_getElem? (i := 776) (by decide +kernel), List.mem_of_getElem? (i := 777) (by decide +kernel)⟩
theorem lw_p23 : lw_okq (⟨"LastSeen$Rules", "after", "(II)I"⟩, 13) := ⟨⟨by decide +kernel, by decide +kernel⟩, List.mem_of_getElem? (i := 225) (by decide +kernel), List.mem_of_getElem? (i := 834) (by decide +kernel), List.mem_of_getElem? (i := 835) (by decide +kernel)⟩
theorem lw_p24 : lw_okq (⟨"LastSeen$Rules", "afterStart", "(I)I"⟩, 13) := ⟨⟨by decide +kernel, by decide +kernel⟩, List.mem_of_getElem? (i := 225) (by decide +kernel), List.mem_of_getElem? (i := 838) (by decide +kernel), List.mem_of_getElem? (i := 839) (by decide +kernel)⟩
theorem lw_p25 : lw_okq (⟨"LastSeen$Rules", "afterOpening", "(I)I"⟩, 13) := ⟨⟨by decide +kernel, by decide +kernel⟩, List.mem_of_getElem? (i := 225) (by decide +kernel), List.mem_of_getElem? (i := 842) (by decide +kernel), List.mem_of_getElem? (i := 843) (by decide +kernel)⟩
theorem lw_p26 : lw_okq (⟨"LastSeen$Rules", "afterFirstDigit", "(I)I"⟩, 13) := ⟨⟨by decide +kernel, by decide +kernel⟩, List.mem_of_getElem? (i := 225) (by decide +kernel), List.mem_of_getElem? (i := 852) (by decide +kernel), List.mem_of_getElem? (i := 853) (by decide +kernel)⟩
theorem lw_p27 : lw_okq (⟨"LastSeen$Rules", "afterDigit", "()I"⟩, 13) := ⟨⟨by decide +kernel, by decide +kernel⟩, List.mem_of_getElem? (i := 225) (by decide +kernel), List.mem_of_getElem? (i := 859) (by decide +kernel), List.mem_of_getElem? (i := 860) (by decide +kernel)⟩
theorem lw_p28 : lw_okq (⟨"LastSeen$Rules", "afterFact", "(I)I"⟩, 13) := ⟨⟨by decide +kernel, by decide +kernel⟩, List.mem_of_getElem? (i := 225) (by decide +kernel), List.mem_of_getElem? (i := 863) (by decide +kernel), List.mem_of_getElem? (i := 864) (by decide +kernel)⟩
theorem lw_p29 : lw_okq (⟨"LastSeen$Rules", "afterClause", "(I)I"⟩, 13) := ⟨⟨by decide +kernel, by decide +kernel⟩, List.mem_of_getElem? (i := 225) (by decide +kernel), List.mem_of_getElem? (i := 867) (by decide +kernel), List.mem_of_getElem? (i := 868) (by decide +kernel)⟩
theorem lw_p30 : lw_okq (⟨"LastSeen", "digitOf", "(IIII)I"⟩, 14) := ⟨⟨by decide +kernel, by decide +kernel⟩, List.mem_of_getElem? (i := 15) (by decide +kernel), List.mem_of_getElem? (i := 883) (by decide +kernel), List.mem_of_getElem? (i := 884) (by decide +kernel)⟩
theorem lw_p31 : lw_okq (⟨"LastSeen$Rules", "textAt", "(II)I"⟩, 13) := ⟨⟨by decide +kernel, by decide +kernel⟩, List.mem_of_getElem? (i := 225) (by decide +kernel), List.mem_of_getElem? (i := 891) (by decide +kernel), List.mem_of_getElem? (i := 892) (by decide +kernel)⟩
def lw_privs_2 : List (MethodName × Nat) := [(⟨"LastSeen", "isWordBy", "(II)Z"⟩, 14), (⟨"LastSeen$Hearing", "readWords", "()V"⟩, 15), (⟨"LastSeen$Hearing", "readRoots", "()V"⟩, 15), (⟨"LastSeen$Hearing", "readLatest", "()V"⟩, 15), (⟨"LastSeen$Hearing", "loadWalk", "()V"⟩, 15), (⟨"LastSeen$Walk", "readReach", "(I)V"⟩, 7), (⟨"LastSeen$Walk", "stayAt", "(II)V"⟩, 7), (⟨"LastSeen$Rules", "after", "(II)I"⟩, 13), (⟨"LastSeen$Rules", "afterStart", "(I)I"⟩, 13), (⟨"LastSeen$Rules", "afterOpening", "(I)I"⟩, 13), (⟨"LastSeen$Rules", "afterFirstDigit", "(I)I"⟩, 13), (⟨"LastSeen$Rules", "afterDigit", "()I"⟩, 13), (⟨"LastSeen$Rules", "afterFact", "(I)I"⟩, 13), (⟨"LastSeen$Rules", "afterClause", "(I)I"⟩, 13), (⟨"LastSeen", "digitOf", "(IIII)I"⟩, 14), (⟨"LastSeen$Rules", "textAt", "(II)I"⟩, 13)]
theorem lw_r2 : ∀ q ∈ lw_privs_2, lw_okq q := List.forall_mem_cons.mpr ⟨lw_p16, List.forall_mem_cons.mpr ⟨lw_p17, List.forall_mem_cons.mpr ⟨lw_p18, List.forall_mem_cons.mpr ⟨lw_p19, List.forall_mem_cons.mpr ⟨lw_p20, List.forall_mem_cons.mpr ⟨lw_p21, List.forall_mem_cons.mpr ⟨lw_p22, List.forall_mem_cons.mpr ⟨lw_p23, List.forall_mem_cons.mpr ⟨lw_p24, List.forall_mem_cons.mpr ⟨lw_p25, List.forall_mem_cons.mpr ⟨lw_p26, List.forall_mem_cons.mpr ⟨lw_p27, List.forall_mem_cons.mpr ⟨lw_p28, List.forall_mem_cons.mpr ⟨lw_p29, List.forall_mem_cons.mpr ⟨lw_p30, List.forall_mem_cons.mpr ⟨lw_p31, fun _ h => absurd h List.not_mem_nil⟩⟩⟩⟩⟩⟩⟩⟩⟩⟩⟩⟩⟩⟩⟩⟩
theorem lw_p32 : lw_okq (⟨"LastSeen$Rules", "isSo", "(ILLastSeen$Hearing;)Z"⟩, 13) := ⟨⟨by decide +kernel, by decide +kernel⟩, List.mem_of_getElem? (i := 225) (by decide +kernel), List.mem_of_getElem? (i := 899) (by decide +kernel), List.mem_of_getElem? (i := 900) (by decide +kernel)⟩
theorem lw_p33 : lw_okq (⟨"LastSeen$Rules", "openGroup", "(IZ)V"⟩, 13) := ⟨⟨by decide +kernel, by decide +kernel⟩, List.mem_of_getElem? (i := 225) (by decide +kernel), List.mem_of_getElem? (i := 903) (by decide +kernel), List.mem_of_getElem? (i := 904) (by decide +kernel)⟩
theorem lw_p34 : lw_okq (⟨"LastSeen$Rules", "factIsSo", "(ILLastSeen$Hearing;)Z"⟩, 13) := ⟨⟨by decide +kernel, by decide +kernel⟩, List.mem_of_getElem? (i := 225) (by decide +kernel), List.mem_of_getElem? (i := 907) (by decide +kernel), List.mem_of_getElem? (i := 908) (by decide +kernel)⟩
theorem lw_p35 : lw_okq (⟨"LastSeen$Rules", "joinRow", "(IZ)V"⟩, 13) := ⟨⟨by decide +kernel, by decide +kernel⟩, List.mem_of_getElem? (i := 225) (by decide +kernel), List.mem_of_getElem? (i := 915) (by decide +kernel), List.mem_of_getElem? (i := 916) (by decide +kernel)⟩
theorem lw_p36 : lw_okq (⟨"LastSeen$Rules", "groupIsSo", "(I)Z"⟩, 13) := ⟨⟨by decide +kernel, by decide +kernel⟩, List.mem_of_getElem? (i := 225) (by decide +kernel), List.mem_of_getElem? (i := 919) (by decide +kernel), List.mem_of_getElem? (i := 920) (by decide +kernel)⟩
theorem lw_p37 : lw_okq (⟨"LastSeen$Rules", "closeRow", "(I)V"⟩, 13) := ⟨⟨by decide +kernel, by decide +kernel⟩, List.mem_of_getElem? (i := 225) (by decide +kernel), List.mem_of_getElem? (i := 923) (by decide +kernel), List.mem_of_getElem? (i := 924) (by decide +kernel)⟩
theorem lw_p38 : lw_okq (⟨"LastSeen", "holding", "(II)I"⟩, 14) := ⟨⟨by decide +kernel, by decide +kernel⟩, List.mem_of_getElem? (i := 15) (by decide +kernel), List.mem_of_getElem? (i := 935) (by decide +kernel), List.mem_of_getElem? (i := 936) (by decide +kernel)⟩
theorem lw_p39 : lw_okq (⟨"LastSeen", "openAsFound", "(I)LLastSeen$Hearing;"⟩, 14) := ⟨⟨by decide +kernel, by decide +kernel⟩, List.mem_of_getElem? (i := 15) (by decide +kernel), List.mem_of_getElem? (i := 939) (by decide +kernel), List.mem_of_getElem? (i := 940) (by decide +kernel)⟩
theorem lw_p40 : lw_okq (⟨"LastSeen$Bones", "couples", "(II)I"⟩, 3) := ⟨⟨by decide +kernel, by decide +kernel⟩, List.mem_of_getElem? (i := 271) (by decide +kernel), List.mem_of_getElem? (i := 985) (by decide +kernel), List.mem_of_getElem? (i := 986) (by decide +kernel)⟩
theorem lw_p41 : lw_okq (⟨"LastSeen", "isSet", "(I)Z"⟩, 14) := ⟨⟨by decide +kernel, by decide +kernel⟩, List.mem_of_getElem? (i := 15) (by decide +kernel), List.mem_of_getElem? (i := 1036) (by decide +kernel), List.mem_of_getElem? (i := 1037) (by decide +kernel)⟩
theorem lw_p42 : lw_okq (⟨"LastSeen$Graves", "firstOneWith", "(I)I"⟩, 18) := ⟨⟨by decide +kernel, by decide +kernel⟩, List.mem_of_getElem? (i := 287) (by decide +kernel), List.mem_of_getElem? (i := 1057) (by decide +kernel), List.mem_of_getElem? (i := 1058) (by decide +kernel)⟩
theorem lw_p43 : lw_okq (⟨"LastSeen$Graves", "canGet", "(II)Z"⟩, 18) := ⟨⟨by decide +kernel, by decide +kernel⟩, List.mem_of_getElem? (i := 287) (by decide +kernel), List.mem_of_getElem? (i := 1062) (by decide +kernel), List.mem_of_getElem? (i := 1063) (by decide +kernel)⟩
theorem lw_p44 : lw_okq (⟨"LastSeen$Graves", "isBarred", "(I)Z"⟩, 18) := ⟨⟨by decide +kernel, by decide +kernel⟩, List.mem_of_getElem? (i := 287) (by decide +kernel), List.mem_of_getElem? (i := 1067) (by decide +kernel), List.mem_of_getElem? (i := 1068) (by decide +kernel)⟩
theorem lw_p45 : lw_okq (⟨"LastSeen$Graves", "waysWith", "(II)I"⟩, 18) := ⟨⟨by decide +kernel, by decide +kernel⟩, List.mem_of_getElem? (i := 287) (by decide +kernel), List.mem_of_getElem? (i := 1075) (by decide +kernel), List.mem_of_getElem? (i := 1076) (by decide +kernel)⟩
theorem lw_p46 : lw_okq (⟨"LastSeen$Graves", "spellings", "(II)I"⟩, 18) := ⟨⟨by decide +kernel, by decide +kernel⟩, List.mem_of_getElem? (i := 287) (by decide +kernel), List.mem_of_getElem? (i := 1079) (by decide +kernel), List.mem_of_getElem? (i := 1080) (by decide +kernel)⟩
theorem lw_p47 : lw_okq (⟨"LastSeen$Graves", "readHeirs", "()V"⟩, 18) := ⟨⟨by decide +kernel, by decide +kernel⟩, List.mem_of_getElem? (i := 287) (by decide +kernel), List.mem_of_getElem? (i := 1097) (by decide +kernel), List.mem_of_getElem? (i := 1098) (by decide +kernel)⟩
def lw_privs_3 : List (MethodName × Nat) := [(⟨"LastSeen$Rules", "isSo", "(ILLastSeen$Hearing;)Z"⟩, 13), (⟨"LastSeen$Rules", "openGroup", "(IZ)V"⟩, 13), (⟨"LastSeen$Rules", "factIsSo", "(ILLastSeen$Hearing;)Z"⟩, 13), (⟨"LastSeen$Rules", "joinRow", "(IZ)V"⟩, 13), (⟨"LastSeen$Rules", "groupIsSo", "(I)Z"⟩, 13), (⟨"LastSeen$Rules", "closeRow", "(I)V"⟩, 13), (⟨"LastSeen", "holding", "(II)I"⟩, 14), (⟨"LastSeen", "openAsFound", "(I)LLastSeen$Hearing;"⟩, 14), (⟨"LastSeen$Bones", "couples", "(II)I"⟩, 3), (⟨"LastSeen", "isSet", "(I)Z"⟩, 14), (⟨"LastSeen$Graves", "firstOneWith", "(I)I"⟩, 18), (⟨"LastSeen$Graves", "canGet", "(II)Z"⟩, 18), (⟨"LastSeen$Graves", "isBarred", "(I)Z"⟩, 18), (⟨"LastSeen$Graves", "waysWith", "(II)I"⟩, 18), (⟨"LastSeen$Graves", "spellings", "(II)I"⟩, 18), (⟨"LastSeen$Graves", "readHeirs", "()V"⟩, 18)]
theorem lw_r3 : ∀ q ∈ lw_privs_3, lw_okq q := List.forall_mem_cons.mpr ⟨lw_p32, List.forall_mem_cons.mpr ⟨lw_p33, List.forall_mem_cons.mpr ⟨lw_p34, List.forall_mem_cons.mpr ⟨lw_p35, List.forall_mem_cons.mpr ⟨lw_p36, List.forall_mem_cons.mpr ⟨lw_p37, List.forall_mem_cons.mpr ⟨lw_p38, List.forall_mem_cons.mpr ⟨lw_p39, List.forall_mem_cons.mpr ⟨lw_p40, List.forall_mem_cons.mpr ⟨lw_p41, List.forall_mem_cons.mpr ⟨lw_p42, List.forall_mem_cons.mpr ⟨lw_p43, List.forall_mem_cons.mpr ⟨lw_p44, List.forall_mem_cons.mpr ⟨lw_p45, List.forall_mem_cons.mpr ⟨lw_p46, List.forall_mem_cons.mpr ⟨lw_p47, fun _ h => absurd h List.not_mem_nil⟩⟩⟩⟩⟩⟩⟩⟩⟩⟩⟩⟩⟩⟩⟩⟩
theorem lw_p48 : lw_okq (⟨"LastSeen$Graves", "personsFor", "(I)I"⟩, 18) := ⟨⟨by decide +kernel, by decide +kernel⟩, List.mem_of_getElem? (i := 287) (by decide +kernel), List.mem_of_getElem? (i := 1101) (by decide +kernel), List.mem_of_getElem? (i := 1102) (by decide +kernel)⟩
theorem lw_p49 : lw_okq (⟨"LastSeen", "personsNow", "()I"⟩, 14) := ⟨⟨by decide +kernel, by decide +kernel⟩, List.mem_of_getElem? (i := 15) (by decide +kernel), List.mem_of_getElem? (i := 1147) (by decide +kernel), List.mem_of_getElem? (i := 1148) (by decide +kernel)⟩
theorem lw_p50 : lw_okq (⟨"LastSeen", "standingNow", "()I"⟩, 14) := ⟨⟨by decide +kernel, by decide +kernel⟩, List.mem_of_getElem? (i := 15) (by decide +kernel), List.mem_of_getElem? (i := 1151) (by decide +kernel), List.mem_of_getElem? (i := 1152) (by decide +kernel)⟩
theorem lw_p51 : lw_okq (⟨"LastSeenModel", "findKey", "(I)V"⟩, 75) := ⟨⟨by decide +kernel, by decide +kernel⟩, List.mem_of_getElem? (i := 1160) (by decide +kernel), List.mem_of_getElem? (i := 1422) (by decide +kernel), List.mem_of_getElem? (i := 1423) (by decide +kernel)⟩
theorem lw_p52 : lw_okq (⟨"LastSeenModel", "drops", "(I)V"⟩, 75) := ⟨⟨by decide +kernel, by decide +kernel⟩, List.mem_of_getElem? (i := 1160) (by decide +kernel), List.mem_of_getElem? (i := 1429) (by decide +kernel), List.mem_of_getElem? (i := 1430) (by decide +kernel)⟩
theorem lw_p53 : lw_okq (⟨"LastSeenModel", "enters", "(III)V"⟩, 75) := ⟨⟨by decide +kernel, by decide +kernel⟩, List.mem_of_getElem? (i := 1160) (by decide +kernel), List.mem_of_getElem? (i := 1436) (by decide +kernel), List.mem_of_getElem? (i := 1437) (by decide +kernel)⟩
theorem lw_p54 : lw_okq (⟨"LastSeenModel", "isName", "(I)Z"⟩, 75) := ⟨⟨by decide +kernel, by decide +kernel⟩, List.mem_of_getElem? (i := 1160) (by decide +kernel), List.mem_of_getElem? (i := 1444) (by decide +kernel), List.mem_of_getElem? (i := 1445) (by decide +kernel)⟩
theorem lw_p55 : lw_okq (⟨"LastSeenModel", "relates", "(III)I"⟩, 75) := ⟨⟨by decide +kernel, by decide +kernel⟩, List.mem_of_getElem? (i := 1160) (by decide +kernel), List.mem_of_getElem? (i := 1453) (by decide +kernel), List.mem_of_getElem? (i := 1454) (by decide +kernel)⟩
theorem lw_p56 : lw_okq (⟨"LastSeenModel", "isTold", "(I)Z"⟩, 75) := ⟨⟨by decide +kernel, by decide +kernel⟩, List.mem_of_getElem? (i := 1160) (by decide +kernel), List.mem_of_getElem? (i := 1465) (by decide +kernel), List.mem_of_getElem? (i := 1466) (by decide +kernel)⟩
theorem lw_p57 : lw_okq (⟨"LastSeenModel", "by", "(I)I"⟩, 75) := ⟨⟨by decide +kernel, by decide +kernel⟩, List.mem_of_getElem? (i := 1160) (by decide +kernel), List.mem_of_getElem? (i := 1469) (by decide +kernel), List.mem_of_getElem? (i := 1470) (by decide +kernel)⟩
theorem lw_p58 : lw_okq (⟨"LastSeenModel", "looks", "(I)V"⟩, 75) := ⟨⟨by decide +kernel, by decide +kernel⟩, List.mem_of_getElem? (i := 1160) (by decide +kernel), List.mem_of_getElem? (i := 1473) (by decide +kernel), List.mem_of_getElem? (i := 1474) (by decide +kernel)⟩
theorem lw_p59 : lw_okq (⟨"LastSeenModel", "haveOneKey", "(II)Z"⟩, 75) := ⟨⟨by decide +kernel, by decide +kernel⟩, List.mem_of_getElem? (i := 1160) (by decide +kernel), List.mem_of_getElem? (i := 1477) (by decide +kernel), List.mem_of_getElem? (i := 1478) (by decide +kernel)⟩
theorem lw_p60 : lw_okq (⟨"LastSeenModel", "findPersons", "()V"⟩, 75) := ⟨⟨by decide +kernel, by decide +kernel⟩, List.mem_of_getElem? (i := 1160) (by decide +kernel), List.mem_of_getElem? (i := 1481) (by decide +kernel), List.mem_of_getElem? (i := 1482) (by decide +kernel)⟩
theorem lw_p61 : lw_okq (⟨"LastSeenModel", "isThere", "(II)Z"⟩, 75) := ⟨⟨by decide +kernel, by decide +kernel⟩, List.mem_of_getElem? (i := 1160) (by decide +kernel), List.mem_of_getElem? (i := 1489) (by decide +kernel), List.mem_of_getElem? (i := 1490) (by decide +kernel)⟩
theorem lw_p62 : lw_okq (⟨"LastSeenModel", "isWord", "(I)Z"⟩, 75) := ⟨⟨by decide +kernel, by decide +kernel⟩, List.mem_of_getElem? (i := 1160) (by decide +kernel), List.mem_of_getElem? (i := 1502) (by decide +kernel), List.mem_of_getElem? (i := 1503) (by decide +kernel)⟩
theorem lw_p63 : lw_okq (⟨"LastSeenModel", "standing", "()I"⟩, 75) := ⟨⟨by decide +kernel, by decide +kernel⟩, List.mem_of_getElem? (i := 1160) (by decide +kernel), List.mem_of_getElem? (i := 1512) (by decide +kernel), List.mem_of_getElem? (i := 1513) (by decide +kernel)⟩
def lw_privs_4 : List (MethodName × Nat) := [(⟨"LastSeen$Graves", "personsFor", "(I)I"⟩, 18), (⟨"LastSeen", "personsNow", "()I"⟩, 14), (⟨"LastSeen", "standingNow", "()I"⟩, 14), (⟨"LastSeenModel", "findKey", "(I)V"⟩, 75), (⟨"LastSeenModel", "drops", "(I)V"⟩, 75), (⟨"LastSeenModel", "enters", "(III)V"⟩, 75), (⟨"LastSeenModel", "isName", "(I)Z"⟩, 75), (⟨"LastSeenModel", "relates", "(III)I"⟩, 75), (⟨"LastSeenModel", "isTold", "(I)Z"⟩, 75), (⟨"LastSeenModel", "by", "(I)I"⟩, 75), (⟨"LastSeenModel", "looks", "(I)V"⟩, 75), (⟨"LastSeenModel", "haveOneKey", "(II)Z"⟩, 75), (⟨"LastSeenModel", "findPersons", "()V"⟩, 75), (⟨"LastSeenModel", "isThere", "(II)Z"⟩, 75), (⟨"LastSeenModel", "isWord", "(I)Z"⟩, 75), (⟨"LastSeenModel", "standing", "()I"⟩, 75)]
theorem lw_r4 : ∀ q ∈ lw_privs_4, lw_okq q := List.forall_mem_cons.mpr ⟨lw_p48, List.forall_mem_cons.mpr ⟨lw_p49, List.forall_mem_cons.mpr ⟨lw_p50, List.forall_mem_cons.mpr ⟨lw_p51, List.forall_mem_cons.mpr ⟨lw_p52, List.forall_mem_cons.mpr ⟨lw_p53, List.forall_mem_cons.mpr ⟨lw_p54, List.forall_mem_cons.mpr ⟨lw_p55, List.forall_mem_cons.mpr ⟨lw_p56, List.forall_mem_cons.mpr ⟨lw_p57, List.forall_mem_cons.mpr ⟨lw_p58, List.forall_mem_cons.mpr ⟨lw_p59, List.forall_mem_cons.mpr ⟨lw_p60, List.forall_mem_cons.mpr ⟨lw_p61, List.forall_mem_cons.mpr ⟨lw_p62, List.forall_mem_cons.mpr ⟨lw_p63, fun _ h => absurd h List.not_mem_nil⟩⟩⟩⟩⟩⟩⟩⟩⟩⟩⟩⟩⟩⟩⟩⟩
theorem lw_p64 : lw_okq (⟨"LastSeenModel", "findRoots", "(I)V"⟩, 75) := ⟨⟨by decide +kernel, by decide +kernel⟩, List.mem_of_getElem? (i := 1160) (by decide +kernel), List.mem_of_getElem? (i := 1525) (by decide +kernel), List.mem_of_getElem? (i := 1526) (by decide +kernel)⟩
theorem lw_p65 : lw_okq (⟨"LastSeenModel", "eyesOf", "()I"⟩, 75) := ⟨⟨by decide +kernel, by decide +kernel⟩, List.mem_of_getElem? (i := 1160) (by decide +kernel), List.mem_of_getElem? (i := 1533) (by decide +kernel), List.mem_of_getElem? (i := 1534) (by decide +kernel)⟩
theorem lw_p66 : lw_okq (⟨"LastSeenModel", "canAll", "()Z"⟩, 75) := ⟨⟨by decide +kernel, by decide +kernel⟩, List.mem_of_getElem? (i := 1160) (by decide +kernel), List.mem_of_getElem? (i := 1544) (by decide +kernel), List.mem_of_getElem? (i := 1545) (by decide +kernel)⟩
theorem lw_p67 : lw_okq (⟨"LastSeenModel", "takesRoots", "()V"⟩, 75) := ⟨⟨by decide +kernel, by decide +kernel⟩, List.mem_of_getElem? (i := 1160) (by decide +kernel), List.mem_of_getElem? (i := 1548) (by decide +kernel), List.mem_of_getElem? (i := 1549) (by decide +kernel)⟩
theorem lw_p68 : lw_okq (⟨"LastSeenModel", "fillEarliest", "()V"⟩, 75) := ⟨⟨by decide +kernel, by decide +kernel⟩, List.mem_of_getElem? (i := 1160) (by decide +kernel), List.mem_of_getElem? (i := 1552) (by decide +kernel), List.mem_of_getElem? (i := 1553) (by decide +kernel)⟩
theorem lw_p69 : lw_okq (⟨"LastSeenModel", "comesAt", "(III)I"⟩, 75) := ⟨⟨by decide +kernel, by decide +kernel⟩, List.mem_of_getElem? (i := 1160) (by decide +kernel), List.mem_of_getElem? (i := 1556) (by decide +kernel), List.mem_of_getElem? (i := 1557) (by decide +kernel)⟩
theorem lw_p70 : lw_okq (⟨"LastSeenModel", "canBe", "(I)Z"⟩, 75) := ⟨⟨by decide +kernel, by decide +kernel⟩, List.mem_of_getElem? (i := 1160) (by decide +kernel), List.mem_of_getElem? (i := 1560) (by decide +kernel), List.mem_of_getElem? (i := 1561) (by decide +kernel)⟩
theorem lw_p71 : lw_okq (⟨"LastSeenModel", "lastRoot", "()I"⟩, 75) := ⟨⟨by decide +kernel, by decide +kernel⟩, List.mem_of_getElem? (i := 1160) (by decide +kernel), List.mem_of_getElem? (i := 1576) (by decide +kernel), List.mem_of_getElem? (i := 1577) (by decide +kernel)⟩
theorem lw_p72 : lw_okq (⟨"LastSeenModel", "parses", "()Z"⟩, 75) := ⟨⟨by decide +kernel, by decide +kernel⟩, List.mem_of_getElem? (i := 1160) (by decide +kernel), List.mem_of_getElem? (i := 1584) (by decide +kernel), List.mem_of_getElem? (i := 1585) (by decide +kernel)⟩
theorem lw_p73 : lw_okq (⟨"LastSeenModel", "isElse", "(I)Z"⟩, 75) := ⟨⟨by decide +kernel, by decide +kernel⟩, List.mem_of_getElem? (i := 1160) (by decide +kernel), List.mem_of_getElem? (i := 1588) (by decide +kernel), List.mem_of_getElem? (i := 1589) (by decide +kernel)⟩
theorem lw_p74 : lw_okq (⟨"LastSeenModel", "sign", "()I"⟩, 75) := ⟨⟨by decide +kernel, by decide +kernel⟩, List.mem_of_getElem? (i := 1160) (by decide +kernel), List.mem_of_getElem? (i := 1592) (by decide +kernel), List.mem_of_getElem? (i := 1593) (by decide +kernel)⟩
theorem lw_p75 : lw_okq (⟨"LastSeenModel", "when", "()Z"⟩, 75) := ⟨⟨by decide +kernel, by decide +kernel⟩, List.mem_of_getElem? (i := 1160) (by decide +kernel), List.mem_of_getElem? (i := 1596) (by decide +kernel), List.mem_of_getElem? (i := 1597) (by decide +kernel)⟩
theorem lw_p76 : lw_okq (⟨"LastSeenModel", "operand", "()Z"⟩, 75) := ⟨⟨by decide +kernel, by decide +kernel⟩, List.mem_of_getElem? (i := 1160) (by decide +kernel), List.mem_of_getElem? (i := 1600) (by decide +kernel), List.mem_of_getElem? (i := 1601) (by decide +kernel)⟩
theorem lw_p77 : lw_okq (⟨"LastSeenModel", "writes", "(I)V"⟩, 75) := ⟨⟨by decide +kernel, by decide +kernel⟩, List.mem_of_getElem? (i := 1160) (by decide +kernel), List.mem_of_getElem? (i := 1607) (by decide +kernel), List.mem_of_getElem? (i := 1608) (by decide +kernel)⟩
theorem lw_p78 : lw_okq (⟨"LastSeenModel", "unstacks", "(I)V"⟩, 75) := ⟨⟨by decide +kernel, by decide +kernel⟩, List.mem_of_getElem? (i := 1160) (by decide +kernel), List.mem_of_getElem? (i := 1614) (by decide +kernel), List.mem_of_getElem? (i := 1615) (by decide +kernel)⟩
theorem lw_p79 : lw_okq (⟨"LastSeenModel", "takes", "(I)Z"⟩, 75) := ⟨⟨by decide +kernel, by decide +kernel⟩, List.mem_of_getElem? (i := 1160) (by decide +kernel), List.mem_of_getElem? (i := 1618) (by decide +kernel), List.mem_of_getElem? (i := 1619) (by decide +kernel)⟩
def lw_privs_5 : List (MethodName × Nat) := [(⟨"LastSeenModel", "findRoots", "(I)V"⟩, 75), (⟨"LastSeenModel", "eyesOf", "()I"⟩, 75), (⟨"LastSeenModel", "canAll", "()Z"⟩, 75), (⟨"LastSeenModel", "takesRoots", "()V"⟩, 75), (⟨"LastSeenModel", "fillEarliest", "()V"⟩, 75), (⟨"LastSeenModel", "comesAt", "(III)I"⟩, 75), (⟨"LastSeenModel", "canBe", "(I)Z"⟩, 75), (⟨"LastSeenModel", "lastRoot", "()I"⟩, 75), (⟨"LastSeenModel", "parses", "()Z"⟩, 75), (⟨"LastSeenModel", "isElse", "(I)Z"⟩, 75), (⟨"LastSeenModel", "sign", "()I"⟩, 75), (⟨"LastSeenModel", "when", "()Z"⟩, 75), (⟨"LastSeenModel", "operand", "()Z"⟩, 75), (⟨"LastSeenModel", "writes", "(I)V"⟩, 75), (⟨"LastSeenModel", "unstacks", "(I)V"⟩, 75), (⟨"LastSeenModel", "takes", "(I)Z"⟩, 75)]
theorem lw_r5 : ∀ q ∈ lw_privs_5, lw_okq q := List.forall_mem_cons.mpr ⟨lw_p64, List.forall_mem_cons.mpr ⟨lw_p65, List.forall_mem_cons.mpr ⟨lw_p66, List.forall_mem_cons.mpr ⟨lw_p67, List.forall_mem_cons.mpr ⟨lw_p68, List.forall_mem_cons.mpr ⟨lw_p69, List.forall_mem_cons.mpr ⟨lw_p70, List.forall_mem_cons.mpr ⟨lw_p71, List.forall_mem_cons.mpr ⟨lw_p72, List.forall_mem_cons.mpr ⟨lw_p73, List.forall_mem_cons.mpr ⟨lw_p74, List.forall_mem_cons.mpr ⟨lw_p75, List.forall_mem_cons.mpr ⟨lw_p76, List.forall_mem_cons.mpr ⟨lw_p77, List.forall_mem_cons.mpr ⟨lw_p78, List.forall_mem_cons.mpr ⟨lw_p79, fun _ h => absurd h List.not_mem_nil⟩⟩⟩⟩⟩⟩⟩⟩⟩⟩⟩⟩⟩⟩⟩⟩
theorem lw_p80 : lw_okq (⟨"LastSeenModel", "digitOf", "(II)I"⟩, 75) := ⟨⟨by decide +kernel, by decide +kernel⟩, List.mem_of_getElem? (i := 1160) (by decide +kernel), List.mem_of_getElem? (i := 1626) (by decide +kernel), List.mem_of_getElem? (i := 1627) (by decide +kernel)⟩
theorem lw_p81 : lw_okq (⟨"LastSeenModel", "findFacts", "(I)V"⟩, 75) := ⟨⟨by decide +kernel, by decide +kernel⟩, List.mem_of_getElem? (i := 1160) (by decide +kernel), List.mem_of_getElem? (i := 1630) (by decide +kernel), List.mem_of_getElem? (i := 1631) (by decide +kernel)⟩
theorem lw_p82 : lw_okq (⟨"LastSeenModel", "heardBy", "(I)I"⟩, 75) := ⟨⟨by decide +kernel, by decide +kernel⟩, List.mem_of_getElem? (i := 1160) (by decide +kernel), List.mem_of_getElem? (i := 1634) (by decide +kernel), List.mem_of_getElem? (i := 1635) (by decide +kernel)⟩
theorem lw_p83 : lw_okq (⟨"LastSeenModel", "namesOf", "(I)I"⟩, 75) := ⟨⟨by decide +kernel, by decide +kernel⟩, List.mem_of_getElem? (i := 1160) (by decide +kernel), List.mem_of_getElem? (i := 1638) (by decide +kernel), List.mem_of_getElem? (i := 1639) (by decide +kernel)⟩
theorem lw_p84 : lw_okq (⟨"LastSeenModel", "isSo", "(III)Z"⟩, 75) := ⟨⟨by decide +kernel, by decide +kernel⟩, List.mem_of_getElem? (i := 1160) (by decide +kernel), List.mem_of_getElem? (i := 1642) (by decide +kernel), List.mem_of_getElem? (i := 1643) (by decide +kernel)⟩
theorem lw_p85 : lw_okq (⟨"LastSeenModel", "isHeld", "(I)Z"⟩, 75) := ⟨⟨by decide +kernel, by decide +kernel⟩, List.mem_of_getElem? (i := 1160) (by decide +kernel), List.mem_of_getElem? (i := 1654) (by decide +kernel), List.mem_of_getElem? (i := 1655) (by decide +kernel)⟩
theorem lw_p86 : lw_okq (⟨"LastSeenModel", "leans", "(II)I"⟩, 75) := ⟨⟨by decide +kernel, by decide +kernel⟩, List.mem_of_getElem? (i := 1160) (by decide +kernel), List.mem_of_getElem? (i := 1658) (by decide +kernel), List.mem_of_getElem? (i := 1659) (by decide +kernel)⟩
theorem lw_p87 : lw_okq (⟨"LastSeenModel", "couples", "(II)I"⟩, 75) := ⟨⟨by decide +kernel, by decide +kernel⟩, List.mem_of_getElem? (i := 1160) (by decide +kernel), List.mem_of_getElem? (i := 1677) (by decide +kernel), List.mem_of_getElem? (i := 1678) (by decide +kernel)⟩
theorem lw_p88 : lw_okq (⟨"LastSeenModel", "isGiven", "(I)Z"⟩, 75) := ⟨⟨by decide +kernel, by decide +kernel⟩, List.mem_of_getElem? (i := 1160) (by decide +kernel), List.mem_of_getElem? (i := 1694) (by decide +kernel), List.mem_of_getElem? (i := 1695) (by decide +kernel)⟩
theorem lw_p89 : lw_okq (⟨"LastSeenModel", "missingOf", "(I)I"⟩, 75) := ⟨⟨by decide +kernel, by decide +kernel⟩, List.mem_of_getElem? (i := 1160) (by decide +kernel), List.mem_of_getElem? (i := 1698) (by decide +kernel), List.mem_of_getElem? (i := 1699) (by decide +kernel)⟩
theorem lw_p90 : lw_okq (⟨"LastSeenModel", "isSet", "(I)Z"⟩, 75) := ⟨⟨by decide +kernel, by decide +kernel⟩, List.mem_of_getElem? (i := 1160) (by decide +kernel), List.mem_of_getElem? (i := 1706) (by decide +kernel), List.mem_of_getElem? (i := 1707) (by decide +kernel)⟩
theorem lw_p91 : lw_okq (⟨"LastSeenModel", "fits", "(II)Z"⟩, 75) := ⟨⟨by decide +kernel, by decide +kernel⟩, List.mem_of_getElem? (i := 1160) (by decide +kernel), List.mem_of_getElem? (i := 1710) (by decide +kernel), List.mem_of_getElem? (i := 1711) (by decide +kernel)⟩
theorem lw_p92 : lw_okq (⟨"LastSeenModel", "areSets", "(I)Z"⟩, 75) := ⟨⟨by decide +kernel, by decide +kernel⟩, List.mem_of_getElem? (i := 1160) (by decide +kernel), List.mem_of_getElem? (i := 1718) (by decide +kernel), List.mem_of_getElem? (i := 1719) (by decide +kernel)⟩
theorem lw_p93 : lw_okq (⟨"LastSeenModel", "findFirsts", "()V"⟩, 75) := ⟨⟨by decide +kernel, by decide +kernel⟩, List.mem_of_getElem? (i := 1160) (by decide +kernel), List.mem_of_getElem? (i := 1722) (by decide +kernel), List.mem_of_getElem? (i := 1723) (by decide +kernel)⟩
theorem lw_p94 : lw_okq (⟨"LastSeenModel", "waysOf", "(III)I"⟩, 75) := ⟨⟨by decide +kernel, by decide +kernel⟩, List.mem_of_getElem? (i := 1160) (by decide +kernel), List.mem_of_getElem? (i := 1726) (by decide +kernel), List.mem_of_getElem? (i := 1727) (by decide +kernel)⟩
theorem lw_p95 : lw_okq (⟨"LastSeenModel", "mayGet", "(II)Z"⟩, 75) := ⟨⟨by decide +kernel, by decide +kernel⟩, List.mem_of_getElem? (i := 1160) (by decide +kernel), List.mem_of_getElem? (i := 1730) (by decide +kernel), List.mem_of_getElem? (i := 1731) (by decide +kernel)⟩
def lw_privs_6 : List (MethodName × Nat) := [(⟨"LastSeenModel", "digitOf", "(II)I"⟩, 75), (⟨"LastSeenModel", "findFacts", "(I)V"⟩, 75), (⟨"LastSeenModel", "heardBy", "(I)I"⟩, 75), (⟨"LastSeenModel", "namesOf", "(I)I"⟩, 75), (⟨"LastSeenModel", "isSo", "(III)Z"⟩, 75), (⟨"LastSeenModel", "isHeld", "(I)Z"⟩, 75), (⟨"LastSeenModel", "leans", "(II)I"⟩, 75), (⟨"LastSeenModel", "couples", "(II)I"⟩, 75), (⟨"LastSeenModel", "isGiven", "(I)Z"⟩, 75), (⟨"LastSeenModel", "missingOf", "(I)I"⟩, 75), (⟨"LastSeenModel", "isSet", "(I)Z"⟩, 75), (⟨"LastSeenModel", "fits", "(II)Z"⟩, 75), (⟨"LastSeenModel", "areSets", "(I)Z"⟩, 75), (⟨"LastSeenModel", "findFirsts", "()V"⟩, 75), (⟨"LastSeenModel", "waysOf", "(III)I"⟩, 75), (⟨"LastSeenModel", "mayGet", "(II)Z"⟩, 75)]
theorem lw_r6 : ∀ q ∈ lw_privs_6, lw_okq q := List.forall_mem_cons.mpr ⟨lw_p80, List.forall_mem_cons.mpr ⟨lw_p81, List.forall_mem_cons.mpr ⟨lw_p82, List.forall_mem_cons.mpr ⟨lw_p83, List.forall_mem_cons.mpr ⟨lw_p84, List.forall_mem_cons.mpr ⟨lw_p85, List.forall_mem_cons.mpr ⟨lw_p86, List.forall_mem_cons.mpr ⟨lw_p87, List.forall_mem_cons.mpr ⟨lw_p88, List.forall_mem_cons.mpr ⟨lw_p89, List.forall_mem_cons.mpr ⟨lw_p90, List.forall_mem_cons.mpr ⟨lw_p91, List.forall_mem_cons.mpr ⟨lw_p92, List.forall_mem_cons.mpr ⟨lw_p93, List.forall_mem_cons.mpr ⟨lw_p94, List.forall_mem_cons.mpr ⟨lw_p95, fun _ h => absurd h List.not_mem_nil⟩⟩⟩⟩⟩⟩⟩⟩⟩⟩⟩⟩⟩⟩⟩⟩
theorem lw_p96 : lw_okq (⟨"LastSeenModel", "onlyOf", "(II)I"⟩, 75) := ⟨⟨by decide +kernel, by decide +kernel⟩, List.mem_of_getElem? (i := 1160) (by decide +kernel), List.mem_of_getElem? (i := 1739) (by decide +kernel), List.mem_of_getElem? (i := 1740) (by decide +kernel)⟩
def lw_privs_7 : List (MethodName × Nat) := [(⟨"LastSeenModel", "onlyOf", "(II)I"⟩, 75)]
theorem lw_r7 : ∀ q ∈ lw_privs_7, lw_okq q := List.forall_mem_cons.mpr ⟨lw_p96, fun _ h => absurd h List.not_mem_nil⟩
def lw_privs : List (MethodName × Nat) := lw_privs_1 ++ (lw_privs_2 ++ (lw_privs_3 ++ (lw_privs_4 ++ (lw_privs_5 ++ (lw_privs_6 ++ (lw_privs_7))))))
def lw_tbl : List Cond := k2_sels lw_privs ++ tables_1
theorem lw_privs_ok : ∀ q ∈ lw_privs, lw_okq q := by
  show ∀ q ∈ lw_privs_1 ++ (lw_privs_2 ++ (lw_privs_3 ++ (lw_privs_4 ++ (lw_privs_5 ++ (lw_privs_6 ++ (lw_privs_7)))))), lw_okq q
  exact List.forall_mem_append.mpr ⟨lw_r1, List.forall_mem_append.mpr ⟨lw_r2, List.forall_mem_append.mpr ⟨lw_r3, List.forall_mem_append.mpr ⟨lw_r4, List.forall_mem_append.mpr ⟨lw_r5, List.forall_mem_append.mpr ⟨lw_r6, lw_r7⟩⟩⟩⟩⟩⟩
def y_LS_init : MethodName := ⟨"LastSeen", "<init>", "()V"⟩
def y_LS_road : MethodName := ⟨"LastSeen", "road", "(III)I"⟩
def y_LS_far : MethodName := ⟨"LastSeen", "far", "(II)I"⟩
def y_LS_feed : MethodName := ⟨"LastSeen", "feed", "(JI)I"⟩
def y_LS_name : MethodName := ⟨"LastSeen", "name", "()I"⟩
def y_LS_key : MethodName := ⟨"LastSeen", "key", "(II)I"⟩
def y_LS_join : MethodName := ⟨"LastSeen", "join", "(II)I"⟩
def y_LS_part : MethodName := ⟨"LastSeen", "part", "(II)I"⟩
def y_LS_link : MethodName := ⟨"LastSeen", "link", "(III)I"⟩
def y_LS_person : MethodName := ⟨"LastSeen", "person", "(II)I"⟩
def y_LS_tie : MethodName := ⟨"LastSeen", "tie", "(III)I"⟩
def y_LS_word : MethodName := ⟨"LastSeen", "word", "(IIIIII)I"⟩
def y_LS_withdraw : MethodName := ⟨"LastSeen", "withdraw", "(I)I"⟩
def y_LS_about : MethodName := ⟨"LastSeen", "about", "(III)I"⟩
def y_LS_root : MethodName := ⟨"LastSeen", "root", "(III)I"⟩
def y_LS_eyes : MethodName := ⟨"LastSeen", "eyes", "(II)I"⟩
def y_LS_can : MethodName := ⟨"LastSeen", "can", "(II)I"⟩
def y_LS_quarrel : MethodName := ⟨"LastSeen", "quarrel", "(III)I"⟩
def y_LS_could : MethodName := ⟨"LastSeen", "could", "(IIII)I"⟩
def y_LS_last : MethodName := ⟨"LastSeen", "last", "(II)I"⟩
def y_LS_rule : MethodName := ⟨"LastSeen", "rule", "()I"⟩
def y_LS_finding : MethodName := ⟨"LastSeen", "finding", "(II)I"⟩
def y_LS_find : MethodName := ⟨"LastSeen", "find", "(I)I"⟩
def y_LS_found : MethodName := ⟨"LastSeen", "found", "(II)I"⟩
def y_LS_bone : MethodName := ⟨"LastSeen", "bone", "(IIII)I"⟩
def y_LS_bound : MethodName := ⟨"LastSeen", "bound", "(I)I"⟩
def y_LS_least : MethodName := ⟨"LastSeen", "least", "(I)I"⟩
def y_LS_set : MethodName := ⟨"LastSeen", "set", "(IIIII)I"⟩
def y_LS_missing : MethodName := ⟨"LastSeen", "missing", "(IIII)I"⟩
def y_LS_fit : MethodName := ⟨"LastSeen", "fit", "(II)I"⟩
def y_LS_namings : MethodName := ⟨"LastSeen", "namings", "(I)I"⟩
def y_LS_only : MethodName := ⟨"LastSeen", "only", "(II)I"⟩
def y_LS_why : MethodName := ⟨"LastSeen", "why", "(I)I"⟩
def y_LS_give : MethodName := ⟨"LastSeen", "give", "(I)I"⟩
def y_LS_take : MethodName := ⟨"LastSeen", "take", "(I)I"⟩
def y_LS_named : MethodName := ⟨"LastSeen", "named", "(I)I"⟩
def y_LS_count : MethodName := ⟨"LastSeen", "count", "(I)I"⟩
def y_LS_bit : MethodName := ⟨"LastSeen", "bit", "(Z)I"⟩
def y_LS_bitAt : MethodName := ⟨"LastSeen", "bitAt", "(II)I"⟩
def y_LS_isWatch : MethodName := ⟨"LastSeen", "isWatch", "(I)Z"⟩
def y_LS_bookIsFull : MethodName := ⟨"LastSeen", "bookIsFull", "()Z"⟩
def y_LS_upTo : MethodName := ⟨"LastSeen", "upTo", "(I)I"⟩
def y_LS_isName : MethodName := ⟨"LastSeen", "isName", "(I)Z"⟩
def y_LS_isNameBy : MethodName := ⟨"LastSeen", "isNameBy", "(II)Z"⟩
def y_LS_isWordBy : MethodName := ⟨"LastSeen", "isWordBy", "(II)Z"⟩
def y_LS_isSet : MethodName := ⟨"LastSeen", "isSet", "(I)Z"⟩
def y_LS_decree : MethodName := ⟨"LastSeen", "decree", "(III)I"⟩
def y_LS_openAsFound : MethodName := ⟨"LastSeen", "openAsFound", "(I)LLastSeen$Hearing;"⟩
def y_LS_digitOf : MethodName := ⟨"LastSeen", "digitOf", "(IIII)I"⟩
def y_LS_personsNow : MethodName := ⟨"LastSeen", "personsNow", "()I"⟩
def y_LS_standingNow : MethodName := ⟨"LastSeen", "standingNow", "()I"⟩
def y_LS_holding : MethodName := ⟨"LastSeen", "holding", "(II)I"⟩
def y_La_init : MethodName := ⟨"LastSeen$Land", "<init>", "()V"⟩
def y_La_isPlace : MethodName := ⟨"LastSeen$Land", "isPlace", "(I)Z"⟩
def y_La_isFull : MethodName := ⟨"LastSeen$Land", "isFull", "()Z"⟩
def y_La_distance : MethodName := ⟨"LastSeen$Land", "distance", "(II)I"⟩
def y_La_lay : MethodName := ⟨"LastSeen$Land", "lay", "(III)I"⟩
def y_Ta_init : MethodName := ⟨"LastSeen$Tape", "<init>", "()V"⟩
def y_Ta_size : MethodName := ⟨"LastSeen$Tape", "size", "()I"⟩
def y_Ta_hasRoom : MethodName := ⟨"LastSeen$Tape", "hasRoom", "(I)Z"⟩
def y_Ta_at : MethodName := ⟨"LastSeen$Tape", "at", "(I)I"⟩
def y_Ta_append : MethodName := ⟨"LastSeen$Tape", "append", "(JI)I"⟩
def y_Ta_empty : MethodName := ⟨"LastSeen$Tape", "empty", "()V"⟩
def y_Na_init : MethodName := ⟨"LastSeen$Names", "<init>", "()V"⟩
def y_Na_size : MethodName := ⟨"LastSeen$Names", "size", "()I"⟩
def y_Na_entryOf : MethodName := ⟨"LastSeen$Names", "entryOf", "(I)I"⟩
def y_Na_keySize : MethodName := ⟨"LastSeen$Names", "keySize", "(I)I"⟩
def y_Na_keyLetter : MethodName := ⟨"LastSeen$Names", "keyLetter", "(II)I"⟩
def y_Na_canRead : MethodName := ⟨"LastSeen$Names", "canRead", "(LLastSeen$Tape;)Z"⟩
def y_Na_enter : MethodName := ⟨"LastSeen$Names", "enter", "(LLastSeen$Tape;I)I"⟩
def y_Na_alike : MethodName := ⟨"LastSeen$Names", "alike", "(I)I"⟩
def y_Na_blendPh : MethodName := ⟨"LastSeen$Names", "blendPh", "(I)I"⟩
def y_Na_dropBreaths : MethodName := ⟨"LastSeen$Names", "dropBreaths", "(I)I"⟩
def y_Na_dropTwins : MethodName := ⟨"LastSeen$Names", "dropTwins", "(I)I"⟩
def y_Na_dropVowels : MethodName := ⟨"LastSeen$Names", "dropVowels", "(I)I"⟩
def y_Na_isVowel : MethodName := ⟨"LastSeen$Names", "isVowel", "(I)Z"⟩
def y_Na_decree : MethodName := ⟨"LastSeen$Names", "decree", "(IIII)V"⟩
def y_Na_readBy : MethodName := ⟨"LastSeen$Names", "readBy", "(I)V"⟩
def y_Na_readKeys : MethodName := ⟨"LastSeen$Names", "readKeys", "()V"⟩
def y_Na_tieTogether : MethodName := ⟨"LastSeen$Names", "tieTogether", "(III)V"⟩
def y_Na_sameKey : MethodName := ⟨"LastSeen$Names", "sameKey", "(II)Z"⟩
def y_Na_readPersons : MethodName := ⟨"LastSeen$Names", "readPersons", "()V"⟩
def y_Na_spreadFrom : MethodName := ⟨"LastSeen$Names", "spreadFrom", "(I)V"⟩
def y_Na_bond : MethodName := ⟨"LastSeen$Names", "bond", "(II)I"⟩
def y_Na_leastOf : MethodName := ⟨"LastSeen$Names", "leastOf", "(I)I"⟩
def y_Na_namesOf : MethodName := ⟨"LastSeen$Names", "namesOf", "(I)I"⟩
def y_Na_areTied : MethodName := ⟨"LastSeen$Names", "areTied", "(II)Z"⟩
def y_Na_readTie : MethodName := ⟨"LastSeen$Names", "readTie", "(II)I"⟩
def y_Na_tieName : MethodName := ⟨"LastSeen$Names", "tieName", "(I)I"⟩
def y_Na_countStepsTo : MethodName := ⟨"LastSeen$Names", "countStepsTo", "(I)V"⟩
def y_Na_nearerThan : MethodName := ⟨"LastSeen$Names", "nearerThan", "(I)I"⟩
def y_Wo_init : MethodName := ⟨"LastSeen$Words", "<init>", "()V"⟩
def y_Wo_size : MethodName := ⟨"LastSeen$Words", "size", "()I"⟩
def y_Wo_enter : MethodName := ⟨"LastSeen$Words", "enter", "(IIII)I"⟩
def y_Wo_placeAt : MethodName := ⟨"LastSeen$Words", "placeAt", "(IIII)V"⟩
def y_Wo_drop : MethodName := ⟨"LastSeen$Words", "drop", "(II)V"⟩
def y_Wo_isWithdrawn : MethodName := ⟨"LastSeen$Words", "isWithdrawn", "(I)Z"⟩
def y_Wo_entryOf : MethodName := ⟨"LastSeen$Words", "entryOf", "(I)I"⟩
def y_Wo_nameOf : MethodName := ⟨"LastSeen$Words", "nameOf", "(I)I"⟩
def y_Wo_rootOf : MethodName := ⟨"LastSeen$Words", "rootOf", "(I)I"⟩
def y_Wo_witnessOf : MethodName := ⟨"LastSeen$Words", "witnessOf", "(I)I"⟩
def y_Wo_placesOf : MethodName := ⟨"LastSeen$Words", "placesOf", "(I)I"⟩
def y_Wo_firstOf : MethodName := ⟨"LastSeen$Words", "firstOf", "(I)I"⟩
def y_Wo_lastOf : MethodName := ⟨"LastSeen$Words", "lastOf", "(I)I"⟩
def y_Wo_isHeard : MethodName := ⟨"LastSeen$Words", "isHeard", "(I)Z"⟩
def y_Wo_readBy : MethodName := ⟨"LastSeen$Words", "readBy", "(II)V"⟩
def y_Wo_stands : MethodName := ⟨"LastSeen$Words", "stands", "(I)Z"⟩
def y_Wo_standing : MethodName := ⟨"LastSeen$Words", "standing", "()I"⟩
def y_Wa_init : MethodName := ⟨"LastSeen$Walk", "<init>", "(LLastSeen$Land;)V"⟩
def y_Wa_empty : MethodName := ⟨"LastSeen$Walk", "empty", "()V"⟩
def y_Wa_add : MethodName := ⟨"LastSeen$Walk", "add", "(III)V"⟩
def y_Wa_all : MethodName := ⟨"LastSeen$Walk", "all", "()I"⟩
def y_Wa_go : MethodName := ⟨"LastSeen$Walk", "go", "()V"⟩
def y_Wa_isWalkable : MethodName := ⟨"LastSeen$Walk", "isWalkable", "(I)Z"⟩
def y_Wa_readReach : MethodName := ⟨"LastSeen$Walk", "readReach", "(I)V"⟩
def y_Wa_stayAt : MethodName := ⟨"LastSeen$Walk", "stayAt", "(II)V"⟩
def y_Wa_leastQuarrel : MethodName := ⟨"LastSeen$Walk", "leastQuarrel", "()I"⟩
def y_He_init : MethodName := ⟨"LastSeen$Hearing", "<init>", "(LLastSeen$Names;LLastSeen$Words;LLastSeen$Walk;)V"⟩
def y_He_open : MethodName := ⟨"LastSeen$Hearing", "open", "(III)V"⟩
def y_He_readWords : MethodName := ⟨"LastSeen$Hearing", "readWords", "()V"⟩
def y_He_readRoots : MethodName := ⟨"LastSeen$Hearing", "readRoots", "()V"⟩
def y_He_readLatest : MethodName := ⟨"LastSeen$Hearing", "readLatest", "()V"⟩
def y_He_rootCount : MethodName := ⟨"LastSeen$Hearing", "rootCount", "()I"⟩
def y_He_rootAt : MethodName := ⟨"LastSeen$Hearing", "rootAt", "(I)I"⟩
def y_He_witnesses : MethodName := ⟨"LastSeen$Hearing", "witnesses", "()I"⟩
def y_He_latestRoot : MethodName := ⟨"LastSeen$Hearing", "latestRoot", "()I"⟩
def y_He_leanCount : MethodName := ⟨"LastSeen$Hearing", "leanCount", "()I"⟩
def y_He_leanAt : MethodName := ⟨"LastSeen$Hearing", "leanAt", "(I)I"⟩
def y_He_loadWalk : MethodName := ⟨"LastSeen$Hearing", "loadWalk", "()V"⟩
def y_He_weigh : MethodName := ⟨"LastSeen$Hearing", "weigh", "()V"⟩
def y_He_agrees : MethodName := ⟨"LastSeen$Hearing", "agrees", "()Z"⟩
def y_He_agreesWith : MethodName := ⟨"LastSeen$Hearing", "agreesWith", "(II)Z"⟩
def y_He_leastQuarrel : MethodName := ⟨"LastSeen$Hearing", "leastQuarrel", "()I"⟩
def y_He_measure : MethodName := ⟨"LastSeen$Hearing", "measure", "(I)I"⟩
def y_Ru_init : MethodName := ⟨"LastSeen$Rules", "<init>", "()V"⟩
def y_Ru_size : MethodName := ⟨"LastSeen$Rules", "size", "()I"⟩
def y_Ru_check : MethodName := ⟨"LastSeen$Rules", "check", "(LLastSeen$Tape;)I"⟩
def y_Ru_enter : MethodName := ⟨"LastSeen$Rules", "enter", "(LLastSeen$Tape;II)V"⟩
def y_Ru_latestBy : MethodName := ⟨"LastSeen$Rules", "latestBy", "(I)I"⟩
def y_Ru_after : MethodName := ⟨"LastSeen$Rules", "after", "(II)I"⟩
def y_Ru_afterStart : MethodName := ⟨"LastSeen$Rules", "afterStart", "(I)I"⟩
def y_Ru_afterOpening : MethodName := ⟨"LastSeen$Rules", "afterOpening", "(I)I"⟩
def y_Ru_afterFirstDigit : MethodName := ⟨"LastSeen$Rules", "afterFirstDigit", "(I)I"⟩
def y_Ru_afterDigit : MethodName := ⟨"LastSeen$Rules", "afterDigit", "()I"⟩
def y_Ru_afterFact : MethodName := ⟨"LastSeen$Rules", "afterFact", "(I)I"⟩
def y_Ru_afterClause : MethodName := ⟨"LastSeen$Rules", "afterClause", "(I)I"⟩
def y_Ru_isLetter : MethodName := ⟨"LastSeen$Rules", "isLetter", "(I)Z"⟩
def y_Ru_isSign : MethodName := ⟨"LastSeen$Rules", "isSign", "(I)Z"⟩
def y_Ru_isDigit : MethodName := ⟨"LastSeen$Rules", "isDigit", "(I)Z"⟩
def y_Ru_asksWhetherCan : MethodName := ⟨"LastSeen$Rules", "asksWhetherCan", "(I)Z"⟩
def y_Ru_textAt : MethodName := ⟨"LastSeen$Rules", "textAt", "(II)I"⟩
def y_Ru_decide : MethodName := ⟨"LastSeen$Rules", "decide", "(ILLastSeen$Hearing;)I"⟩
def y_Ru_isSo : MethodName := ⟨"LastSeen$Rules", "isSo", "(ILLastSeen$Hearing;)Z"⟩
def y_Ru_joinRow : MethodName := ⟨"LastSeen$Rules", "joinRow", "(IZ)V"⟩
def y_Ru_closeRow : MethodName := ⟨"LastSeen$Rules", "closeRow", "(I)V"⟩
def y_Ru_openGroup : MethodName := ⟨"LastSeen$Rules", "openGroup", "(IZ)V"⟩
def y_Ru_groupIsSo : MethodName := ⟨"LastSeen$Rules", "groupIsSo", "(I)Z"⟩
def y_Ru_factIsSo : MethodName := ⟨"LastSeen$Rules", "factIsSo", "(ILLastSeen$Hearing;)Z"⟩
def y_Bn_init : MethodName := ⟨"LastSeen$Bones", "<init>", "()V"⟩
def y_Bn_heapOf : MethodName := ⟨"LastSeen$Bones", "heapOf", "(III)I"⟩
def y_Bn_isFull : MethodName := ⟨"LastSeen$Bones", "isFull", "(III)Z"⟩
def y_Bn_lay : MethodName := ⟨"LastSeen$Bones", "lay", "(IIII)I"⟩
def y_Bn_changeBound : MethodName := ⟨"LastSeen$Bones", "changeBound", "(I)I"⟩
def y_Bn_leastPersons : MethodName := ⟨"LastSeen$Bones", "leastPersons", "(I)I"⟩
def y_Bn_couples : MethodName := ⟨"LastSeen$Bones", "couples", "(II)I"⟩
def y_Gr_init : MethodName := ⟨"LastSeen$Graves", "<init>", "(LLastSeen$Names;)V"⟩
def y_Gr_isGrave : MethodName := ⟨"LastSeen$Graves", "isGrave", "(I)Z"⟩
def y_Gr_isHeight : MethodName := ⟨"LastSeen$Graves", "isHeight", "(I)Z"⟩
def y_Gr_areMarks : MethodName := ⟨"LastSeen$Graves", "areMarks", "(II)Z"⟩
def y_Gr_sets : MethodName := ⟨"LastSeen$Graves", "sets", "()I"⟩
def y_Gr_lost : MethodName := ⟨"LastSeen$Graves", "lost", "()I"⟩
def y_Gr_areSets : MethodName := ⟨"LastSeen$Graves", "areSets", "(I)Z"⟩
def y_Gr_addSet : MethodName := ⟨"LastSeen$Graves", "addSet", "(IIIII)I"⟩
def y_Gr_lostIndex : MethodName := ⟨"LastSeen$Graves", "lostIndex", "(I)I"⟩
def y_Gr_lostName : MethodName := ⟨"LastSeen$Graves", "lostName", "(I)I"⟩
def y_Gr_addLost : MethodName := ⟨"LastSeen$Graves", "addLost", "(I)I"⟩
def y_Gr_describe : MethodName := ⟨"LastSeen$Graves", "describe", "(IIII)V"⟩
def y_Gr_isTaken : MethodName := ⟨"LastSeen$Graves", "isTaken", "(I)Z"⟩
def y_Gr_suits : MethodName := ⟨"LastSeen$Graves", "suits", "(II)Z"⟩
def y_Gr_readChoices : MethodName := ⟨"LastSeen$Graves", "readChoices", "(I)V"⟩
def y_Gr_firstOneWith : MethodName := ⟨"LastSeen$Graves", "firstOneWith", "(I)I"⟩
def y_Gr_canGet : MethodName := ⟨"LastSeen$Graves", "canGet", "(II)Z"⟩
def y_Gr_isBarred : MethodName := ⟨"LastSeen$Graves", "isBarred", "(I)Z"⟩
def y_Gr_ways : MethodName := ⟨"LastSeen$Graves", "ways", "(I)I"⟩
def y_Gr_waysWith : MethodName := ⟨"LastSeen$Graves", "waysWith", "(II)I"⟩
def y_Gr_spellings : MethodName := ⟨"LastSeen$Graves", "spellings", "(II)I"⟩
def y_Gr_shortage : MethodName := ⟨"LastSeen$Graves", "shortage", "(II)I"⟩
def y_Gr_readHeirs : MethodName := ⟨"LastSeen$Graves", "readHeirs", "()V"⟩
def y_Gr_personsFor : MethodName := ⟨"LastSeen$Graves", "personsFor", "(I)I"⟩
def y_Gr_soleChoice : MethodName := ⟨"LastSeen$Graves", "soleChoice", "(II)I"⟩
def y_Gr_setsBeside : MethodName := ⟨"LastSeen$Graves", "setsBeside", "(I)I"⟩
def y_Gr_givenTo : MethodName := ⟨"LastSeen$Graves", "givenTo", "(I)I"⟩
def y_Gr_entitle : MethodName := ⟨"LastSeen$Graves", "entitle", "(II)V"⟩
def y_Gr_strip : MethodName := ⟨"LastSeen$Graves", "strip", "(I)I"⟩
def y_Gr_givenSets : MethodName := ⟨"LastSeen$Graves", "givenSets", "()I"⟩
def y_Md_init : MethodName := ⟨"LastSeenModel", "<init>", "()V"⟩
def y_Md_isIn : MethodName := ⟨"LastSeenModel", "isIn", "(JJJ)Z"⟩
def y_Md_isPlace : MethodName := ⟨"LastSeenModel", "isPlace", "(I)Z"⟩
def y_Md_isName : MethodName := ⟨"LastSeenModel", "isName", "(I)Z"⟩
def y_Md_isWord : MethodName := ⟨"LastSeenModel", "isWord", "(I)Z"⟩
def y_Md_bits : MethodName := ⟨"LastSeenModel", "bits", "(I)I"⟩
def y_Md_road : MethodName := ⟨"LastSeenModel", "road", "(III)I"⟩
def y_Md_far : MethodName := ⟨"LastSeenModel", "far", "(II)I"⟩
def y_Md_enters : MethodName := ⟨"LastSeenModel", "enters", "(III)V"⟩
def y_Md_isTold : MethodName := ⟨"LastSeenModel", "isTold", "(I)Z"⟩
def y_Md_by : MethodName := ⟨"LastSeenModel", "by", "(I)I"⟩
def y_Md_feed : MethodName := ⟨"LastSeenModel", "feed", "(JI)I"⟩
def y_Md_plain : MethodName := ⟨"LastSeenModel", "plain", "(I)I"⟩
def y_Md_isVowel : MethodName := ⟨"LastSeenModel", "isVowel", "(I)Z"⟩
def y_Md_drops : MethodName := ⟨"LastSeenModel", "drops", "(I)V"⟩
def y_Md_findKey : MethodName := ⟨"LastSeenModel", "findKey", "(I)V"⟩
def y_Md_name : MethodName := ⟨"LastSeenModel", "name", "()I"⟩
def y_Md_key : MethodName := ⟨"LastSeenModel", "key", "(II)I"⟩
def y_Md_haveOneKey : MethodName := ⟨"LastSeenModel", "haveOneKey", "(II)Z"⟩
def y_Md_relates : MethodName := ⟨"LastSeenModel", "relates", "(III)I"⟩
def y_Md_join : MethodName := ⟨"LastSeenModel", "join", "(II)I"⟩
def y_Md_part : MethodName := ⟨"LastSeenModel", "part", "(II)I"⟩
def y_Md_looks : MethodName := ⟨"LastSeenModel", "looks", "(I)V"⟩
def y_Md_findPersons : MethodName := ⟨"LastSeenModel", "findPersons", "()V"⟩
def y_Md_link : MethodName := ⟨"LastSeenModel", "link", "(III)I"⟩
def y_Md_isThere : MethodName := ⟨"LastSeenModel", "isThere", "(II)Z"⟩
def y_Md_person : MethodName := ⟨"LastSeenModel", "person", "(II)I"⟩
def y_Md_tie : MethodName := ⟨"LastSeenModel", "tie", "(III)I"⟩
def y_Md_word : MethodName := ⟨"LastSeenModel", "word", "(IIIIII)I"⟩
def y_Md_standing : MethodName := ⟨"LastSeenModel", "standing", "()I"⟩
def y_Md_withdraw : MethodName := ⟨"LastSeenModel", "withdraw", "(I)I"⟩
def y_Md_about : MethodName := ⟨"LastSeenModel", "about", "(III)I"⟩
def y_Md_findRoots : MethodName := ⟨"LastSeenModel", "findRoots", "(I)V"⟩
def y_Md_root : MethodName := ⟨"LastSeenModel", "root", "(III)I"⟩
def y_Md_eyesOf : MethodName := ⟨"LastSeenModel", "eyesOf", "()I"⟩
def y_Md_eyes : MethodName := ⟨"LastSeenModel", "eyes", "(II)I"⟩
def y_Md_takesRoots : MethodName := ⟨"LastSeenModel", "takesRoots", "()V"⟩
def y_Md_fillEarliest : MethodName := ⟨"LastSeenModel", "fillEarliest", "()V"⟩
def y_Md_comesAt : MethodName := ⟨"LastSeenModel", "comesAt", "(III)I"⟩
def y_Md_canBe : MethodName := ⟨"LastSeenModel", "canBe", "(I)Z"⟩
def y_Md_canAll : MethodName := ⟨"LastSeenModel", "canAll", "()Z"⟩
def y_Md_can : MethodName := ⟨"LastSeenModel", "can", "(II)I"⟩
def y_Md_quarrel : MethodName := ⟨"LastSeenModel", "quarrel", "(III)I"⟩
def y_Md_could : MethodName := ⟨"LastSeenModel", "could", "(IIII)I"⟩
def y_Md_lastRoot : MethodName := ⟨"LastSeenModel", "lastRoot", "()I"⟩
def y_Md_last : MethodName := ⟨"LastSeenModel", "last", "(II)I"⟩
def y_Md_sign : MethodName := ⟨"LastSeenModel", "sign", "()I"⟩
def y_Md_isDigit : MethodName := ⟨"LastSeenModel", "isDigit", "(I)Z"⟩
def y_Md_isField : MethodName := ⟨"LastSeenModel", "isField", "(I)Z"⟩
def y_Md_writes : MethodName := ⟨"LastSeenModel", "writes", "(I)V"⟩
def y_Md_unstacks : MethodName := ⟨"LastSeenModel", "unstacks", "(I)V"⟩
def y_Md_operand : MethodName := ⟨"LastSeenModel", "operand", "()Z"⟩
def y_Md_when : MethodName := ⟨"LastSeenModel", "when", "()Z"⟩
def y_Md_takes : MethodName := ⟨"LastSeenModel", "takes", "(I)Z"⟩
def y_Md_isElse : MethodName := ⟨"LastSeenModel", "isElse", "(I)Z"⟩
def y_Md_parses : MethodName := ⟨"LastSeenModel", "parses", "()Z"⟩
def y_Md_rule : MethodName := ⟨"LastSeenModel", "rule", "()I"⟩
def y_Md_namesOf : MethodName := ⟨"LastSeenModel", "namesOf", "(I)I"⟩
def y_Md_heardBy : MethodName := ⟨"LastSeenModel", "heardBy", "(I)I"⟩
def y_Md_findFacts : MethodName := ⟨"LastSeenModel", "findFacts", "(I)V"⟩
def y_Md_isSo : MethodName := ⟨"LastSeenModel", "isSo", "(III)Z"⟩
def y_Md_digitOf : MethodName := ⟨"LastSeenModel", "digitOf", "(II)I"⟩
def y_Md_finding : MethodName := ⟨"LastSeenModel", "finding", "(II)I"⟩
def y_Md_find : MethodName := ⟨"LastSeenModel", "find", "(I)I"⟩
def y_Md_isHeld : MethodName := ⟨"LastSeenModel", "isHeld", "(I)Z"⟩
def y_Md_leans : MethodName := ⟨"LastSeenModel", "leans", "(II)I"⟩
def y_Md_found : MethodName := ⟨"LastSeenModel", "found", "(II)I"⟩
def y_Md_bone : MethodName := ⟨"LastSeenModel", "bone", "(IIII)I"⟩
def y_Md_bound : MethodName := ⟨"LastSeenModel", "bound", "(I)I"⟩
def y_Md_couples : MethodName := ⟨"LastSeenModel", "couples", "(II)I"⟩
def y_Md_least : MethodName := ⟨"LastSeenModel", "least", "(I)I"⟩
def y_Md_isSet : MethodName := ⟨"LastSeenModel", "isSet", "(I)Z"⟩
def y_Md_areMarks : MethodName := ⟨"LastSeenModel", "areMarks", "(II)Z"⟩
def y_Md_set : MethodName := ⟨"LastSeenModel", "set", "(IIIII)I"⟩
def y_Md_missingOf : MethodName := ⟨"LastSeenModel", "missingOf", "(I)I"⟩
def y_Md_isGiven : MethodName := ⟨"LastSeenModel", "isGiven", "(I)Z"⟩
def y_Md_missing : MethodName := ⟨"LastSeenModel", "missing", "(IIII)I"⟩
def y_Md_fits : MethodName := ⟨"LastSeenModel", "fits", "(II)Z"⟩
def y_Md_fit : MethodName := ⟨"LastSeenModel", "fit", "(II)I"⟩
def y_Md_findFirsts : MethodName := ⟨"LastSeenModel", "findFirsts", "()V"⟩
def y_Md_mayGet : MethodName := ⟨"LastSeenModel", "mayGet", "(II)Z"⟩
def y_Md_waysOf : MethodName := ⟨"LastSeenModel", "waysOf", "(III)I"⟩
def y_Md_areSets : MethodName := ⟨"LastSeenModel", "areSets", "(I)Z"⟩
def y_Md_namings : MethodName := ⟨"LastSeenModel", "namings", "(I)I"⟩
def y_Md_onlyOf : MethodName := ⟨"LastSeenModel", "onlyOf", "(II)I"⟩
def y_Md_only : MethodName := ⟨"LastSeenModel", "only", "(II)I"⟩
def y_Md_why : MethodName := ⟨"LastSeenModel", "why", "(I)I"⟩
def y_Md_give : MethodName := ⟨"LastSeenModel", "give", "(I)I"⟩
def y_Md_take : MethodName := ⟨"LastSeenModel", "take", "(I)I"⟩
def y_Md_named : MethodName := ⟨"LastSeenModel", "named", "(I)I"⟩
def y_Md_count : MethodName := ⟨"LastSeenModel", "count", "(I)I"⟩
def y_Jl_bitCount : MethodName := ⟨"java/lang/Integer", "bitCount", "(I)I"⟩
def lw_ok : List Cond := lw_tbl.filter goodWord
theorem lw_ok_g {w : Cond} (h : w ∈ lw_ok) : goodWord w = true := (List.mem_filter.mp h).2
theorem lw_ok_in {w : Cond} (h : w ∈ lw_ok) : w ∈ lw_tbl := (List.mem_filter.mp h).1
theorem lw_up_0 {w : Cond} (h : w ∈ k2_sels lw_privs) (hg : goodWord w = true) : w ∈ lw_ok := List.mem_filter.mpr ⟨List.mem_append_left _ h, hg⟩
theorem lw_up {w : Cond} (h : w ∈ tables_1) (hg : goodWord w = true) : w ∈ lw_ok := List.mem_filter.mpr ⟨List.mem_append_right _ h, hg⟩
theorem lw_up_1 {w : Cond} (h : w ∈ tables_1_1) (hg : goodWord w = true) : w ∈ lw_ok := lw_up (List.mem_append_left _ h) hg
theorem lw_up_2 {w : Cond} (h : w ∈ tables_1_2) (hg : goodWord w = true) : w ∈ lw_ok := lw_up (List.mem_append_right _ (List.mem_append_left _ h)) hg
theorem lw_up_3 {w : Cond} (h : w ∈ tables_1_3) (hg : goodWord w = true) : w ∈ lw_ok := lw_up (List.mem_append_right _ (List.mem_append_right _ (List.mem_append_left _ h))) hg
theorem lw_up_4 {w : Cond} (h : w ∈ tables_1_4) (hg : goodWord w = true) : w ∈ lw_ok := lw_up (List.mem_append_right _ (List.mem_append_right _ (List.mem_append_right _ (List.mem_append_left _ h)))) hg
theorem lw_up_5 {w : Cond} (h : w ∈ tables_1_5) (hg : goodWord w = true) : w ∈ lw_ok := lw_up (List.mem_append_right _ (List.mem_append_right _ (List.mem_append_right _ (List.mem_append_right _ (List.mem_append_left _ h))))) hg
theorem lw_up_6 {w : Cond} (h : w ∈ tables_1_6) (hg : goodWord w = true) : w ∈ lw_ok := lw_up (List.mem_append_right _ (List.mem_append_right _ (List.mem_append_right _ (List.mem_append_right _ (List.mem_append_right _ (List.mem_append_left _ h)))))) hg
theorem lw_up_7 {w : Cond} (h : w ∈ tables_1_7) (hg : goodWord w = true) : w ∈ lw_ok := lw_up (List.mem_append_right _ (List.mem_append_right _ (List.mem_append_right _ (List.mem_append_right _ (List.mem_append_right _ (List.mem_append_right _ (List.mem_append_left _ h))))))) hg
theorem lw_up_8 {w : Cond} (h : w ∈ tables_1_8) (hg : goodWord w = true) : w ∈ lw_ok := lw_up (List.mem_append_right _ (List.mem_append_right _ (List.mem_append_right _ (List.mem_append_right _ (List.mem_append_right _ (List.mem_append_right _ (List.mem_append_right _ (h)))))))) hg
theorem gd_in {y : MethodName} {bytes : ByteArray} {maxL : Nat} {ret : Option FieldType} (w5 : Cond.code y bytes maxL ret ∈ lw_ok) : GoodIn lw_ok (Cond.code y bytes maxL ret :: lw_ok) := fun w hw => (List.mem_cons.mp hw).elim (fun e => e ▸ ⟨w5, good_of_word (lw_ok_g w5)⟩) (fun h => ⟨h, good_of_word (lw_ok_g h)⟩)
theorem wc_y_La_distance : Cond.code y_La_distance prog_5_method_4_code 3 (some .int) ∈ lw_ok := lw_up_2 (List.mem_of_getElem? (i := 168) rfl) rfl
theorem wi_y_La_distance : Cond.instanceMethod y_La_distance ∈ lw_ok := lw_up_2 (List.mem_of_getElem? (i := 166) rfl) rfl
theorem ws_y_La_distance : Cond.selects y_La_distance.cls y_La_distance y_La_distance ∈ lw_ok := lw_up_2 (List.mem_of_getElem? (i := 167) rfl) rfl
theorem wn_La : Cond.initialized "LastSeen$Land" ∈ lw_ok := lw_up_1 (List.mem_of_getElem? (i := 2) rfl) rfl
theorem wl_La_18 : Cond.methodLink "LastSeen$Land" 18 y_La_distance ∈ lw_ok := lw_up_2 (List.mem_of_getElem? (i := 165) rfl) rfl
theorem wl_La_22 : Cond.methodLink "LastSeen$Land" 22 Lib.Math.min.name ∈ lw_ok := lw_up_2 (List.mem_of_getElem? (i := 169) rfl) rfl
theorem wc_y_La_isPlace : Cond.code y_La_isPlace prog_5_method_2_code 1 (some .boolean) ∈ lw_ok := lw_up_2 (List.mem_of_getElem? (i := 156) rfl) rfl
theorem wt_y_La_isPlace : Cond.static y_La_isPlace ∈ lw_ok := lw_up_2 (List.mem_of_getElem? (i := 155) rfl) rfl
theorem wl_LS_87 : Cond.methodLink "LastSeen" 87 y_La_isPlace ∈ lw_ok := lw_up_2 (List.mem_of_getElem? (i := 154) rfl) rfl
theorem wc_y_La_isFull : Cond.code y_La_isFull prog_5_method_3_code 1 (some .boolean) ∈ lw_ok := lw_up_2 (List.mem_of_getElem? (i := 160) rfl) rfl
theorem wi_y_La_isFull : Cond.instanceMethod y_La_isFull ∈ lw_ok := lw_up_2 (List.mem_of_getElem? (i := 158) rfl) rfl
theorem ws_y_La_isFull : Cond.selects y_La_isFull.cls y_La_isFull y_La_isFull ∈ lw_ok := lw_up_2 (List.mem_of_getElem? (i := 159) rfl) rfl
theorem wl_LS_91 : Cond.methodLink "LastSeen" 91 y_La_isFull ∈ lw_ok := lw_up_2 (List.mem_of_getElem? (i := 157) rfl) rfl
theorem wc_y_La_lay : Cond.code y_La_lay prog_5_method_5_code 9 (some .int) ∈ lw_ok := lw_up_2 (List.mem_of_getElem? (i := 164) rfl) rfl
theorem wi_y_La_lay : Cond.instanceMethod y_La_lay ∈ lw_ok := lw_up_2 (List.mem_of_getElem? (i := 162) rfl) rfl
theorem ws_y_La_lay : Cond.selects y_La_lay.cls y_La_lay y_La_lay ∈ lw_ok := lw_up_2 (List.mem_of_getElem? (i := 163) rfl) rfl
theorem wl_LS_95 : Cond.methodLink "LastSeen" 95 y_La_lay ∈ lw_ok := lw_up_2 (List.mem_of_getElem? (i := 161) rfl) rfl
theorem wl_LS_99 : Cond.methodLink "LastSeen" 99 y_La_distance ∈ lw_ok := lw_up_2 (List.mem_of_getElem? (i := 176) rfl) rfl
theorem wk_LS_103 : Cond.constant "LastSeen" 103 (1000000) ∈ lw_ok := lw_up_2 (List.mem_of_getElem? (i := 177) rfl) rfl
theorem wc_y_Ta_hasRoom : Cond.code y_Ta_hasRoom prog_8_method_3_code 2 (some .boolean) ∈ lw_ok := lw_up_2 (List.mem_of_getElem? (i := 185) rfl) rfl
theorem wi_y_Ta_hasRoom : Cond.instanceMethod y_Ta_hasRoom ∈ lw_ok := lw_up_2 (List.mem_of_getElem? (i := 183) rfl) rfl
theorem ws_y_Ta_hasRoom : Cond.selects y_Ta_hasRoom.cls y_Ta_hasRoom y_Ta_hasRoom ∈ lw_ok := lw_up_2 (List.mem_of_getElem? (i := 184) rfl) rfl
theorem wn_Ta : Cond.initialized "LastSeen$Tape" ∈ lw_ok := lw_up_1 (List.mem_of_getElem? (i := 3) rfl) rfl
theorem wl_LS_104 : Cond.methodLink "LastSeen" 104 y_Ta_hasRoom ∈ lw_ok := lw_up_2 (List.mem_of_getElem? (i := 182) rfl) rfl
theorem wc_y_Ta_append : Cond.code y_Ta_append prog_8_method_5_code 5 (some .int) ∈ lw_ok := lw_up_2 (List.mem_of_getElem? (i := 189) rfl) rfl
theorem wi_y_Ta_append : Cond.instanceMethod y_Ta_append ∈ lw_ok := lw_up_2 (List.mem_of_getElem? (i := 187) rfl) rfl
theorem ws_y_Ta_append : Cond.selects y_Ta_append.cls y_Ta_append y_Ta_append ∈ lw_ok := lw_up_2 (List.mem_of_getElem? (i := 188) rfl) rfl
theorem wl_LS_107 : Cond.methodLink "LastSeen" 107 y_Ta_append ∈ lw_ok := lw_up_2 (List.mem_of_getElem? (i := 186) rfl) rfl
theorem wc_y_Ta_size : Cond.code y_Ta_size prog_8_method_2_code 1 (some .int) ∈ lw_ok := lw_up_2 (List.mem_of_getElem? (i := 200) rfl) rfl
theorem wi_y_Ta_size : Cond.instanceMethod y_Ta_size ∈ lw_ok := lw_up_2 (List.mem_of_getElem? (i := 198) rfl) rfl
theorem ws_y_Ta_size : Cond.selects y_Ta_size.cls y_Ta_size y_Ta_size ∈ lw_ok := lw_up_2 (List.mem_of_getElem? (i := 199) rfl) rfl
theorem wl_Na_52 : Cond.methodLink "LastSeen$Names" 52 y_Ta_size ∈ lw_ok := lw_up_2 (List.mem_of_getElem? (i := 197) rfl) rfl
theorem wc_y_Ta_at : Cond.code y_Ta_at prog_8_method_4_code 2 (some .int) ∈ lw_ok := lw_up_2 (List.mem_of_getElem? (i := 204) rfl) rfl
theorem wi_y_Ta_at : Cond.instanceMethod y_Ta_at ∈ lw_ok := lw_up_2 (List.mem_of_getElem? (i := 202) rfl) rfl
theorem ws_y_Ta_at : Cond.selects y_Ta_at.cls y_Ta_at y_Ta_at ∈ lw_ok := lw_up_2 (List.mem_of_getElem? (i := 203) rfl) rfl
theorem wl_Na_57 : Cond.methodLink "LastSeen$Names" 57 y_Ta_at ∈ lw_ok := lw_up_2 (List.mem_of_getElem? (i := 201) rfl) rfl
theorem wc_y_Na_isVowel : Cond.code y_Na_isVowel prog_6_method_13_code 1 (some .boolean) ∈ lw_ok := lw_up_2 (List.mem_of_getElem? (i := 239) rfl) rfl
theorem wt_y_Na_isVowel : Cond.static y_Na_isVowel ∈ lw_ok := lw_up_2 (List.mem_of_getElem? (i := 238) rfl) rfl
theorem wn_Na : Cond.initialized "LastSeen$Names" ∈ lw_ok := lw_up_1 (List.mem_of_getElem? (i := 4) rfl) rfl
theorem wl_Na_82 : Cond.methodLink "LastSeen$Names" 82 y_Na_isVowel ∈ lw_ok := lw_up_2 (List.mem_of_getElem? (i := 237) rfl) rfl
theorem wl_Na_61 : Cond.methodLink "LastSeen$Names" 61 Lib.Math.min.name ∈ lw_ok := lw_up_2 (List.mem_of_getElem? (i := 217) rfl) rfl
theorem wc_y_Na_blendPh : Cond.code y_Na_blendPh prog_6_method_9_code 5 (some .int) ∈ lw_ok := lw_up_2 (List.mem_of_getElem? (i := 224) rfl) rfl
theorem wi_y_Na_blendPh : Cond.instanceMethod y_Na_blendPh ∈ lw_ok := lw_up_2 (List.mem_of_getElem? (i := 223) rfl) rfl
theorem ws_y_Na_blendPh : Cond.selects y_Na_blendPh.cls y_Na_blendPh y_Na_blendPh ∈ lw_ok := lw_up_0 (List.mem_of_getElem? (i := 1) rfl) rfl
theorem wl_Na_70 : Cond.methodLink "LastSeen$Names" 70 y_Na_blendPh ∈ lw_ok := lw_up_2 (List.mem_of_getElem? (i := 221) rfl) rfl
theorem wc_y_Na_dropBreaths : Cond.code y_Na_dropBreaths prog_6_method_10_code 4 (some .int) ∈ lw_ok := lw_up_2 (List.mem_of_getElem? (i := 228) rfl) rfl
theorem wi_y_Na_dropBreaths : Cond.instanceMethod y_Na_dropBreaths ∈ lw_ok := lw_up_2 (List.mem_of_getElem? (i := 227) rfl) rfl
theorem ws_y_Na_dropBreaths : Cond.selects y_Na_dropBreaths.cls y_Na_dropBreaths y_Na_dropBreaths ∈ lw_ok := lw_up_0 (List.mem_of_getElem? (i := 2) rfl) rfl
theorem wl_Na_73 : Cond.methodLink "LastSeen$Names" 73 y_Na_dropBreaths ∈ lw_ok := lw_up_2 (List.mem_of_getElem? (i := 225) rfl) rfl
theorem wc_y_Na_dropTwins : Cond.code y_Na_dropTwins prog_6_method_11_code 4 (some .int) ∈ lw_ok := lw_up_2 (List.mem_of_getElem? (i := 232) rfl) rfl
theorem wi_y_Na_dropTwins : Cond.instanceMethod y_Na_dropTwins ∈ lw_ok := lw_up_2 (List.mem_of_getElem? (i := 231) rfl) rfl
theorem ws_y_Na_dropTwins : Cond.selects y_Na_dropTwins.cls y_Na_dropTwins y_Na_dropTwins ∈ lw_ok := lw_up_0 (List.mem_of_getElem? (i := 3) rfl) rfl
theorem wl_Na_76 : Cond.methodLink "LastSeen$Names" 76 y_Na_dropTwins ∈ lw_ok := lw_up_2 (List.mem_of_getElem? (i := 229) rfl) rfl
theorem wc_y_Na_dropVowels : Cond.code y_Na_dropVowels prog_6_method_12_code 4 (some .int) ∈ lw_ok := lw_up_2 (List.mem_of_getElem? (i := 236) rfl) rfl
theorem wi_y_Na_dropVowels : Cond.instanceMethod y_Na_dropVowels ∈ lw_ok := lw_up_2 (List.mem_of_getElem? (i := 235) rfl) rfl
theorem ws_y_Na_dropVowels : Cond.selects y_Na_dropVowels.cls y_Na_dropVowels y_Na_dropVowels ∈ lw_ok := lw_up_0 (List.mem_of_getElem? (i := 4) rfl) rfl
theorem wl_Na_79 : Cond.methodLink "LastSeen$Names" 79 y_Na_dropVowels ∈ lw_ok := lw_up_2 (List.mem_of_getElem? (i := 233) rfl) rfl
theorem wc_y_Na_alike : Cond.code y_Na_alike prog_6_method_8_code 1 (some .int) ∈ lw_ok := lw_up_2 (List.mem_of_getElem? (i := 220) rfl) rfl
theorem wt_y_Na_alike : Cond.static y_Na_alike ∈ lw_ok := lw_up_2 (List.mem_of_getElem? (i := 219) rfl) rfl
theorem wl_Na_67 : Cond.methodLink "LastSeen$Names" 67 y_Na_alike ∈ lw_ok := lw_up_2 (List.mem_of_getElem? (i := 218) rfl) rfl
theorem wc_y_Na_canRead : Cond.code y_Na_canRead prog_6_method_6_code 2 (some .boolean) ∈ lw_ok := lw_up_2 (List.mem_of_getElem? (i := 196) rfl) rfl
theorem wt_y_Na_canRead : Cond.static y_Na_canRead ∈ lw_ok := lw_up_2 (List.mem_of_getElem? (i := 195) rfl) rfl
theorem wl_LS_111 : Cond.methodLink "LastSeen" 111 y_Na_canRead ∈ lw_ok := lw_up_2 (List.mem_of_getElem? (i := 194) rfl) rfl
theorem wc_y_Na_size : Cond.code y_Na_size prog_6_method_2_code 1 (some .int) ∈ lw_ok := lw_up_2 (List.mem_of_getElem? (i := 208) rfl) rfl
theorem wi_y_Na_size : Cond.instanceMethod y_Na_size ∈ lw_ok := lw_up_2 (List.mem_of_getElem? (i := 206) rfl) rfl
theorem ws_y_Na_size : Cond.selects y_Na_size.cls y_Na_size y_Na_size ∈ lw_ok := lw_up_2 (List.mem_of_getElem? (i := 207) rfl) rfl
theorem wl_LS_115 : Cond.methodLink "LastSeen" 115 y_Na_size ∈ lw_ok := lw_up_2 (List.mem_of_getElem? (i := 205) rfl) rfl
theorem wc_y_LS_bookIsFull : Cond.code y_LS_bookIsFull prog_1_method_41_code 1 (some .boolean) ∈ lw_ok := lw_up_2 (List.mem_of_getElem? (i := 212) rfl) rfl
theorem wi_y_LS_bookIsFull : Cond.instanceMethod y_LS_bookIsFull ∈ lw_ok := lw_up_2 (List.mem_of_getElem? (i := 211) rfl) rfl
theorem ws_y_LS_bookIsFull : Cond.selects y_LS_bookIsFull.cls y_LS_bookIsFull y_LS_bookIsFull ∈ lw_ok := lw_up_0 (List.mem_of_getElem? (i := 0) rfl) rfl
theorem wn_LS : Cond.initialized "LastSeen" ∈ lw_ok := lw_up_1 (List.mem_of_getElem? (i := 1) rfl) rfl
theorem wl_LS_119 : Cond.methodLink "LastSeen" 119 y_LS_bookIsFull ∈ lw_ok := lw_up_2 (List.mem_of_getElem? (i := 209) rfl) rfl
theorem wc_y_Na_enter : Cond.code y_Na_enter prog_6_method_7_code 5 (some .int) ∈ lw_ok := lw_up_2 (List.mem_of_getElem? (i := 216) rfl) rfl
theorem wi_y_Na_enter : Cond.instanceMethod y_Na_enter ∈ lw_ok := lw_up_2 (List.mem_of_getElem? (i := 214) rfl) rfl
theorem ws_y_Na_enter : Cond.selects y_Na_enter.cls y_Na_enter y_Na_enter ∈ lw_ok := lw_up_2 (List.mem_of_getElem? (i := 215) rfl) rfl
theorem wl_LS_126 : Cond.methodLink "LastSeen" 126 y_Na_enter ∈ lw_ok := lw_up_2 (List.mem_of_getElem? (i := 213) rfl) rfl
theorem wc_y_Ta_empty : Cond.code y_Ta_empty prog_8_method_6_code 1 (none) ∈ lw_ok := lw_up_3 (List.mem_of_getElem? (i := 3) rfl) rfl
theorem wi_y_Ta_empty : Cond.instanceMethod y_Ta_empty ∈ lw_ok := lw_up_3 (List.mem_of_getElem? (i := 1) rfl) rfl
theorem ws_y_Ta_empty : Cond.selects y_Ta_empty.cls y_Ta_empty y_Ta_empty ∈ lw_ok := lw_up_3 (List.mem_of_getElem? (i := 2) rfl) rfl
theorem wl_LS_130 : Cond.methodLink "LastSeen" 130 y_Ta_empty ∈ lw_ok := lw_up_3 (List.mem_of_getElem? (i := 0) rfl) rfl
theorem wc_y_Na_entryOf : Cond.code y_Na_entryOf prog_6_method_3_code 2 (some .int) ∈ lw_ok := lw_up_3 (List.mem_of_getElem? (i := 19) rfl) rfl
theorem wi_y_Na_entryOf : Cond.instanceMethod y_Na_entryOf ∈ lw_ok := lw_up_3 (List.mem_of_getElem? (i := 17) rfl) rfl
theorem ws_y_Na_entryOf : Cond.selects y_Na_entryOf.cls y_Na_entryOf y_Na_entryOf ∈ lw_ok := lw_up_3 (List.mem_of_getElem? (i := 18) rfl) rfl
theorem wl_LS_373 : Cond.methodLink "LastSeen" 373 y_Na_entryOf ∈ lw_ok := lw_up_3 (List.mem_of_getElem? (i := 16) rfl) rfl
theorem wc_y_LS_isNameBy : Cond.code y_LS_isNameBy prog_1_method_44_code 3 (some .boolean) ∈ lw_ok := lw_up_3 (List.mem_of_getElem? (i := 15) rfl) rfl
theorem wi_y_LS_isNameBy : Cond.instanceMethod y_LS_isNameBy ∈ lw_ok := lw_up_3 (List.mem_of_getElem? (i := 14) rfl) rfl
theorem ws_y_LS_isNameBy : Cond.selects y_LS_isNameBy.cls y_LS_isNameBy y_LS_isNameBy ∈ lw_ok := lw_up_0 (List.mem_of_getElem? (i := 6) rfl) rfl
theorem wl_LS_149 : Cond.methodLink "LastSeen" 149 y_LS_isNameBy ∈ lw_ok := lw_up_3 (List.mem_of_getElem? (i := 12) rfl) rfl
theorem wc_y_LS_isName : Cond.code y_LS_isName prog_1_method_43_code 2 (some .boolean) ∈ lw_ok := lw_up_3 (List.mem_of_getElem? (i := 11) rfl) rfl
theorem wi_y_LS_isName : Cond.instanceMethod y_LS_isName ∈ lw_ok := lw_up_3 (List.mem_of_getElem? (i := 10) rfl) rfl
theorem ws_y_LS_isName : Cond.selects y_LS_isName.cls y_LS_isName y_LS_isName ∈ lw_ok := lw_up_0 (List.mem_of_getElem? (i := 5) rfl) rfl
theorem wl_LS_133 : Cond.methodLink "LastSeen" 133 y_LS_isName ∈ lw_ok := lw_up_3 (List.mem_of_getElem? (i := 8) rfl) rfl
theorem wc_y_Na_keySize : Cond.code y_Na_keySize prog_6_method_4_code 2 (some .int) ∈ lw_ok := lw_up_3 (List.mem_of_getElem? (i := 23) rfl) rfl
theorem wi_y_Na_keySize : Cond.instanceMethod y_Na_keySize ∈ lw_ok := lw_up_3 (List.mem_of_getElem? (i := 21) rfl) rfl
theorem ws_y_Na_keySize : Cond.selects y_Na_keySize.cls y_Na_keySize y_Na_keySize ∈ lw_ok := lw_up_3 (List.mem_of_getElem? (i := 22) rfl) rfl
theorem wl_LS_136 : Cond.methodLink "LastSeen" 136 y_Na_keySize ∈ lw_ok := lw_up_3 (List.mem_of_getElem? (i := 20) rfl) rfl
theorem wc_y_Na_keyLetter : Cond.code y_Na_keyLetter prog_6_method_5_code 3 (some .int) ∈ lw_ok := lw_up_3 (List.mem_of_getElem? (i := 27) rfl) rfl
theorem wi_y_Na_keyLetter : Cond.instanceMethod y_Na_keyLetter ∈ lw_ok := lw_up_3 (List.mem_of_getElem? (i := 25) rfl) rfl
theorem ws_y_Na_keyLetter : Cond.selects y_Na_keyLetter.cls y_Na_keyLetter y_Na_keyLetter ∈ lw_ok := lw_up_3 (List.mem_of_getElem? (i := 26) rfl) rfl
theorem wl_LS_140 : Cond.methodLink "LastSeen" 140 y_Na_keyLetter ∈ lw_ok := lw_up_3 (List.mem_of_getElem? (i := 24) rfl) rfl
theorem wc_y_Na_decree : Cond.code y_Na_decree prog_6_method_14_code 5 (none) ∈ lw_ok := lw_up_3 (List.mem_of_getElem? (i := 39) rfl) rfl
theorem wi_y_Na_decree : Cond.instanceMethod y_Na_decree ∈ lw_ok := lw_up_3 (List.mem_of_getElem? (i := 37) rfl) rfl
theorem ws_y_Na_decree : Cond.selects y_Na_decree.cls y_Na_decree y_Na_decree ∈ lw_ok := lw_up_3 (List.mem_of_getElem? (i := 38) rfl) rfl
theorem wl_LS_377 : Cond.methodLink "LastSeen" 377 y_Na_decree ∈ lw_ok := lw_up_3 (List.mem_of_getElem? (i := 36) rfl) rfl
theorem wc_y_LS_decree : Cond.code y_LS_decree prog_1_method_47_code 4 (some .int) ∈ lw_ok := lw_up_3 (List.mem_of_getElem? (i := 35) rfl) rfl
theorem wi_y_LS_decree : Cond.instanceMethod y_LS_decree ∈ lw_ok := lw_up_3 (List.mem_of_getElem? (i := 34) rfl) rfl
theorem ws_y_LS_decree : Cond.selects y_LS_decree.cls y_LS_decree y_LS_decree ∈ lw_ok := lw_up_0 (List.mem_of_getElem? (i := 7) rfl) rfl
theorem wl_LS_143 : Cond.methodLink "LastSeen" 143 y_LS_decree ∈ lw_ok := lw_up_3 (List.mem_of_getElem? (i := 32) rfl) rfl
theorem wc_y_Na_sameKey : Cond.code y_Na_sameKey prog_6_method_18_code 4 (some .boolean) ∈ lw_ok := lw_up_3 (List.mem_of_getElem? (i := 63) rfl) rfl
theorem wi_y_Na_sameKey : Cond.instanceMethod y_Na_sameKey ∈ lw_ok := lw_up_3 (List.mem_of_getElem? (i := 62) rfl) rfl
theorem ws_y_Na_sameKey : Cond.selects y_Na_sameKey.cls y_Na_sameKey y_Na_sameKey ∈ lw_ok := lw_up_0 (List.mem_of_getElem? (i := 10) rfl) rfl
theorem wl_Na_102 : Cond.methodLink "LastSeen$Names" 102 y_Na_sameKey ∈ lw_ok := lw_up_3 (List.mem_of_getElem? (i := 60) rfl) rfl
theorem wc_y_Na_tieTogether : Cond.code y_Na_tieTogether prog_6_method_17_code 4 (none) ∈ lw_ok := lw_up_3 (List.mem_of_getElem? (i := 67) rfl) rfl
theorem wi_y_Na_tieTogether : Cond.instanceMethod y_Na_tieTogether ∈ lw_ok := lw_up_3 (List.mem_of_getElem? (i := 66) rfl) rfl
theorem ws_y_Na_tieTogether : Cond.selects y_Na_tieTogether.cls y_Na_tieTogether y_Na_tieTogether ∈ lw_ok := lw_up_0 (List.mem_of_getElem? (i := 11) rfl) rfl
theorem wl_Na_95 : Cond.methodLink "LastSeen$Names" 95 y_Na_tieTogether ∈ lw_ok := lw_up_3 (List.mem_of_getElem? (i := 64) rfl) rfl
theorem wc_y_Na_spreadFrom : Cond.code y_Na_spreadFrom prog_6_method_20_code 5 (none) ∈ lw_ok := lw_up_3 (List.mem_of_getElem? (i := 75) rfl) rfl
theorem wi_y_Na_spreadFrom : Cond.instanceMethod y_Na_spreadFrom ∈ lw_ok := lw_up_3 (List.mem_of_getElem? (i := 74) rfl) rfl
theorem ws_y_Na_spreadFrom : Cond.selects y_Na_spreadFrom.cls y_Na_spreadFrom y_Na_spreadFrom ∈ lw_ok := lw_up_0 (List.mem_of_getElem? (i := 13) rfl) rfl
theorem wl_Na_106 : Cond.methodLink "LastSeen$Names" 106 y_Na_spreadFrom ∈ lw_ok := lw_up_3 (List.mem_of_getElem? (i := 72) rfl) rfl
theorem wc_y_Na_readKeys : Cond.code y_Na_readKeys prog_6_method_16_code 3 (none) ∈ lw_ok := lw_up_3 (List.mem_of_getElem? (i := 59) rfl) rfl
theorem wi_y_Na_readKeys : Cond.instanceMethod y_Na_readKeys ∈ lw_ok := lw_up_3 (List.mem_of_getElem? (i := 58) rfl) rfl
theorem ws_y_Na_readKeys : Cond.selects y_Na_readKeys.cls y_Na_readKeys y_Na_readKeys ∈ lw_ok := lw_up_0 (List.mem_of_getElem? (i := 9) rfl) rfl
theorem wl_Na_92 : Cond.methodLink "LastSeen$Names" 92 y_Na_readKeys ∈ lw_ok := lw_up_3 (List.mem_of_getElem? (i := 56) rfl) rfl
theorem wc_y_Na_readPersons : Cond.code y_Na_readPersons prog_6_method_19_code 2 (none) ∈ lw_ok := lw_up_3 (List.mem_of_getElem? (i := 71) rfl) rfl
theorem wi_y_Na_readPersons : Cond.instanceMethod y_Na_readPersons ∈ lw_ok := lw_up_3 (List.mem_of_getElem? (i := 70) rfl) rfl
theorem ws_y_Na_readPersons : Cond.selects y_Na_readPersons.cls y_Na_readPersons y_Na_readPersons ∈ lw_ok := lw_up_0 (List.mem_of_getElem? (i := 12) rfl) rfl
theorem wl_Na_99 : Cond.methodLink "LastSeen$Names" 99 y_Na_readPersons ∈ lw_ok := lw_up_3 (List.mem_of_getElem? (i := 68) rfl) rfl
theorem wc_y_LS_upTo : Cond.code y_LS_upTo prog_1_method_42_code 2 (some .int) ∈ lw_ok := lw_up_3 (List.mem_of_getElem? (i := 51) rfl) rfl
theorem wi_y_LS_upTo : Cond.instanceMethod y_LS_upTo ∈ lw_ok := lw_up_3 (List.mem_of_getElem? (i := 50) rfl) rfl
theorem ws_y_LS_upTo : Cond.selects y_LS_upTo.cls y_LS_upTo y_LS_upTo ∈ lw_ok := lw_up_0 (List.mem_of_getElem? (i := 8) rfl) rfl
theorem wl_LS_146 : Cond.methodLink "LastSeen" 146 y_LS_upTo ∈ lw_ok := lw_up_3 (List.mem_of_getElem? (i := 48) rfl) rfl
theorem wc_y_Na_readBy : Cond.code y_Na_readBy prog_6_method_15_code 3 (none) ∈ lw_ok := lw_up_3 (List.mem_of_getElem? (i := 55) rfl) rfl
theorem wi_y_Na_readBy : Cond.instanceMethod y_Na_readBy ∈ lw_ok := lw_up_3 (List.mem_of_getElem? (i := 53) rfl) rfl
theorem ws_y_Na_readBy : Cond.selects y_Na_readBy.cls y_Na_readBy y_Na_readBy ∈ lw_ok := lw_up_3 (List.mem_of_getElem? (i := 54) rfl) rfl
theorem wl_LS_153 : Cond.methodLink "LastSeen" 153 y_Na_readBy ∈ lw_ok := lw_up_3 (List.mem_of_getElem? (i := 52) rfl) rfl
theorem wc_y_Na_bond : Cond.code y_Na_bond prog_6_method_21_code 3 (some .int) ∈ lw_ok := lw_up_3 (List.mem_of_getElem? (i := 79) rfl) rfl
theorem wi_y_Na_bond : Cond.instanceMethod y_Na_bond ∈ lw_ok := lw_up_3 (List.mem_of_getElem? (i := 77) rfl) rfl
theorem ws_y_Na_bond : Cond.selects y_Na_bond.cls y_Na_bond y_Na_bond ∈ lw_ok := lw_up_3 (List.mem_of_getElem? (i := 78) rfl) rfl
theorem wl_LS_157 : Cond.methodLink "LastSeen" 157 y_Na_bond ∈ lw_ok := lw_up_3 (List.mem_of_getElem? (i := 76) rfl) rfl
theorem wc_y_LS_bit : Cond.code y_LS_bit prog_1_method_38_code 1 (some .int) ∈ lw_ok := lw_up_3 (List.mem_of_getElem? (i := 82) rfl) rfl
theorem wt_y_LS_bit : Cond.static y_LS_bit ∈ lw_ok := lw_up_3 (List.mem_of_getElem? (i := 81) rfl) rfl
theorem wl_LS_160 : Cond.methodLink "LastSeen" 160 y_LS_bit ∈ lw_ok := lw_up_3 (List.mem_of_getElem? (i := 80) rfl) rfl
theorem wc_y_Na_leastOf : Cond.code y_Na_leastOf prog_6_method_22_code 2 (some .int) ∈ lw_ok := lw_up_3 (List.mem_of_getElem? (i := 90) rfl) rfl
theorem wi_y_Na_leastOf : Cond.instanceMethod y_Na_leastOf ∈ lw_ok := lw_up_3 (List.mem_of_getElem? (i := 88) rfl) rfl
theorem ws_y_Na_leastOf : Cond.selects y_Na_leastOf.cls y_Na_leastOf y_Na_leastOf ∈ lw_ok := lw_up_3 (List.mem_of_getElem? (i := 89) rfl) rfl
theorem wl_LS_164 : Cond.methodLink "LastSeen" 164 y_Na_leastOf ∈ lw_ok := lw_up_3 (List.mem_of_getElem? (i := 87) rfl) rfl
theorem wl_Na_110 : Cond.methodLink "LastSeen$Names" 110 y_Na_bond ∈ lw_ok := lw_up_3 (List.mem_of_getElem? (i := 99) rfl) rfl
theorem wc_y_Na_countStepsTo : Cond.code y_Na_countStepsTo prog_6_method_27_code 5 (none) ∈ lw_ok := lw_up_3 (List.mem_of_getElem? (i := 111) rfl) rfl
theorem wi_y_Na_countStepsTo : Cond.instanceMethod y_Na_countStepsTo ∈ lw_ok := lw_up_3 (List.mem_of_getElem? (i := 110) rfl) rfl
theorem ws_y_Na_countStepsTo : Cond.selects y_Na_countStepsTo.cls y_Na_countStepsTo y_Na_countStepsTo ∈ lw_ok := lw_up_0 (List.mem_of_getElem? (i := 14) rfl) rfl
theorem wl_Na_113 : Cond.methodLink "LastSeen$Names" 113 y_Na_countStepsTo ∈ lw_ok := lw_up_3 (List.mem_of_getElem? (i := 108) rfl) rfl
theorem wc_y_Na_nearerThan : Cond.code y_Na_nearerThan prog_6_method_28_code 3 (some .int) ∈ lw_ok := lw_up_3 (List.mem_of_getElem? (i := 115) rfl) rfl
theorem wi_y_Na_nearerThan : Cond.instanceMethod y_Na_nearerThan ∈ lw_ok := lw_up_3 (List.mem_of_getElem? (i := 114) rfl) rfl
theorem ws_y_Na_nearerThan : Cond.selects y_Na_nearerThan.cls y_Na_nearerThan y_Na_nearerThan ∈ lw_ok := lw_up_0 (List.mem_of_getElem? (i := 15) rfl) rfl
theorem wl_Na_116 : Cond.methodLink "LastSeen$Names" 116 y_Na_nearerThan ∈ lw_ok := lw_up_3 (List.mem_of_getElem? (i := 112) rfl) rfl
theorem wc_y_Na_areTied : Cond.code y_Na_areTied prog_6_method_24_code 3 (some .boolean) ∈ lw_ok := lw_up_3 (List.mem_of_getElem? (i := 98) rfl) rfl
theorem wi_y_Na_areTied : Cond.instanceMethod y_Na_areTied ∈ lw_ok := lw_up_3 (List.mem_of_getElem? (i := 96) rfl) rfl
theorem ws_y_Na_areTied : Cond.selects y_Na_areTied.cls y_Na_areTied y_Na_areTied ∈ lw_ok := lw_up_3 (List.mem_of_getElem? (i := 97) rfl) rfl
theorem wl_LS_167 : Cond.methodLink "LastSeen" 167 y_Na_areTied ∈ lw_ok := lw_up_3 (List.mem_of_getElem? (i := 95) rfl) rfl
theorem wl_LS_170 : Cond.methodLink "LastSeen" 170 Lib.Math.min.name ∈ lw_ok := lw_up_3 (List.mem_of_getElem? (i := 100) rfl) rfl
theorem wl_LS_175 : Cond.methodLink "LastSeen" 175 Lib.Math.max.name ∈ lw_ok := lw_up_3 (List.mem_of_getElem? (i := 101) rfl) rfl
theorem wc_y_Na_readTie : Cond.code y_Na_readTie prog_6_method_25_code 6 (some .int) ∈ lw_ok := lw_up_3 (List.mem_of_getElem? (i := 107) rfl) rfl
theorem wi_y_Na_readTie : Cond.instanceMethod y_Na_readTie ∈ lw_ok := lw_up_3 (List.mem_of_getElem? (i := 105) rfl) rfl
theorem ws_y_Na_readTie : Cond.selects y_Na_readTie.cls y_Na_readTie y_Na_readTie ∈ lw_ok := lw_up_3 (List.mem_of_getElem? (i := 106) rfl) rfl
theorem wl_LS_178 : Cond.methodLink "LastSeen" 178 y_Na_readTie ∈ lw_ok := lw_up_3 (List.mem_of_getElem? (i := 104) rfl) rfl
theorem wc_y_Na_tieName : Cond.code y_Na_tieName prog_6_method_26_code 2 (some .int) ∈ lw_ok := lw_up_3 (List.mem_of_getElem? (i := 119) rfl) rfl
theorem wi_y_Na_tieName : Cond.instanceMethod y_Na_tieName ∈ lw_ok := lw_up_3 (List.mem_of_getElem? (i := 117) rfl) rfl
theorem ws_y_Na_tieName : Cond.selects y_Na_tieName.cls y_Na_tieName y_Na_tieName ∈ lw_ok := lw_up_3 (List.mem_of_getElem? (i := 118) rfl) rfl
theorem wl_LS_181 : Cond.methodLink "LastSeen" 181 y_Na_tieName ∈ lw_ok := lw_up_3 (List.mem_of_getElem? (i := 116) rfl) rfl
theorem wc_y_Wo_size : Cond.code y_Wo_size prog_10_method_2_code 1 (some .int) ∈ lw_ok := lw_up_3 (List.mem_of_getElem? (i := 127) rfl) rfl
theorem wi_y_Wo_size : Cond.instanceMethod y_Wo_size ∈ lw_ok := lw_up_3 (List.mem_of_getElem? (i := 125) rfl) rfl
theorem ws_y_Wo_size : Cond.selects y_Wo_size.cls y_Wo_size y_Wo_size ∈ lw_ok := lw_up_3 (List.mem_of_getElem? (i := 126) rfl) rfl
theorem wn_Wo : Cond.initialized "LastSeen$Words" ∈ lw_ok := lw_up_1 (List.mem_of_getElem? (i := 5) rfl) rfl
theorem wl_LS_184 : Cond.methodLink "LastSeen" 184 y_Wo_size ∈ lw_ok := lw_up_3 (List.mem_of_getElem? (i := 124) rfl) rfl
theorem wc_y_LS_isWatch : Cond.code y_LS_isWatch prog_1_method_40_code 1 (some .boolean) ∈ lw_ok := lw_up_3 (List.mem_of_getElem? (i := 130) rfl) rfl
theorem wt_y_LS_isWatch : Cond.static y_LS_isWatch ∈ lw_ok := lw_up_3 (List.mem_of_getElem? (i := 129) rfl) rfl
theorem wl_LS_185 : Cond.methodLink "LastSeen" 185 y_LS_isWatch ∈ lw_ok := lw_up_3 (List.mem_of_getElem? (i := 128) rfl) rfl
theorem wc_y_Wo_enter : Cond.code y_Wo_enter prog_10_method_3_code 5 (some .int) ∈ lw_ok := lw_up_3 (List.mem_of_getElem? (i := 134) rfl) rfl
theorem wi_y_Wo_enter : Cond.instanceMethod y_Wo_enter ∈ lw_ok := lw_up_3 (List.mem_of_getElem? (i := 132) rfl) rfl
theorem ws_y_Wo_enter : Cond.selects y_Wo_enter.cls y_Wo_enter y_Wo_enter ∈ lw_ok := lw_up_3 (List.mem_of_getElem? (i := 133) rfl) rfl
theorem wl_LS_188 : Cond.methodLink "LastSeen" 188 y_Wo_enter ∈ lw_ok := lw_up_3 (List.mem_of_getElem? (i := 131) rfl) rfl
theorem wc_y_Wo_placeAt : Cond.code y_Wo_placeAt prog_10_method_4_code 5 (none) ∈ lw_ok := lw_up_3 (List.mem_of_getElem? (i := 138) rfl) rfl
theorem wi_y_Wo_placeAt : Cond.instanceMethod y_Wo_placeAt ∈ lw_ok := lw_up_3 (List.mem_of_getElem? (i := 136) rfl) rfl
theorem ws_y_Wo_placeAt : Cond.selects y_Wo_placeAt.cls y_Wo_placeAt y_Wo_placeAt ∈ lw_ok := lw_up_3 (List.mem_of_getElem? (i := 137) rfl) rfl
theorem wl_LS_191 : Cond.methodLink "LastSeen" 191 y_Wo_placeAt ∈ lw_ok := lw_up_3 (List.mem_of_getElem? (i := 135) rfl) rfl
theorem wc_y_Wo_entryOf : Cond.code y_Wo_entryOf prog_10_method_7_code 2 (some .int) ∈ lw_ok := lw_up_3 (List.mem_of_getElem? (i := 150) rfl) rfl
theorem wi_y_Wo_entryOf : Cond.instanceMethod y_Wo_entryOf ∈ lw_ok := lw_up_3 (List.mem_of_getElem? (i := 148) rfl) rfl
theorem ws_y_Wo_entryOf : Cond.selects y_Wo_entryOf.cls y_Wo_entryOf y_Wo_entryOf ∈ lw_ok := lw_up_3 (List.mem_of_getElem? (i := 149) rfl) rfl
theorem wl_LS_376 : Cond.methodLink "LastSeen" 376 y_Wo_entryOf ∈ lw_ok := lw_up_3 (List.mem_of_getElem? (i := 147) rfl) rfl
theorem wc_y_LS_isWordBy : Cond.code y_LS_isWordBy prog_1_method_45_code 3 (some .boolean) ∈ lw_ok := lw_up_3 (List.mem_of_getElem? (i := 146) rfl) rfl
theorem wi_y_LS_isWordBy : Cond.instanceMethod y_LS_isWordBy ∈ lw_ok := lw_up_3 (List.mem_of_getElem? (i := 145) rfl) rfl
theorem ws_y_LS_isWordBy : Cond.selects y_LS_isWordBy.cls y_LS_isWordBy y_LS_isWordBy ∈ lw_ok := lw_up_0 (List.mem_of_getElem? (i := 16) rfl) rfl
theorem wl_LS_195 : Cond.methodLink "LastSeen" 195 y_LS_isWordBy ∈ lw_ok := lw_up_3 (List.mem_of_getElem? (i := 143) rfl) rfl
theorem wc_y_Wo_isWithdrawn : Cond.code y_Wo_isWithdrawn prog_10_method_6_code 2 (some .boolean) ∈ lw_ok := lw_up_3 (List.mem_of_getElem? (i := 154) rfl) rfl
theorem wi_y_Wo_isWithdrawn : Cond.instanceMethod y_Wo_isWithdrawn ∈ lw_ok := lw_up_3 (List.mem_of_getElem? (i := 152) rfl) rfl
theorem ws_y_Wo_isWithdrawn : Cond.selects y_Wo_isWithdrawn.cls y_Wo_isWithdrawn y_Wo_isWithdrawn ∈ lw_ok := lw_up_3 (List.mem_of_getElem? (i := 153) rfl) rfl
theorem wl_LS_198 : Cond.methodLink "LastSeen" 198 y_Wo_isWithdrawn ∈ lw_ok := lw_up_3 (List.mem_of_getElem? (i := 151) rfl) rfl
theorem wc_y_Wo_readBy : Cond.code y_Wo_readBy prog_10_method_15_code 5 (none) ∈ lw_ok := lw_up_3 (List.mem_of_getElem? (i := 158) rfl) rfl
theorem wi_y_Wo_readBy : Cond.instanceMethod y_Wo_readBy ∈ lw_ok := lw_up_3 (List.mem_of_getElem? (i := 156) rfl) rfl
theorem ws_y_Wo_readBy : Cond.selects y_Wo_readBy.cls y_Wo_readBy y_Wo_readBy ∈ lw_ok := lw_up_3 (List.mem_of_getElem? (i := 157) rfl) rfl
theorem wl_LS_201 : Cond.methodLink "LastSeen" 201 y_Wo_readBy ∈ lw_ok := lw_up_3 (List.mem_of_getElem? (i := 155) rfl) rfl
theorem wc_y_Wo_standing : Cond.code y_Wo_standing prog_10_method_17_code 3 (some .int) ∈ lw_ok := lw_up_3 (List.mem_of_getElem? (i := 162) rfl) rfl
theorem wi_y_Wo_standing : Cond.instanceMethod y_Wo_standing ∈ lw_ok := lw_up_3 (List.mem_of_getElem? (i := 160) rfl) rfl
theorem ws_y_Wo_standing : Cond.selects y_Wo_standing.cls y_Wo_standing y_Wo_standing ∈ lw_ok := lw_up_3 (List.mem_of_getElem? (i := 161) rfl) rfl
theorem wl_LS_204 : Cond.methodLink "LastSeen" 204 y_Wo_standing ∈ lw_ok := lw_up_3 (List.mem_of_getElem? (i := 159) rfl) rfl
theorem wc_y_Wo_drop : Cond.code y_Wo_drop prog_10_method_5_code 3 (none) ∈ lw_ok := lw_up_3 (List.mem_of_getElem? (i := 166) rfl) rfl
theorem wi_y_Wo_drop : Cond.instanceMethod y_Wo_drop ∈ lw_ok := lw_up_3 (List.mem_of_getElem? (i := 164) rfl) rfl
theorem ws_y_Wo_drop : Cond.selects y_Wo_drop.cls y_Wo_drop y_Wo_drop ∈ lw_ok := lw_up_3 (List.mem_of_getElem? (i := 165) rfl) rfl
theorem wl_LS_207 : Cond.methodLink "LastSeen" 207 y_Wo_drop ∈ lw_ok := lw_up_3 (List.mem_of_getElem? (i := 163) rfl) rfl
theorem wc_y_Wo_stands : Cond.code y_Wo_stands prog_10_method_16_code 2 (some .boolean) ∈ lw_ok := lw_up_3 (List.mem_of_getElem? (i := 174) rfl) rfl
theorem wi_y_Wo_stands : Cond.instanceMethod y_Wo_stands ∈ lw_ok := lw_up_3 (List.mem_of_getElem? (i := 172) rfl) rfl
theorem ws_y_Wo_stands : Cond.selects y_Wo_stands.cls y_Wo_stands y_Wo_stands ∈ lw_ok := lw_up_3 (List.mem_of_getElem? (i := 173) rfl) rfl
theorem wl_LS_210 : Cond.methodLink "LastSeen" 210 y_Wo_stands ∈ lw_ok := lw_up_3 (List.mem_of_getElem? (i := 171) rfl) rfl
theorem wc_y_Wo_rootOf : Cond.code y_Wo_rootOf prog_10_method_9_code 2 (some .int) ∈ lw_ok := lw_up_3 (List.mem_of_getElem? (i := 178) rfl) rfl
theorem wi_y_Wo_rootOf : Cond.instanceMethod y_Wo_rootOf ∈ lw_ok := lw_up_3 (List.mem_of_getElem? (i := 176) rfl) rfl
theorem ws_y_Wo_rootOf : Cond.selects y_Wo_rootOf.cls y_Wo_rootOf y_Wo_rootOf ∈ lw_ok := lw_up_3 (List.mem_of_getElem? (i := 177) rfl) rfl
theorem wl_LS_213 : Cond.methodLink "LastSeen" 213 y_Wo_rootOf ∈ lw_ok := lw_up_3 (List.mem_of_getElem? (i := 175) rfl) rfl
theorem wc_y_Wo_nameOf : Cond.code y_Wo_nameOf prog_10_method_8_code 2 (some .int) ∈ lw_ok := lw_up_3 (List.mem_of_getElem? (i := 182) rfl) rfl
theorem wi_y_Wo_nameOf : Cond.instanceMethod y_Wo_nameOf ∈ lw_ok := lw_up_3 (List.mem_of_getElem? (i := 180) rfl) rfl
theorem ws_y_Wo_nameOf : Cond.selects y_Wo_nameOf.cls y_Wo_nameOf y_Wo_nameOf ∈ lw_ok := lw_up_3 (List.mem_of_getElem? (i := 181) rfl) rfl
theorem wl_LS_216 : Cond.methodLink "LastSeen" 216 y_Wo_nameOf ∈ lw_ok := lw_up_3 (List.mem_of_getElem? (i := 179) rfl) rfl
theorem wl_He_71 : Cond.methodLink "LastSeen$Hearing" 71 y_Wo_size ∈ lw_ok := lw_up_3 (List.mem_of_getElem? (i := 202) rfl) rfl
theorem wl_He_75 : Cond.methodLink "LastSeen$Hearing" 75 y_Wo_stands ∈ lw_ok := lw_up_3 (List.mem_of_getElem? (i := 203) rfl) rfl
theorem wl_He_79 : Cond.methodLink "LastSeen$Hearing" 79 y_Wo_nameOf ∈ lw_ok := lw_up_3 (List.mem_of_getElem? (i := 204) rfl) rfl
theorem wl_He_45 : Cond.methodLink "LastSeen$Hearing" 45 y_Na_leastOf ∈ lw_ok := lw_up_3 (List.mem_of_getElem? (i := 193) rfl) rfl
theorem wl_He_82 : Cond.methodLink "LastSeen$Hearing" 82 y_Wo_rootOf ∈ lw_ok := lw_up_3 (List.mem_of_getElem? (i := 205) rfl) rfl
theorem wc_y_Wo_isHeard : Cond.code y_Wo_isHeard prog_10_method_14_code 2 (some .boolean) ∈ lw_ok := lw_up_3 (List.mem_of_getElem? (i := 209) rfl) rfl
theorem wi_y_Wo_isHeard : Cond.instanceMethod y_Wo_isHeard ∈ lw_ok := lw_up_3 (List.mem_of_getElem? (i := 207) rfl) rfl
theorem ws_y_Wo_isHeard : Cond.selects y_Wo_isHeard.cls y_Wo_isHeard y_Wo_isHeard ∈ lw_ok := lw_up_3 (List.mem_of_getElem? (i := 208) rfl) rfl
theorem wl_He_85 : Cond.methodLink "LastSeen$Hearing" 85 y_Wo_isHeard ∈ lw_ok := lw_up_3 (List.mem_of_getElem? (i := 206) rfl) rfl
theorem wk_Jl_265 : Cond.constant "java/lang/Integer" 265 (1431655765) ∈ lw_ok := lw_up_3 (List.mem_of_getElem? (i := 221) rfl) rfl
theorem wk_Jl_266 : Cond.constant "java/lang/Integer" 266 (858993459) ∈ lw_ok := lw_up_3 (List.mem_of_getElem? (i := 222) rfl) rfl
theorem wk_Jl_267 : Cond.constant "java/lang/Integer" 267 (252645135) ∈ lw_ok := lw_up_3 (List.mem_of_getElem? (i := 223) rfl) rfl
theorem wc_y_Jl_bitCount : Cond.code y_Jl_bitCount prog_13_method_49_code 1 (some .int) ∈ lw_ok := lw_up_3 (List.mem_of_getElem? (i := 220) rfl) rfl
theorem wt_y_Jl_bitCount : Cond.static y_Jl_bitCount ∈ lw_ok := lw_up_3 (List.mem_of_getElem? (i := 219) rfl) rfl
theorem wn_Jl : Cond.initialized "java/lang/Integer" ∈ lw_ok := lw_up_1 (List.mem_of_getElem? (i := 13) rfl) rfl
theorem wl_He_94 : Cond.methodLink "LastSeen$Hearing" 94 y_Jl_bitCount ∈ lw_ok := lw_up_3 (List.mem_of_getElem? (i := 218) rfl) rfl
theorem wc_y_Wo_witnessOf : Cond.code y_Wo_witnessOf prog_10_method_10_code 2 (some .int) ∈ lw_ok := lw_up_3 (List.mem_of_getElem? (i := 217) rfl) rfl
theorem wi_y_Wo_witnessOf : Cond.instanceMethod y_Wo_witnessOf ∈ lw_ok := lw_up_3 (List.mem_of_getElem? (i := 215) rfl) rfl
theorem ws_y_Wo_witnessOf : Cond.selects y_Wo_witnessOf.cls y_Wo_witnessOf y_Wo_witnessOf ∈ lw_ok := lw_up_3 (List.mem_of_getElem? (i := 216) rfl) rfl
theorem wl_He_91 : Cond.methodLink "LastSeen$Hearing" 91 y_Wo_witnessOf ∈ lw_ok := lw_up_3 (List.mem_of_getElem? (i := 214) rfl) rfl
theorem wc_y_Wo_lastOf : Cond.code y_Wo_lastOf prog_10_method_13_code 2 (some .int) ∈ lw_ok := lw_up_3 (List.mem_of_getElem? (i := 231) rfl) rfl
theorem wi_y_Wo_lastOf : Cond.instanceMethod y_Wo_lastOf ∈ lw_ok := lw_up_3 (List.mem_of_getElem? (i := 229) rfl) rfl
theorem ws_y_Wo_lastOf : Cond.selects y_Wo_lastOf.cls y_Wo_lastOf y_Wo_lastOf ∈ lw_ok := lw_up_3 (List.mem_of_getElem? (i := 230) rfl) rfl
theorem wl_He_111 : Cond.methodLink "LastSeen$Hearing" 111 y_Wo_lastOf ∈ lw_ok := lw_up_3 (List.mem_of_getElem? (i := 228) rfl) rfl
theorem wc_y_Wo_placesOf : Cond.code y_Wo_placesOf prog_10_method_11_code 2 (some .int) ∈ lw_ok := lw_up_3 (List.mem_of_getElem? (i := 235) rfl) rfl
theorem wi_y_Wo_placesOf : Cond.instanceMethod y_Wo_placesOf ∈ lw_ok := lw_up_3 (List.mem_of_getElem? (i := 233) rfl) rfl
theorem ws_y_Wo_placesOf : Cond.selects y_Wo_placesOf.cls y_Wo_placesOf y_Wo_placesOf ∈ lw_ok := lw_up_3 (List.mem_of_getElem? (i := 234) rfl) rfl
theorem wl_He_114 : Cond.methodLink "LastSeen$Hearing" 114 y_Wo_placesOf ∈ lw_ok := lw_up_3 (List.mem_of_getElem? (i := 232) rfl) rfl
theorem wl_He_36 : Cond.methodLink "LastSeen$Hearing" 36 y_Na_readBy ∈ lw_ok := lw_up_3 (List.mem_of_getElem? (i := 191) rfl) rfl
theorem wl_He_42 : Cond.methodLink "LastSeen$Hearing" 42 y_Wo_readBy ∈ lw_ok := lw_up_3 (List.mem_of_getElem? (i := 192) rfl) rfl
theorem wc_y_Na_namesOf : Cond.code y_Na_namesOf prog_6_method_23_code 4 (some .int) ∈ lw_ok := lw_up_3 (List.mem_of_getElem? (i := 197) rfl) rfl
theorem wi_y_Na_namesOf : Cond.instanceMethod y_Na_namesOf ∈ lw_ok := lw_up_3 (List.mem_of_getElem? (i := 195) rfl) rfl
theorem ws_y_Na_namesOf : Cond.selects y_Na_namesOf.cls y_Na_namesOf y_Na_namesOf ∈ lw_ok := lw_up_3 (List.mem_of_getElem? (i := 196) rfl) rfl
theorem wl_He_53 : Cond.methodLink "LastSeen$Hearing" 53 y_Na_namesOf ∈ lw_ok := lw_up_3 (List.mem_of_getElem? (i := 194) rfl) rfl
theorem wc_y_He_readWords : Cond.code y_He_readWords prog_4_method_3_code 3 (none) ∈ lw_ok := lw_up_3 (List.mem_of_getElem? (i := 201) rfl) rfl
theorem wi_y_He_readWords : Cond.instanceMethod y_He_readWords ∈ lw_ok := lw_up_3 (List.mem_of_getElem? (i := 200) rfl) rfl
theorem ws_y_He_readWords : Cond.selects y_He_readWords.cls y_He_readWords y_He_readWords ∈ lw_ok := lw_up_0 (List.mem_of_getElem? (i := 17) rfl) rfl
theorem wn_He : Cond.initialized "LastSeen$Hearing" ∈ lw_ok := lw_up_1 (List.mem_of_getElem? (i := 6) rfl) rfl
theorem wl_He_59 : Cond.methodLink "LastSeen$Hearing" 59 y_He_readWords ∈ lw_ok := lw_up_3 (List.mem_of_getElem? (i := 198) rfl) rfl
theorem wc_y_He_readRoots : Cond.code y_He_readRoots prog_4_method_4_code 3 (none) ∈ lw_ok := lw_up_3 (List.mem_of_getElem? (i := 213) rfl) rfl
theorem wi_y_He_readRoots : Cond.instanceMethod y_He_readRoots ∈ lw_ok := lw_up_3 (List.mem_of_getElem? (i := 212) rfl) rfl
theorem ws_y_He_readRoots : Cond.selects y_He_readRoots.cls y_He_readRoots y_He_readRoots ∈ lw_ok := lw_up_0 (List.mem_of_getElem? (i := 18) rfl) rfl
theorem wl_He_62 : Cond.methodLink "LastSeen$Hearing" 62 y_He_readRoots ∈ lw_ok := lw_up_3 (List.mem_of_getElem? (i := 210) rfl) rfl
theorem wc_y_He_readLatest : Cond.code y_He_readLatest prog_4_method_5_code 3 (none) ∈ lw_ok := lw_up_3 (List.mem_of_getElem? (i := 227) rfl) rfl
theorem wi_y_He_readLatest : Cond.instanceMethod y_He_readLatest ∈ lw_ok := lw_up_3 (List.mem_of_getElem? (i := 226) rfl) rfl
theorem ws_y_He_readLatest : Cond.selects y_He_readLatest.cls y_He_readLatest y_He_readLatest ∈ lw_ok := lw_up_0 (List.mem_of_getElem? (i := 19) rfl) rfl
theorem wl_He_65 : Cond.methodLink "LastSeen$Hearing" 65 y_He_readLatest ∈ lw_ok := lw_up_3 (List.mem_of_getElem? (i := 224) rfl) rfl
theorem wc_y_He_open : Cond.code y_He_open prog_4_method_2_code 4 (none) ∈ lw_ok := lw_up_3 (List.mem_of_getElem? (i := 190) rfl) rfl
theorem wi_y_He_open : Cond.instanceMethod y_He_open ∈ lw_ok := lw_up_3 (List.mem_of_getElem? (i := 188) rfl) rfl
theorem ws_y_He_open : Cond.selects y_He_open.cls y_He_open y_He_open ∈ lw_ok := lw_up_3 (List.mem_of_getElem? (i := 189) rfl) rfl
theorem wl_LS_219 : Cond.methodLink "LastSeen" 219 y_He_open ∈ lw_ok := lw_up_3 (List.mem_of_getElem? (i := 187) rfl) rfl
theorem wc_y_He_rootCount : Cond.code y_He_rootCount prog_4_method_6_code 1 (some .int) ∈ lw_ok := lw_up_3 (List.mem_of_getElem? (i := 239) rfl) rfl
theorem wi_y_He_rootCount : Cond.instanceMethod y_He_rootCount ∈ lw_ok := lw_up_3 (List.mem_of_getElem? (i := 237) rfl) rfl
theorem ws_y_He_rootCount : Cond.selects y_He_rootCount.cls y_He_rootCount y_He_rootCount ∈ lw_ok := lw_up_3 (List.mem_of_getElem? (i := 238) rfl) rfl
theorem wl_LS_223 : Cond.methodLink "LastSeen" 223 y_He_rootCount ∈ lw_ok := lw_up_3 (List.mem_of_getElem? (i := 236) rfl) rfl
theorem wc_y_He_rootAt : Cond.code y_He_rootAt prog_4_method_7_code 2 (some .int) ∈ lw_ok := lw_up_4 (List.mem_of_getElem? (i := 3) rfl) rfl
theorem wi_y_He_rootAt : Cond.instanceMethod y_He_rootAt ∈ lw_ok := lw_up_4 (List.mem_of_getElem? (i := 1) rfl) rfl
theorem ws_y_He_rootAt : Cond.selects y_He_rootAt.cls y_He_rootAt y_He_rootAt ∈ lw_ok := lw_up_4 (List.mem_of_getElem? (i := 2) rfl) rfl
theorem wl_LS_226 : Cond.methodLink "LastSeen" 226 y_He_rootAt ∈ lw_ok := lw_up_4 (List.mem_of_getElem? (i := 0) rfl) rfl
theorem wc_y_He_witnesses : Cond.code y_He_witnesses prog_4_method_8_code 1 (some .int) ∈ lw_ok := lw_up_4 (List.mem_of_getElem? (i := 11) rfl) rfl
theorem wi_y_He_witnesses : Cond.instanceMethod y_He_witnesses ∈ lw_ok := lw_up_4 (List.mem_of_getElem? (i := 9) rfl) rfl
theorem ws_y_He_witnesses : Cond.selects y_He_witnesses.cls y_He_witnesses y_He_witnesses ∈ lw_ok := lw_up_4 (List.mem_of_getElem? (i := 10) rfl) rfl
theorem wl_LS_229 : Cond.methodLink "LastSeen" 229 y_He_witnesses ∈ lw_ok := lw_up_4 (List.mem_of_getElem? (i := 8) rfl) rfl
theorem wc_y_Wa_empty : Cond.code y_Wa_empty prog_9_method_2_code 1 (none) ∈ lw_ok := lw_up_4 (List.mem_of_getElem? (i := 27) rfl) rfl
theorem wi_y_Wa_empty : Cond.instanceMethod y_Wa_empty ∈ lw_ok := lw_up_4 (List.mem_of_getElem? (i := 25) rfl) rfl
theorem ws_y_Wa_empty : Cond.selects y_Wa_empty.cls y_Wa_empty y_Wa_empty ∈ lw_ok := lw_up_4 (List.mem_of_getElem? (i := 26) rfl) rfl
theorem wn_Wa : Cond.initialized "LastSeen$Walk" ∈ lw_ok := lw_up_1 (List.mem_of_getElem? (i := 7) rfl) rfl
theorem wl_He_117 : Cond.methodLink "LastSeen$Hearing" 117 y_Wa_empty ∈ lw_ok := lw_up_4 (List.mem_of_getElem? (i := 24) rfl) rfl
theorem wc_y_Wo_firstOf : Cond.code y_Wo_firstOf prog_10_method_12_code 2 (some .int) ∈ lw_ok := lw_up_4 (List.mem_of_getElem? (i := 31) rfl) rfl
theorem wi_y_Wo_firstOf : Cond.instanceMethod y_Wo_firstOf ∈ lw_ok := lw_up_4 (List.mem_of_getElem? (i := 29) rfl) rfl
theorem ws_y_Wo_firstOf : Cond.selects y_Wo_firstOf.cls y_Wo_firstOf y_Wo_firstOf ∈ lw_ok := lw_up_4 (List.mem_of_getElem? (i := 30) rfl) rfl
theorem wl_He_122 : Cond.methodLink "LastSeen$Hearing" 122 y_Wo_firstOf ∈ lw_ok := lw_up_4 (List.mem_of_getElem? (i := 28) rfl) rfl
theorem wc_y_Wa_add : Cond.code y_Wa_add prog_9_method_3_code 4 (none) ∈ lw_ok := lw_up_4 (List.mem_of_getElem? (i := 35) rfl) rfl
theorem wi_y_Wa_add : Cond.instanceMethod y_Wa_add ∈ lw_ok := lw_up_4 (List.mem_of_getElem? (i := 33) rfl) rfl
theorem ws_y_Wa_add : Cond.selects y_Wa_add.cls y_Wa_add y_Wa_add ∈ lw_ok := lw_up_4 (List.mem_of_getElem? (i := 34) rfl) rfl
theorem wl_He_125 : Cond.methodLink "LastSeen$Hearing" 125 y_Wa_add ∈ lw_ok := lw_up_4 (List.mem_of_getElem? (i := 32) rfl) rfl
theorem wk_Wa_35 : Cond.constant "LastSeen$Walk" 35 (1000000) ∈ lw_ok := lw_up_4 (List.mem_of_getElem? (i := 40) rfl) rfl
theorem wl_Wa_52 : Cond.methodLink "LastSeen$Walk" 52 y_La_distance ∈ lw_ok := lw_up_4 (List.mem_of_getElem? (i := 53) rfl) rfl
theorem wl_Wa_56 : Cond.methodLink "LastSeen$Walk" 56 Lib.Math.min.name ∈ lw_ok := lw_up_4 (List.mem_of_getElem? (i := 54) rfl) rfl
theorem wl_Wa_61 : Cond.methodLink "LastSeen$Walk" 61 Lib.Math.max.name ∈ lw_ok := lw_up_4 (List.mem_of_getElem? (i := 59) rfl) rfl
theorem wc_y_Wa_all : Cond.code y_Wa_all prog_9_method_4_code 1 (some .int) ∈ lw_ok := lw_up_4 (List.mem_of_getElem? (i := 44) rfl) rfl
theorem wi_y_Wa_all : Cond.instanceMethod y_Wa_all ∈ lw_ok := lw_up_4 (List.mem_of_getElem? (i := 42) rfl) rfl
theorem ws_y_Wa_all : Cond.selects y_Wa_all.cls y_Wa_all y_Wa_all ∈ lw_ok := lw_up_4 (List.mem_of_getElem? (i := 43) rfl) rfl
theorem wl_Wa_36 : Cond.methodLink "LastSeen$Walk" 36 y_Wa_all ∈ lw_ok := lw_up_4 (List.mem_of_getElem? (i := 41) rfl) rfl
theorem wc_y_Wa_isWalkable : Cond.code y_Wa_isWalkable prog_9_method_6_code 3 (some .boolean) ∈ lw_ok := lw_up_4 (List.mem_of_getElem? (i := 48) rfl) rfl
theorem wi_y_Wa_isWalkable : Cond.instanceMethod y_Wa_isWalkable ∈ lw_ok := lw_up_4 (List.mem_of_getElem? (i := 46) rfl) rfl
theorem ws_y_Wa_isWalkable : Cond.selects y_Wa_isWalkable.cls y_Wa_isWalkable y_Wa_isWalkable ∈ lw_ok := lw_up_4 (List.mem_of_getElem? (i := 47) rfl) rfl
theorem wl_Wa_40 : Cond.methodLink "LastSeen$Walk" 40 y_Wa_isWalkable ∈ lw_ok := lw_up_4 (List.mem_of_getElem? (i := 45) rfl) rfl
theorem wc_y_Wa_readReach : Cond.code y_Wa_readReach prog_9_method_7_code 5 (none) ∈ lw_ok := lw_up_4 (List.mem_of_getElem? (i := 52) rfl) rfl
theorem wi_y_Wa_readReach : Cond.instanceMethod y_Wa_readReach ∈ lw_ok := lw_up_4 (List.mem_of_getElem? (i := 51) rfl) rfl
theorem ws_y_Wa_readReach : Cond.selects y_Wa_readReach.cls y_Wa_readReach y_Wa_readReach ∈ lw_ok := lw_up_0 (List.mem_of_getElem? (i := 21) rfl) rfl
theorem wl_Wa_44 : Cond.methodLink "LastSeen$Walk" 44 y_Wa_readReach ∈ lw_ok := lw_up_4 (List.mem_of_getElem? (i := 49) rfl) rfl
theorem wc_y_Wa_stayAt : Cond.code y_Wa_stayAt prog_9_method_8_code 5 (none) ∈ lw_ok := lw_up_4 (List.mem_of_getElem? (i := 58) rfl) rfl
theorem wi_y_Wa_stayAt : Cond.instanceMethod y_Wa_stayAt ∈ lw_ok := lw_up_4 (List.mem_of_getElem? (i := 57) rfl) rfl
theorem ws_y_Wa_stayAt : Cond.selects y_Wa_stayAt.cls y_Wa_stayAt y_Wa_stayAt ∈ lw_ok := lw_up_0 (List.mem_of_getElem? (i := 22) rfl) rfl
theorem wl_Wa_48 : Cond.methodLink "LastSeen$Walk" 48 y_Wa_stayAt ∈ lw_ok := lw_up_4 (List.mem_of_getElem? (i := 55) rfl) rfl
theorem wc_y_He_loadWalk : Cond.code y_He_loadWalk prog_4_method_12_code 3 (none) ∈ lw_ok := lw_up_4 (List.mem_of_getElem? (i := 23) rfl) rfl
theorem wi_y_He_loadWalk : Cond.instanceMethod y_He_loadWalk ∈ lw_ok := lw_up_4 (List.mem_of_getElem? (i := 22) rfl) rfl
theorem ws_y_He_loadWalk : Cond.selects y_He_loadWalk.cls y_He_loadWalk y_He_loadWalk ∈ lw_ok := lw_up_0 (List.mem_of_getElem? (i := 20) rfl) rfl
theorem wl_He_129 : Cond.methodLink "LastSeen$Hearing" 129 y_He_loadWalk ∈ lw_ok := lw_up_4 (List.mem_of_getElem? (i := 20) rfl) rfl
theorem wc_y_Wa_go : Cond.code y_Wa_go prog_9_method_5_code 3 (none) ∈ lw_ok := lw_up_4 (List.mem_of_getElem? (i := 39) rfl) rfl
theorem wi_y_Wa_go : Cond.instanceMethod y_Wa_go ∈ lw_ok := lw_up_4 (List.mem_of_getElem? (i := 37) rfl) rfl
theorem ws_y_Wa_go : Cond.selects y_Wa_go.cls y_Wa_go y_Wa_go ∈ lw_ok := lw_up_4 (List.mem_of_getElem? (i := 38) rfl) rfl
theorem wl_He_132 : Cond.methodLink "LastSeen$Hearing" 132 y_Wa_go ∈ lw_ok := lw_up_4 (List.mem_of_getElem? (i := 36) rfl) rfl
theorem wl_He_135 : Cond.methodLink "LastSeen$Hearing" 135 y_Wa_all ∈ lw_ok := lw_up_4 (List.mem_of_getElem? (i := 60) rfl) rfl
theorem wl_He_138 : Cond.methodLink "LastSeen$Hearing" 138 y_Wa_isWalkable ∈ lw_ok := lw_up_4 (List.mem_of_getElem? (i := 61) rfl) rfl
theorem wc_y_He_weigh : Cond.code y_He_weigh prog_4_method_13_code 1 (none) ∈ lw_ok := lw_up_4 (List.mem_of_getElem? (i := 19) rfl) rfl
theorem wi_y_He_weigh : Cond.instanceMethod y_He_weigh ∈ lw_ok := lw_up_4 (List.mem_of_getElem? (i := 17) rfl) rfl
theorem ws_y_He_weigh : Cond.selects y_He_weigh.cls y_He_weigh y_He_weigh ∈ lw_ok := lw_up_4 (List.mem_of_getElem? (i := 18) rfl) rfl
theorem wl_LS_232 : Cond.methodLink "LastSeen" 232 y_He_weigh ∈ lw_ok := lw_up_4 (List.mem_of_getElem? (i := 16) rfl) rfl
theorem wc_y_He_agrees : Cond.code y_He_agrees prog_4_method_14_code 1 (some .boolean) ∈ lw_ok := lw_up_4 (List.mem_of_getElem? (i := 65) rfl) rfl
theorem wi_y_He_agrees : Cond.instanceMethod y_He_agrees ∈ lw_ok := lw_up_4 (List.mem_of_getElem? (i := 63) rfl) rfl
theorem ws_y_He_agrees : Cond.selects y_He_agrees.cls y_He_agrees y_He_agrees ∈ lw_ok := lw_up_4 (List.mem_of_getElem? (i := 64) rfl) rfl
theorem wl_LS_235 : Cond.methodLink "LastSeen" 235 y_He_agrees ∈ lw_ok := lw_up_4 (List.mem_of_getElem? (i := 62) rfl) rfl
theorem wl_Wa_64 : Cond.methodLink "LastSeen$Walk" 64 y_Jl_bitCount ∈ lw_ok := lw_up_4 (List.mem_of_getElem? (i := 78) rfl) rfl
theorem wc_y_Wa_leastQuarrel : Cond.code y_Wa_leastQuarrel prog_9_method_9_code 4 (some .int) ∈ lw_ok := lw_up_4 (List.mem_of_getElem? (i := 77) rfl) rfl
theorem wi_y_Wa_leastQuarrel : Cond.instanceMethod y_Wa_leastQuarrel ∈ lw_ok := lw_up_4 (List.mem_of_getElem? (i := 75) rfl) rfl
theorem ws_y_Wa_leastQuarrel : Cond.selects y_Wa_leastQuarrel.cls y_Wa_leastQuarrel y_Wa_leastQuarrel ∈ lw_ok := lw_up_4 (List.mem_of_getElem? (i := 76) rfl) rfl
theorem wl_He_145 : Cond.methodLink "LastSeen$Hearing" 145 y_Wa_leastQuarrel ∈ lw_ok := lw_up_4 (List.mem_of_getElem? (i := 74) rfl) rfl
theorem wc_y_He_leastQuarrel : Cond.code y_He_leastQuarrel prog_4_method_16_code 1 (some .int) ∈ lw_ok := lw_up_4 (List.mem_of_getElem? (i := 73) rfl) rfl
theorem wi_y_He_leastQuarrel : Cond.instanceMethod y_He_leastQuarrel ∈ lw_ok := lw_up_4 (List.mem_of_getElem? (i := 71) rfl) rfl
theorem ws_y_He_leastQuarrel : Cond.selects y_He_leastQuarrel.cls y_He_leastQuarrel y_He_leastQuarrel ∈ lw_ok := lw_up_4 (List.mem_of_getElem? (i := 72) rfl) rfl
theorem wl_LS_238 : Cond.methodLink "LastSeen" 238 y_He_leastQuarrel ∈ lw_ok := lw_up_4 (List.mem_of_getElem? (i := 70) rfl) rfl
theorem wc_y_LS_bitAt : Cond.code y_LS_bitAt prog_1_method_39_code 4 (some .int) ∈ lw_ok := lw_up_4 (List.mem_of_getElem? (i := 82) rfl) rfl
theorem wt_y_LS_bitAt : Cond.static y_LS_bitAt ∈ lw_ok := lw_up_4 (List.mem_of_getElem? (i := 81) rfl) rfl
theorem wl_LS_246 : Cond.methodLink "LastSeen" 246 y_LS_bitAt ∈ lw_ok := lw_up_4 (List.mem_of_getElem? (i := 80) rfl) rfl
theorem wl_LS_241 : Cond.methodLink "LastSeen" 241 y_Jl_bitCount ∈ lw_ok := lw_up_4 (List.mem_of_getElem? (i := 79) rfl) rfl
theorem wc_y_He_agreesWith : Cond.code y_He_agreesWith prog_4_method_15_code 3 (some .boolean) ∈ lw_ok := lw_up_4 (List.mem_of_getElem? (i := 90) rfl) rfl
theorem wi_y_He_agreesWith : Cond.instanceMethod y_He_agreesWith ∈ lw_ok := lw_up_4 (List.mem_of_getElem? (i := 88) rfl) rfl
theorem ws_y_He_agreesWith : Cond.selects y_He_agreesWith.cls y_He_agreesWith y_He_agreesWith ∈ lw_ok := lw_up_4 (List.mem_of_getElem? (i := 89) rfl) rfl
theorem wl_LS_249 : Cond.methodLink "LastSeen" 249 y_He_agreesWith ∈ lw_ok := lw_up_4 (List.mem_of_getElem? (i := 87) rfl) rfl
theorem wc_y_He_latestRoot : Cond.code y_He_latestRoot prog_4_method_9_code 1 (some .int) ∈ lw_ok := lw_up_4 (List.mem_of_getElem? (i := 98) rfl) rfl
theorem wi_y_He_latestRoot : Cond.instanceMethod y_He_latestRoot ∈ lw_ok := lw_up_4 (List.mem_of_getElem? (i := 96) rfl) rfl
theorem ws_y_He_latestRoot : Cond.selects y_He_latestRoot.cls y_He_latestRoot y_He_latestRoot ∈ lw_ok := lw_up_4 (List.mem_of_getElem? (i := 97) rfl) rfl
theorem wl_LS_252 : Cond.methodLink "LastSeen" 252 y_He_latestRoot ∈ lw_ok := lw_up_4 (List.mem_of_getElem? (i := 95) rfl) rfl
theorem wc_y_Ru_isLetter : Cond.code y_Ru_isLetter prog_7_method_13_code 1 (some .boolean) ∈ lw_ok := lw_up_4 (List.mem_of_getElem? (i := 127) rfl) rfl
theorem wt_y_Ru_isLetter : Cond.static y_Ru_isLetter ∈ lw_ok := lw_up_4 (List.mem_of_getElem? (i := 126) rfl) rfl
theorem wn_Ru : Cond.initialized "LastSeen$Rules" ∈ lw_ok := lw_up_1 (List.mem_of_getElem? (i := 8) rfl) rfl
theorem wl_Ru_81 : Cond.methodLink "LastSeen$Rules" 81 y_Ru_isLetter ∈ lw_ok := lw_up_4 (List.mem_of_getElem? (i := 125) rfl) rfl
theorem wc_y_Ru_afterOpening : Cond.code y_Ru_afterOpening prog_7_method_8_code 2 (some .int) ∈ lw_ok := lw_up_4 (List.mem_of_getElem? (i := 124) rfl) rfl
theorem wi_y_Ru_afterOpening : Cond.instanceMethod y_Ru_afterOpening ∈ lw_ok := lw_up_4 (List.mem_of_getElem? (i := 123) rfl) rfl
theorem ws_y_Ru_afterOpening : Cond.selects y_Ru_afterOpening.cls y_Ru_afterOpening y_Ru_afterOpening ∈ lw_ok := lw_up_0 (List.mem_of_getElem? (i := 25) rfl) rfl
theorem wl_Ru_59 : Cond.methodLink "LastSeen$Rules" 59 y_Ru_afterOpening ∈ lw_ok := lw_up_4 (List.mem_of_getElem? (i := 121) rfl) rfl
theorem wc_y_Ru_isDigit : Cond.code y_Ru_isDigit prog_7_method_15_code 1 (some .boolean) ∈ lw_ok := lw_up_4 (List.mem_of_getElem? (i := 137) rfl) rfl
theorem wt_y_Ru_isDigit : Cond.static y_Ru_isDigit ∈ lw_ok := lw_up_4 (List.mem_of_getElem? (i := 136) rfl) rfl
theorem wl_Ru_69 : Cond.methodLink "LastSeen$Rules" 69 y_Ru_isDigit ∈ lw_ok := lw_up_4 (List.mem_of_getElem? (i := 135) rfl) rfl
theorem wc_y_Ru_afterStart : Cond.code y_Ru_afterStart prog_7_method_7_code 3 (some .int) ∈ lw_ok := lw_up_4 (List.mem_of_getElem? (i := 120) rfl) rfl
theorem wi_y_Ru_afterStart : Cond.instanceMethod y_Ru_afterStart ∈ lw_ok := lw_up_4 (List.mem_of_getElem? (i := 119) rfl) rfl
theorem ws_y_Ru_afterStart : Cond.selects y_Ru_afterStart.cls y_Ru_afterStart y_Ru_afterStart ∈ lw_ok := lw_up_0 (List.mem_of_getElem? (i := 24) rfl) rfl
theorem wl_Ru_56 : Cond.methodLink "LastSeen$Rules" 56 y_Ru_afterStart ∈ lw_ok := lw_up_4 (List.mem_of_getElem? (i := 117) rfl) rfl
theorem wc_y_Ru_isSign : Cond.code y_Ru_isSign prog_7_method_14_code 1 (some .boolean) ∈ lw_ok := lw_up_4 (List.mem_of_getElem? (i := 130) rfl) rfl
theorem wt_y_Ru_isSign : Cond.static y_Ru_isSign ∈ lw_ok := lw_up_4 (List.mem_of_getElem? (i := 129) rfl) rfl
theorem wl_Ru_62 : Cond.methodLink "LastSeen$Rules" 62 y_Ru_isSign ∈ lw_ok := lw_up_4 (List.mem_of_getElem? (i := 128) rfl) rfl
theorem wc_y_Ru_afterFirstDigit : Cond.code y_Ru_afterFirstDigit prog_7_method_9_code 2 (some .int) ∈ lw_ok := lw_up_4 (List.mem_of_getElem? (i := 134) rfl) rfl
theorem wi_y_Ru_afterFirstDigit : Cond.instanceMethod y_Ru_afterFirstDigit ∈ lw_ok := lw_up_4 (List.mem_of_getElem? (i := 133) rfl) rfl
theorem ws_y_Ru_afterFirstDigit : Cond.selects y_Ru_afterFirstDigit.cls y_Ru_afterFirstDigit y_Ru_afterFirstDigit ∈ lw_ok := lw_up_0 (List.mem_of_getElem? (i := 26) rfl) rfl
theorem wl_Ru_66 : Cond.methodLink "LastSeen$Rules" 66 y_Ru_afterFirstDigit ∈ lw_ok := lw_up_4 (List.mem_of_getElem? (i := 131) rfl) rfl
theorem wc_y_Ru_afterFact : Cond.code y_Ru_afterFact prog_7_method_11_code 2 (some .int) ∈ lw_ok := lw_up_4 (List.mem_of_getElem? (i := 145) rfl) rfl
theorem wi_y_Ru_afterFact : Cond.instanceMethod y_Ru_afterFact ∈ lw_ok := lw_up_4 (List.mem_of_getElem? (i := 144) rfl) rfl
theorem ws_y_Ru_afterFact : Cond.selects y_Ru_afterFact.cls y_Ru_afterFact y_Ru_afterFact ∈ lw_ok := lw_up_0 (List.mem_of_getElem? (i := 28) rfl) rfl
theorem wl_Ru_75 : Cond.methodLink "LastSeen$Rules" 75 y_Ru_afterFact ∈ lw_ok := lw_up_4 (List.mem_of_getElem? (i := 142) rfl) rfl
theorem wc_y_Ru_afterDigit : Cond.code y_Ru_afterDigit prog_7_method_10_code 1 (some .int) ∈ lw_ok := lw_up_4 (List.mem_of_getElem? (i := 141) rfl) rfl
theorem wi_y_Ru_afterDigit : Cond.instanceMethod y_Ru_afterDigit ∈ lw_ok := lw_up_4 (List.mem_of_getElem? (i := 140) rfl) rfl
theorem ws_y_Ru_afterDigit : Cond.selects y_Ru_afterDigit.cls y_Ru_afterDigit y_Ru_afterDigit ∈ lw_ok := lw_up_0 (List.mem_of_getElem? (i := 27) rfl) rfl
theorem wl_Ru_72 : Cond.methodLink "LastSeen$Rules" 72 y_Ru_afterDigit ∈ lw_ok := lw_up_4 (List.mem_of_getElem? (i := 138) rfl) rfl
theorem wc_y_Ru_afterClause : Cond.code y_Ru_afterClause prog_7_method_12_code 2 (some .int) ∈ lw_ok := lw_up_4 (List.mem_of_getElem? (i := 149) rfl) rfl
theorem wi_y_Ru_afterClause : Cond.instanceMethod y_Ru_afterClause ∈ lw_ok := lw_up_4 (List.mem_of_getElem? (i := 148) rfl) rfl
theorem ws_y_Ru_afterClause : Cond.selects y_Ru_afterClause.cls y_Ru_afterClause y_Ru_afterClause ∈ lw_ok := lw_up_0 (List.mem_of_getElem? (i := 29) rfl) rfl
theorem wl_Ru_78 : Cond.methodLink "LastSeen$Rules" 78 y_Ru_afterClause ∈ lw_ok := lw_up_4 (List.mem_of_getElem? (i := 146) rfl) rfl
theorem wl_Ru_45 : Cond.methodLink "LastSeen$Rules" 45 y_Ta_size ∈ lw_ok := lw_up_4 (List.mem_of_getElem? (i := 111) rfl) rfl
theorem wl_Ru_48 : Cond.methodLink "LastSeen$Rules" 48 y_Ta_at ∈ lw_ok := lw_up_4 (List.mem_of_getElem? (i := 112) rfl) rfl
theorem wc_y_Ru_after : Cond.code y_Ru_after prog_7_method_6_code 3 (some .int) ∈ lw_ok := lw_up_4 (List.mem_of_getElem? (i := 116) rfl) rfl
theorem wi_y_Ru_after : Cond.instanceMethod y_Ru_after ∈ lw_ok := lw_up_4 (List.mem_of_getElem? (i := 115) rfl) rfl
theorem ws_y_Ru_after : Cond.selects y_Ru_after.cls y_Ru_after y_Ru_after ∈ lw_ok := lw_up_0 (List.mem_of_getElem? (i := 23) rfl) rfl
theorem wl_Ru_52 : Cond.methodLink "LastSeen$Rules" 52 y_Ru_after ∈ lw_ok := lw_up_4 (List.mem_of_getElem? (i := 113) rfl) rfl
theorem wc_y_Ru_size : Cond.code y_Ru_size prog_7_method_2_code 1 (some .int) ∈ lw_ok := lw_up_4 (List.mem_of_getElem? (i := 106) rfl) rfl
theorem wi_y_Ru_size : Cond.instanceMethod y_Ru_size ∈ lw_ok := lw_up_4 (List.mem_of_getElem? (i := 104) rfl) rfl
theorem ws_y_Ru_size : Cond.selects y_Ru_size.cls y_Ru_size y_Ru_size ∈ lw_ok := lw_up_4 (List.mem_of_getElem? (i := 105) rfl) rfl
theorem wl_LS_255 : Cond.methodLink "LastSeen" 255 y_Ru_size ∈ lw_ok := lw_up_4 (List.mem_of_getElem? (i := 103) rfl) rfl
theorem wc_y_Ru_check : Cond.code y_Ru_check prog_7_method_3_code 4 (some .int) ∈ lw_ok := lw_up_4 (List.mem_of_getElem? (i := 110) rfl) rfl
theorem wi_y_Ru_check : Cond.instanceMethod y_Ru_check ∈ lw_ok := lw_up_4 (List.mem_of_getElem? (i := 108) rfl) rfl
theorem ws_y_Ru_check : Cond.selects y_Ru_check.cls y_Ru_check y_Ru_check ∈ lw_ok := lw_up_4 (List.mem_of_getElem? (i := 109) rfl) rfl
theorem wl_LS_256 : Cond.methodLink "LastSeen" 256 y_Ru_check ∈ lw_ok := lw_up_4 (List.mem_of_getElem? (i := 107) rfl) rfl
theorem wc_y_Ru_enter : Cond.code y_Ru_enter prog_7_method_4_code 5 (none) ∈ lw_ok := lw_up_4 (List.mem_of_getElem? (i := 153) rfl) rfl
theorem wi_y_Ru_enter : Cond.instanceMethod y_Ru_enter ∈ lw_ok := lw_up_4 (List.mem_of_getElem? (i := 151) rfl) rfl
theorem ws_y_Ru_enter : Cond.selects y_Ru_enter.cls y_Ru_enter y_Ru_enter ∈ lw_ok := lw_up_4 (List.mem_of_getElem? (i := 152) rfl) rfl
theorem wl_LS_260 : Cond.methodLink "LastSeen" 260 y_Ru_enter ∈ lw_ok := lw_up_4 (List.mem_of_getElem? (i := 150) rfl) rfl
theorem wc_y_Ru_textAt : Cond.code y_Ru_textAt prog_7_method_17_code 3 (some .int) ∈ lw_ok := lw_up_4 (List.mem_of_getElem? (i := 173) rfl) rfl
theorem wi_y_Ru_textAt : Cond.instanceMethod y_Ru_textAt ∈ lw_ok := lw_up_4 (List.mem_of_getElem? (i := 172) rfl) rfl
theorem ws_y_Ru_textAt : Cond.selects y_Ru_textAt.cls y_Ru_textAt y_Ru_textAt ∈ lw_ok := lw_up_0 (List.mem_of_getElem? (i := 31) rfl) rfl
theorem wl_Ru_91 : Cond.methodLink "LastSeen$Rules" 91 y_Ru_textAt ∈ lw_ok := lw_up_4 (List.mem_of_getElem? (i := 170) rfl) rfl
theorem wc_y_He_measure : Cond.code y_He_measure prog_4_method_17_code 2 (some .int) ∈ lw_ok := lw_up_4 (List.mem_of_getElem? (i := 193) rfl) rfl
theorem wi_y_He_measure : Cond.instanceMethod y_He_measure ∈ lw_ok := lw_up_4 (List.mem_of_getElem? (i := 191) rfl) rfl
theorem ws_y_He_measure : Cond.selects y_He_measure.cls y_He_measure y_He_measure ∈ lw_ok := lw_up_4 (List.mem_of_getElem? (i := 192) rfl) rfl
theorem wl_Ru_118 : Cond.methodLink "LastSeen$Rules" 118 y_He_measure ∈ lw_ok := lw_up_4 (List.mem_of_getElem? (i := 190) rfl) rfl
theorem wc_y_Ru_openGroup : Cond.code y_Ru_openGroup prog_7_method_22_code 3 (none) ∈ lw_ok := lw_up_4 (List.mem_of_getElem? (i := 185) rfl) rfl
theorem wi_y_Ru_openGroup : Cond.instanceMethod y_Ru_openGroup ∈ lw_ok := lw_up_4 (List.mem_of_getElem? (i := 184) rfl) rfl
theorem ws_y_Ru_openGroup : Cond.selects y_Ru_openGroup.cls y_Ru_openGroup y_Ru_openGroup ∈ lw_ok := lw_up_0 (List.mem_of_getElem? (i := 33) rfl) rfl
theorem wl_Ru_101 : Cond.methodLink "LastSeen$Rules" 101 y_Ru_openGroup ∈ lw_ok := lw_up_4 (List.mem_of_getElem? (i := 182) rfl) rfl
theorem wc_y_Ru_groupIsSo : Cond.code y_Ru_groupIsSo prog_7_method_23_code 2 (some .boolean) ∈ lw_ok := lw_up_4 (List.mem_of_getElem? (i := 201) rfl) rfl
theorem wi_y_Ru_groupIsSo : Cond.instanceMethod y_Ru_groupIsSo ∈ lw_ok := lw_up_4 (List.mem_of_getElem? (i := 200) rfl) rfl
theorem ws_y_Ru_groupIsSo : Cond.selects y_Ru_groupIsSo.cls y_Ru_groupIsSo y_Ru_groupIsSo ∈ lw_ok := lw_up_0 (List.mem_of_getElem? (i := 36) rfl) rfl
theorem wl_Ru_111 : Cond.methodLink "LastSeen$Rules" 111 y_Ru_groupIsSo ∈ lw_ok := lw_up_4 (List.mem_of_getElem? (i := 198) rfl) rfl
theorem wc_y_Ru_closeRow : Cond.code y_Ru_closeRow prog_7_method_21_code 2 (none) ∈ lw_ok := lw_up_4 (List.mem_of_getElem? (i := 205) rfl) rfl
theorem wi_y_Ru_closeRow : Cond.instanceMethod y_Ru_closeRow ∈ lw_ok := lw_up_4 (List.mem_of_getElem? (i := 204) rfl) rfl
theorem ws_y_Ru_closeRow : Cond.selects y_Ru_closeRow.cls y_Ru_closeRow y_Ru_closeRow ∈ lw_ok := lw_up_0 (List.mem_of_getElem? (i := 37) rfl) rfl
theorem wl_Ru_114 : Cond.methodLink "LastSeen$Rules" 114 y_Ru_closeRow ∈ lw_ok := lw_up_4 (List.mem_of_getElem? (i := 202) rfl) rfl
theorem wc_y_Ru_joinRow : Cond.code y_Ru_joinRow prog_7_method_20_code 3 (none) ∈ lw_ok := lw_up_4 (List.mem_of_getElem? (i := 197) rfl) rfl
theorem wi_y_Ru_joinRow : Cond.instanceMethod y_Ru_joinRow ∈ lw_ok := lw_up_4 (List.mem_of_getElem? (i := 196) rfl) rfl
theorem ws_y_Ru_joinRow : Cond.selects y_Ru_joinRow.cls y_Ru_joinRow y_Ru_joinRow ∈ lw_ok := lw_up_0 (List.mem_of_getElem? (i := 35) rfl) rfl
theorem wl_Ru_108 : Cond.methodLink "LastSeen$Rules" 108 y_Ru_joinRow ∈ lw_ok := lw_up_4 (List.mem_of_getElem? (i := 194) rfl) rfl
theorem wc_y_Ru_factIsSo : Cond.code y_Ru_factIsSo prog_7_method_24_code 7 (some .boolean) ∈ lw_ok := lw_up_4 (List.mem_of_getElem? (i := 189) rfl) rfl
theorem wi_y_Ru_factIsSo : Cond.instanceMethod y_Ru_factIsSo ∈ lw_ok := lw_up_4 (List.mem_of_getElem? (i := 188) rfl) rfl
theorem ws_y_Ru_factIsSo : Cond.selects y_Ru_factIsSo.cls y_Ru_factIsSo y_Ru_factIsSo ∈ lw_ok := lw_up_0 (List.mem_of_getElem? (i := 34) rfl) rfl
theorem wl_Ru_105 : Cond.methodLink "LastSeen$Rules" 105 y_Ru_factIsSo ∈ lw_ok := lw_up_4 (List.mem_of_getElem? (i := 186) rfl) rfl
theorem wc_y_Ru_isSo : Cond.code y_Ru_isSo prog_7_method_19_code 7 (some .boolean) ∈ lw_ok := lw_up_4 (List.mem_of_getElem? (i := 181) rfl) rfl
theorem wi_y_Ru_isSo : Cond.instanceMethod y_Ru_isSo ∈ lw_ok := lw_up_4 (List.mem_of_getElem? (i := 180) rfl) rfl
theorem ws_y_Ru_isSo : Cond.selects y_Ru_isSo.cls y_Ru_isSo y_Ru_isSo ∈ lw_ok := lw_up_0 (List.mem_of_getElem? (i := 32) rfl) rfl
theorem wl_Ru_97 : Cond.methodLink "LastSeen$Rules" 97 y_Ru_isSo ∈ lw_ok := lw_up_4 (List.mem_of_getElem? (i := 178) rfl) rfl
theorem wc_y_Ru_asksWhetherCan : Cond.code y_Ru_asksWhetherCan prog_7_method_16_code 3 (some .boolean) ∈ lw_ok := lw_up_4 (List.mem_of_getElem? (i := 169) rfl) rfl
theorem wi_y_Ru_asksWhetherCan : Cond.instanceMethod y_Ru_asksWhetherCan ∈ lw_ok := lw_up_4 (List.mem_of_getElem? (i := 167) rfl) rfl
theorem ws_y_Ru_asksWhetherCan : Cond.selects y_Ru_asksWhetherCan.cls y_Ru_asksWhetherCan y_Ru_asksWhetherCan ∈ lw_ok := lw_up_4 (List.mem_of_getElem? (i := 168) rfl) rfl
theorem wl_LS_379 : Cond.methodLink "LastSeen" 379 y_Ru_asksWhetherCan ∈ lw_ok := lw_up_4 (List.mem_of_getElem? (i := 166) rfl) rfl
theorem wc_y_Ru_decide : Cond.code y_Ru_decide prog_7_method_18_code 6 (some .int) ∈ lw_ok := lw_up_4 (List.mem_of_getElem? (i := 177) rfl) rfl
theorem wi_y_Ru_decide : Cond.instanceMethod y_Ru_decide ∈ lw_ok := lw_up_4 (List.mem_of_getElem? (i := 175) rfl) rfl
theorem ws_y_Ru_decide : Cond.selects y_Ru_decide.cls y_Ru_decide y_Ru_decide ∈ lw_ok := lw_up_4 (List.mem_of_getElem? (i := 176) rfl) rfl
theorem wl_LS_382 : Cond.methodLink "LastSeen" 382 y_Ru_decide ∈ lw_ok := lw_up_4 (List.mem_of_getElem? (i := 174) rfl) rfl
theorem wc_y_Ru_latestBy : Cond.code y_Ru_latestBy prog_7_method_5_code 4 (some .int) ∈ lw_ok := lw_up_4 (List.mem_of_getElem? (i := 161) rfl) rfl
theorem wi_y_Ru_latestBy : Cond.instanceMethod y_Ru_latestBy ∈ lw_ok := lw_up_4 (List.mem_of_getElem? (i := 159) rfl) rfl
theorem ws_y_Ru_latestBy : Cond.selects y_Ru_latestBy.cls y_Ru_latestBy y_Ru_latestBy ∈ lw_ok := lw_up_4 (List.mem_of_getElem? (i := 160) rfl) rfl
theorem wl_LS_263 : Cond.methodLink "LastSeen" 263 y_Ru_latestBy ∈ lw_ok := lw_up_4 (List.mem_of_getElem? (i := 158) rfl) rfl
theorem wc_y_LS_digitOf : Cond.code y_LS_digitOf prog_1_method_49_code 5 (some .int) ∈ lw_ok := lw_up_4 (List.mem_of_getElem? (i := 165) rfl) rfl
theorem wi_y_LS_digitOf : Cond.instanceMethod y_LS_digitOf ∈ lw_ok := lw_up_4 (List.mem_of_getElem? (i := 164) rfl) rfl
theorem ws_y_LS_digitOf : Cond.selects y_LS_digitOf.cls y_LS_digitOf y_LS_digitOf ∈ lw_ok := lw_up_0 (List.mem_of_getElem? (i := 30) rfl) rfl
theorem wl_LS_266 : Cond.methodLink "LastSeen" 266 y_LS_digitOf ∈ lw_ok := lw_up_4 (List.mem_of_getElem? (i := 162) rfl) rfl
theorem wc_y_LS_holding : Cond.code y_LS_holding prog_1_method_52_code 6 (some .int) ∈ lw_ok := lw_up_4 (List.mem_of_getElem? (i := 217) rfl) rfl
theorem wi_y_LS_holding : Cond.instanceMethod y_LS_holding ∈ lw_ok := lw_up_4 (List.mem_of_getElem? (i := 216) rfl) rfl
theorem ws_y_LS_holding : Cond.selects y_LS_holding.cls y_LS_holding y_LS_holding ∈ lw_ok := lw_up_0 (List.mem_of_getElem? (i := 38) rfl) rfl
theorem wl_LS_272 : Cond.methodLink "LastSeen" 272 y_LS_holding ∈ lw_ok := lw_up_4 (List.mem_of_getElem? (i := 214) rfl) rfl
theorem wc_y_LS_openAsFound : Cond.code y_LS_openAsFound prog_1_method_48_code 3 (some (.object "LastSeen$Hearing")) ∈ lw_ok := lw_up_4 (List.mem_of_getElem? (i := 221) rfl) rfl
theorem wi_y_LS_openAsFound : Cond.instanceMethod y_LS_openAsFound ∈ lw_ok := lw_up_4 (List.mem_of_getElem? (i := 220) rfl) rfl
theorem ws_y_LS_openAsFound : Cond.selects y_LS_openAsFound.cls y_LS_openAsFound y_LS_openAsFound ∈ lw_ok := lw_up_0 (List.mem_of_getElem? (i := 39) rfl) rfl
theorem wl_LS_275 : Cond.methodLink "LastSeen" 275 y_LS_openAsFound ∈ lw_ok := lw_up_4 (List.mem_of_getElem? (i := 218) rfl) rfl
theorem wc_y_He_leanCount : Cond.code y_He_leanCount prog_4_method_10_code 3 (some .int) ∈ lw_ok := lw_up_4 (List.mem_of_getElem? (i := 225) rfl) rfl
theorem wi_y_He_leanCount : Cond.instanceMethod y_He_leanCount ∈ lw_ok := lw_up_4 (List.mem_of_getElem? (i := 223) rfl) rfl
theorem ws_y_He_leanCount : Cond.selects y_He_leanCount.cls y_He_leanCount y_He_leanCount ∈ lw_ok := lw_up_4 (List.mem_of_getElem? (i := 224) rfl) rfl
theorem wl_LS_279 : Cond.methodLink "LastSeen" 279 y_He_leanCount ∈ lw_ok := lw_up_4 (List.mem_of_getElem? (i := 222) rfl) rfl
theorem wc_y_He_leanAt : Cond.code y_He_leanAt prog_4_method_11_code 4 (some .int) ∈ lw_ok := lw_up_4 (List.mem_of_getElem? (i := 229) rfl) rfl
theorem wi_y_He_leanAt : Cond.instanceMethod y_He_leanAt ∈ lw_ok := lw_up_4 (List.mem_of_getElem? (i := 227) rfl) rfl
theorem ws_y_He_leanAt : Cond.selects y_He_leanAt.cls y_He_leanAt y_He_leanAt ∈ lw_ok := lw_up_4 (List.mem_of_getElem? (i := 228) rfl) rfl
theorem wl_LS_282 : Cond.methodLink "LastSeen" 282 y_He_leanAt ∈ lw_ok := lw_up_4 (List.mem_of_getElem? (i := 226) rfl) rfl
theorem wc_y_Bn_heapOf : Cond.code y_Bn_heapOf prog_2_method_2_code 3 (some .int) ∈ lw_ok := lw_up_5 (List.mem_of_getElem? (i := 3) rfl) rfl
theorem wt_y_Bn_heapOf : Cond.static y_Bn_heapOf ∈ lw_ok := lw_up_5 (List.mem_of_getElem? (i := 2) rfl) rfl
theorem wn_Bn : Cond.initialized "LastSeen$Bones" ∈ lw_ok := lw_up_1 (List.mem_of_getElem? (i := 9) rfl) rfl
theorem wl_Bn_22 : Cond.methodLink "LastSeen$Bones" 22 y_Bn_heapOf ∈ lw_ok := lw_up_5 (List.mem_of_getElem? (i := 1) rfl) rfl
theorem wc_y_Gr_isGrave : Cond.code y_Gr_isGrave prog_3_method_2_code 1 (some .boolean) ∈ lw_ok := lw_up_4 (List.mem_of_getElem? (i := 236) rfl) rfl
theorem wt_y_Gr_isGrave : Cond.static y_Gr_isGrave ∈ lw_ok := lw_up_4 (List.mem_of_getElem? (i := 235) rfl) rfl
theorem wn_Gr : Cond.initialized "LastSeen$Graves" ∈ lw_ok := lw_up_1 (List.mem_of_getElem? (i := 10) rfl) rfl
theorem wl_LS_285 : Cond.methodLink "LastSeen" 285 y_Gr_isGrave ∈ lw_ok := lw_up_4 (List.mem_of_getElem? (i := 234) rfl) rfl
theorem wc_y_Bn_isFull : Cond.code y_Bn_isFull prog_2_method_3_code 4 (some .boolean) ∈ lw_ok := lw_up_5 (List.mem_of_getElem? (i := 0) rfl) rfl
theorem wi_y_Bn_isFull : Cond.instanceMethod y_Bn_isFull ∈ lw_ok := lw_up_4 (List.mem_of_getElem? (i := 238) rfl) rfl
theorem ws_y_Bn_isFull : Cond.selects y_Bn_isFull.cls y_Bn_isFull y_Bn_isFull ∈ lw_ok := lw_up_4 (List.mem_of_getElem? (i := 239) rfl) rfl
theorem wl_LS_288 : Cond.methodLink "LastSeen" 288 y_Bn_isFull ∈ lw_ok := lw_up_4 (List.mem_of_getElem? (i := 237) rfl) rfl
theorem wc_y_Bn_lay : Cond.code y_Bn_lay prog_2_method_4_code 7 (some .int) ∈ lw_ok := lw_up_5 (List.mem_of_getElem? (i := 7) rfl) rfl
theorem wi_y_Bn_lay : Cond.instanceMethod y_Bn_lay ∈ lw_ok := lw_up_5 (List.mem_of_getElem? (i := 5) rfl) rfl
theorem ws_y_Bn_lay : Cond.selects y_Bn_lay.cls y_Bn_lay y_Bn_lay ∈ lw_ok := lw_up_5 (List.mem_of_getElem? (i := 6) rfl) rfl
theorem wl_LS_291 : Cond.methodLink "LastSeen" 291 y_Bn_lay ∈ lw_ok := lw_up_5 (List.mem_of_getElem? (i := 4) rfl) rfl
theorem wc_y_Bn_changeBound : Cond.code y_Bn_changeBound prog_2_method_5_code 3 (some .int) ∈ lw_ok := lw_up_5 (List.mem_of_getElem? (i := 15) rfl) rfl
theorem wi_y_Bn_changeBound : Cond.instanceMethod y_Bn_changeBound ∈ lw_ok := lw_up_5 (List.mem_of_getElem? (i := 13) rfl) rfl
theorem ws_y_Bn_changeBound : Cond.selects y_Bn_changeBound.cls y_Bn_changeBound y_Bn_changeBound ∈ lw_ok := lw_up_5 (List.mem_of_getElem? (i := 14) rfl) rfl
theorem wl_LS_293 : Cond.methodLink "LastSeen" 293 y_Bn_changeBound ∈ lw_ok := lw_up_5 (List.mem_of_getElem? (i := 12) rfl) rfl
theorem wc_y_Bn_couples : Cond.code y_Bn_couples prog_2_method_7_code 7 (some .int) ∈ lw_ok := lw_up_5 (List.mem_of_getElem? (i := 27) rfl) rfl
theorem wi_y_Bn_couples : Cond.instanceMethod y_Bn_couples ∈ lw_ok := lw_up_5 (List.mem_of_getElem? (i := 26) rfl) rfl
theorem ws_y_Bn_couples : Cond.selects y_Bn_couples.cls y_Bn_couples y_Bn_couples ∈ lw_ok := lw_up_0 (List.mem_of_getElem? (i := 40) rfl) rfl
theorem wl_Bn_26 : Cond.methodLink "LastSeen$Bones" 26 y_Bn_couples ∈ lw_ok := lw_up_5 (List.mem_of_getElem? (i := 24) rfl) rfl
theorem wl_Bn_30 : Cond.methodLink "LastSeen$Bones" 30 Lib.Math.max.name ∈ lw_ok := lw_up_5 (List.mem_of_getElem? (i := 28) rfl) rfl
theorem wc_y_Bn_leastPersons : Cond.code y_Bn_leastPersons prog_2_method_6_code 6 (some .int) ∈ lw_ok := lw_up_5 (List.mem_of_getElem? (i := 23) rfl) rfl
theorem wi_y_Bn_leastPersons : Cond.instanceMethod y_Bn_leastPersons ∈ lw_ok := lw_up_5 (List.mem_of_getElem? (i := 21) rfl) rfl
theorem ws_y_Bn_leastPersons : Cond.selects y_Bn_leastPersons.cls y_Bn_leastPersons y_Bn_leastPersons ∈ lw_ok := lw_up_5 (List.mem_of_getElem? (i := 22) rfl) rfl
theorem wl_LS_296 : Cond.methodLink "LastSeen" 296 y_Bn_leastPersons ∈ lw_ok := lw_up_5 (List.mem_of_getElem? (i := 20) rfl) rfl
theorem wc_y_Gr_isHeight : Cond.code y_Gr_isHeight prog_3_method_3_code 1 (some .boolean) ∈ lw_ok := lw_up_5 (List.mem_of_getElem? (i := 35) rfl) rfl
theorem wt_y_Gr_isHeight : Cond.static y_Gr_isHeight ∈ lw_ok := lw_up_5 (List.mem_of_getElem? (i := 34) rfl) rfl
theorem wl_LS_299 : Cond.methodLink "LastSeen" 299 y_Gr_isHeight ∈ lw_ok := lw_up_5 (List.mem_of_getElem? (i := 33) rfl) rfl
theorem wc_y_Gr_areMarks : Cond.code y_Gr_areMarks prog_3_method_4_code 2 (some .boolean) ∈ lw_ok := lw_up_5 (List.mem_of_getElem? (i := 38) rfl) rfl
theorem wt_y_Gr_areMarks : Cond.static y_Gr_areMarks ∈ lw_ok := lw_up_5 (List.mem_of_getElem? (i := 37) rfl) rfl
theorem wl_LS_302 : Cond.methodLink "LastSeen" 302 y_Gr_areMarks ∈ lw_ok := lw_up_5 (List.mem_of_getElem? (i := 36) rfl) rfl
theorem wc_y_Gr_sets : Cond.code y_Gr_sets prog_3_method_5_code 1 (some .int) ∈ lw_ok := lw_up_5 (List.mem_of_getElem? (i := 42) rfl) rfl
theorem wi_y_Gr_sets : Cond.instanceMethod y_Gr_sets ∈ lw_ok := lw_up_5 (List.mem_of_getElem? (i := 40) rfl) rfl
theorem ws_y_Gr_sets : Cond.selects y_Gr_sets.cls y_Gr_sets y_Gr_sets ∈ lw_ok := lw_up_5 (List.mem_of_getElem? (i := 41) rfl) rfl
theorem wl_LS_305 : Cond.methodLink "LastSeen" 305 y_Gr_sets ∈ lw_ok := lw_up_5 (List.mem_of_getElem? (i := 39) rfl) rfl
theorem wc_y_Gr_addSet : Cond.code y_Gr_addSet prog_3_method_8_code 6 (some .int) ∈ lw_ok := lw_up_5 (List.mem_of_getElem? (i := 46) rfl) rfl
theorem wi_y_Gr_addSet : Cond.instanceMethod y_Gr_addSet ∈ lw_ok := lw_up_5 (List.mem_of_getElem? (i := 44) rfl) rfl
theorem ws_y_Gr_addSet : Cond.selects y_Gr_addSet.cls y_Gr_addSet y_Gr_addSet ∈ lw_ok := lw_up_5 (List.mem_of_getElem? (i := 45) rfl) rfl
theorem wl_LS_308 : Cond.methodLink "LastSeen" 308 y_Gr_addSet ∈ lw_ok := lw_up_5 (List.mem_of_getElem? (i := 43) rfl) rfl
theorem wc_y_Gr_lostIndex : Cond.code y_Gr_lostIndex prog_3_method_9_code 3 (some .int) ∈ lw_ok := lw_up_5 (List.mem_of_getElem? (i := 54) rfl) rfl
theorem wi_y_Gr_lostIndex : Cond.instanceMethod y_Gr_lostIndex ∈ lw_ok := lw_up_5 (List.mem_of_getElem? (i := 52) rfl) rfl
theorem ws_y_Gr_lostIndex : Cond.selects y_Gr_lostIndex.cls y_Gr_lostIndex y_Gr_lostIndex ∈ lw_ok := lw_up_5 (List.mem_of_getElem? (i := 53) rfl) rfl
theorem wl_LS_312 : Cond.methodLink "LastSeen" 312 y_Gr_lostIndex ∈ lw_ok := lw_up_5 (List.mem_of_getElem? (i := 51) rfl) rfl
theorem wc_y_Gr_isTaken : Cond.code y_Gr_isTaken prog_3_method_13_code 3 (some .boolean) ∈ lw_ok := lw_up_5 (List.mem_of_getElem? (i := 66) rfl) rfl
theorem wi_y_Gr_isTaken : Cond.instanceMethod y_Gr_isTaken ∈ lw_ok := lw_up_5 (List.mem_of_getElem? (i := 64) rfl) rfl
theorem ws_y_Gr_isTaken : Cond.selects y_Gr_isTaken.cls y_Gr_isTaken y_Gr_isTaken ∈ lw_ok := lw_up_5 (List.mem_of_getElem? (i := 65) rfl) rfl
theorem wl_LS_321 : Cond.methodLink "LastSeen" 321 y_Gr_isTaken ∈ lw_ok := lw_up_5 (List.mem_of_getElem? (i := 63) rfl) rfl
theorem wc_y_Gr_describe : Cond.code y_Gr_describe prog_3_method_12_code 5 (none) ∈ lw_ok := lw_up_5 (List.mem_of_getElem? (i := 70) rfl) rfl
theorem wi_y_Gr_describe : Cond.instanceMethod y_Gr_describe ∈ lw_ok := lw_up_5 (List.mem_of_getElem? (i := 68) rfl) rfl
theorem ws_y_Gr_describe : Cond.selects y_Gr_describe.cls y_Gr_describe y_Gr_describe ∈ lw_ok := lw_up_5 (List.mem_of_getElem? (i := 69) rfl) rfl
theorem wl_LS_324 : Cond.methodLink "LastSeen" 324 y_Gr_describe ∈ lw_ok := lw_up_5 (List.mem_of_getElem? (i := 67) rfl) rfl
theorem wc_y_Gr_lost : Cond.code y_Gr_lost prog_3_method_6_code 1 (some .int) ∈ lw_ok := lw_up_5 (List.mem_of_getElem? (i := 58) rfl) rfl
theorem wi_y_Gr_lost : Cond.instanceMethod y_Gr_lost ∈ lw_ok := lw_up_5 (List.mem_of_getElem? (i := 56) rfl) rfl
theorem ws_y_Gr_lost : Cond.selects y_Gr_lost.cls y_Gr_lost y_Gr_lost ∈ lw_ok := lw_up_5 (List.mem_of_getElem? (i := 57) rfl) rfl
theorem wl_LS_315 : Cond.methodLink "LastSeen" 315 y_Gr_lost ∈ lw_ok := lw_up_5 (List.mem_of_getElem? (i := 55) rfl) rfl
theorem wc_y_Gr_addLost : Cond.code y_Gr_addLost prog_3_method_11_code 2 (some .int) ∈ lw_ok := lw_up_5 (List.mem_of_getElem? (i := 62) rfl) rfl
theorem wi_y_Gr_addLost : Cond.instanceMethod y_Gr_addLost ∈ lw_ok := lw_up_5 (List.mem_of_getElem? (i := 60) rfl) rfl
theorem ws_y_Gr_addLost : Cond.selects y_Gr_addLost.cls y_Gr_addLost y_Gr_addLost ∈ lw_ok := lw_up_5 (List.mem_of_getElem? (i := 61) rfl) rfl
theorem wl_LS_318 : Cond.methodLink "LastSeen" 318 y_Gr_addLost ∈ lw_ok := lw_up_5 (List.mem_of_getElem? (i := 59) rfl) rfl
theorem wc_y_LS_isSet : Cond.code y_LS_isSet prog_1_method_46_code 2 (some .boolean) ∈ lw_ok := lw_up_5 (List.mem_of_getElem? (i := 78) rfl) rfl
theorem wi_y_LS_isSet : Cond.instanceMethod y_LS_isSet ∈ lw_ok := lw_up_5 (List.mem_of_getElem? (i := 77) rfl) rfl
theorem ws_y_LS_isSet : Cond.selects y_LS_isSet.cls y_LS_isSet y_LS_isSet ∈ lw_ok := lw_up_0 (List.mem_of_getElem? (i := 41) rfl) rfl
theorem wl_LS_327 : Cond.methodLink "LastSeen" 327 y_LS_isSet ∈ lw_ok := lw_up_5 (List.mem_of_getElem? (i := 75) rfl) rfl
theorem wc_y_Gr_suits : Cond.code y_Gr_suits prog_3_method_14_code 4 (some .boolean) ∈ lw_ok := lw_up_5 (List.mem_of_getElem? (i := 82) rfl) rfl
theorem wi_y_Gr_suits : Cond.instanceMethod y_Gr_suits ∈ lw_ok := lw_up_5 (List.mem_of_getElem? (i := 80) rfl) rfl
theorem ws_y_Gr_suits : Cond.selects y_Gr_suits.cls y_Gr_suits y_Gr_suits ∈ lw_ok := lw_up_5 (List.mem_of_getElem? (i := 81) rfl) rfl
theorem wl_LS_330 : Cond.methodLink "LastSeen" 330 y_Gr_suits ∈ lw_ok := lw_up_5 (List.mem_of_getElem? (i := 79) rfl) rfl
theorem wl_Gr_77 : Cond.methodLink "LastSeen$Graves" 77 y_Na_leastOf ∈ lw_ok := lw_up_5 (List.mem_of_getElem? (i := 100) rfl) rfl
theorem wl_Gr_80 : Cond.methodLink "LastSeen$Graves" 80 y_Gr_suits ∈ lw_ok := lw_up_5 (List.mem_of_getElem? (i := 105) rfl) rfl
theorem wc_y_Gr_isBarred : Cond.code y_Gr_isBarred prog_3_method_18_code 3 (some .boolean) ∈ lw_ok := lw_up_5 (List.mem_of_getElem? (i := 109) rfl) rfl
theorem wi_y_Gr_isBarred : Cond.instanceMethod y_Gr_isBarred ∈ lw_ok := lw_up_5 (List.mem_of_getElem? (i := 108) rfl) rfl
theorem ws_y_Gr_isBarred : Cond.selects y_Gr_isBarred.cls y_Gr_isBarred y_Gr_isBarred ∈ lw_ok := lw_up_0 (List.mem_of_getElem? (i := 44) rfl) rfl
theorem wl_Gr_83 : Cond.methodLink "LastSeen$Graves" 83 y_Gr_isBarred ∈ lw_ok := lw_up_5 (List.mem_of_getElem? (i := 106) rfl) rfl
theorem wl_Gr_63 : Cond.methodLink "LastSeen$Graves" 63 y_Na_readBy ∈ lw_ok := lw_up_5 (List.mem_of_getElem? (i := 95) rfl) rfl
theorem wc_y_Gr_firstOneWith : Cond.code y_Gr_firstOneWith prog_3_method_16_code 3 (some .int) ∈ lw_ok := lw_up_5 (List.mem_of_getElem? (i := 99) rfl) rfl
theorem wi_y_Gr_firstOneWith : Cond.instanceMethod y_Gr_firstOneWith ∈ lw_ok := lw_up_5 (List.mem_of_getElem? (i := 98) rfl) rfl
theorem ws_y_Gr_firstOneWith : Cond.selects y_Gr_firstOneWith.cls y_Gr_firstOneWith y_Gr_firstOneWith ∈ lw_ok := lw_up_0 (List.mem_of_getElem? (i := 42) rfl) rfl
theorem wl_Gr_69 : Cond.methodLink "LastSeen$Graves" 69 y_Gr_firstOneWith ∈ lw_ok := lw_up_5 (List.mem_of_getElem? (i := 96) rfl) rfl
theorem wc_y_Gr_canGet : Cond.code y_Gr_canGet prog_3_method_17_code 3 (some .boolean) ∈ lw_ok := lw_up_5 (List.mem_of_getElem? (i := 104) rfl) rfl
theorem wi_y_Gr_canGet : Cond.instanceMethod y_Gr_canGet ∈ lw_ok := lw_up_5 (List.mem_of_getElem? (i := 103) rfl) rfl
theorem ws_y_Gr_canGet : Cond.selects y_Gr_canGet.cls y_Gr_canGet y_Gr_canGet ∈ lw_ok := lw_up_0 (List.mem_of_getElem? (i := 43) rfl) rfl
theorem wl_Gr_73 : Cond.methodLink "LastSeen$Graves" 73 y_Gr_canGet ∈ lw_ok := lw_up_5 (List.mem_of_getElem? (i := 101) rfl) rfl
theorem wc_y_Gr_spellings : Cond.code y_Gr_spellings prog_3_method_21_code 5 (some .int) ∈ lw_ok := lw_up_5 (List.mem_of_getElem? (i := 121) rfl) rfl
theorem wi_y_Gr_spellings : Cond.instanceMethod y_Gr_spellings ∈ lw_ok := lw_up_5 (List.mem_of_getElem? (i := 120) rfl) rfl
theorem ws_y_Gr_spellings : Cond.selects y_Gr_spellings.cls y_Gr_spellings y_Gr_spellings ∈ lw_ok := lw_up_0 (List.mem_of_getElem? (i := 46) rfl) rfl
theorem wl_Gr_97 : Cond.methodLink "LastSeen$Graves" 97 y_Gr_spellings ∈ lw_ok := lw_up_5 (List.mem_of_getElem? (i := 118) rfl) rfl
theorem wk_Gr_91 : Cond.constant "LastSeen$Graves" 91 (1000000) ∈ lw_ok := lw_up_5 (List.mem_of_getElem? (i := 122) rfl) rfl
theorem wl_Gr_92 : Cond.methodLink "LastSeen$Graves" 92 Lib.Math.min.name ∈ lw_ok := lw_up_5 (List.mem_of_getElem? (i := 123) rfl) rfl
theorem wc_y_Gr_waysWith : Cond.code y_Gr_waysWith prog_3_method_20_code 6 (some .int) ∈ lw_ok := lw_up_5 (List.mem_of_getElem? (i := 117) rfl) rfl
theorem wi_y_Gr_waysWith : Cond.instanceMethod y_Gr_waysWith ∈ lw_ok := lw_up_5 (List.mem_of_getElem? (i := 116) rfl) rfl
theorem ws_y_Gr_waysWith : Cond.selects y_Gr_waysWith.cls y_Gr_waysWith y_Gr_waysWith ∈ lw_ok := lw_up_0 (List.mem_of_getElem? (i := 45) rfl) rfl
theorem wl_Gr_87 : Cond.methodLink "LastSeen$Graves" 87 y_Gr_waysWith ∈ lw_ok := lw_up_5 (List.mem_of_getElem? (i := 114) rfl) rfl
theorem wc_y_Gr_areSets : Cond.code y_Gr_areSets prog_3_method_7_code 2 (some .boolean) ∈ lw_ok := lw_up_5 (List.mem_of_getElem? (i := 90) rfl) rfl
theorem wi_y_Gr_areSets : Cond.instanceMethod y_Gr_areSets ∈ lw_ok := lw_up_5 (List.mem_of_getElem? (i := 88) rfl) rfl
theorem ws_y_Gr_areSets : Cond.selects y_Gr_areSets.cls y_Gr_areSets y_Gr_areSets ∈ lw_ok := lw_up_5 (List.mem_of_getElem? (i := 89) rfl) rfl
theorem wl_LS_333 : Cond.methodLink "LastSeen" 333 y_Gr_areSets ∈ lw_ok := lw_up_5 (List.mem_of_getElem? (i := 87) rfl) rfl
theorem wc_y_Gr_readChoices : Cond.code y_Gr_readChoices prog_3_method_15_code 4 (none) ∈ lw_ok := lw_up_5 (List.mem_of_getElem? (i := 94) rfl) rfl
theorem wi_y_Gr_readChoices : Cond.instanceMethod y_Gr_readChoices ∈ lw_ok := lw_up_5 (List.mem_of_getElem? (i := 92) rfl) rfl
theorem ws_y_Gr_readChoices : Cond.selects y_Gr_readChoices.cls y_Gr_readChoices y_Gr_readChoices ∈ lw_ok := lw_up_5 (List.mem_of_getElem? (i := 93) rfl) rfl
theorem wl_LS_336 : Cond.methodLink "LastSeen" 336 y_Gr_readChoices ∈ lw_ok := lw_up_5 (List.mem_of_getElem? (i := 91) rfl) rfl
theorem wc_y_Gr_ways : Cond.code y_Gr_ways prog_3_method_19_code 5 (some .int) ∈ lw_ok := lw_up_5 (List.mem_of_getElem? (i := 113) rfl) rfl
theorem wi_y_Gr_ways : Cond.instanceMethod y_Gr_ways ∈ lw_ok := lw_up_5 (List.mem_of_getElem? (i := 111) rfl) rfl
theorem ws_y_Gr_ways : Cond.selects y_Gr_ways.cls y_Gr_ways y_Gr_ways ∈ lw_ok := lw_up_5 (List.mem_of_getElem? (i := 112) rfl) rfl
theorem wl_LS_339 : Cond.methodLink "LastSeen" 339 y_Gr_ways ∈ lw_ok := lw_up_5 (List.mem_of_getElem? (i := 110) rfl) rfl
theorem wc_y_Gr_personsFor : Cond.code y_Gr_personsFor prog_3_method_24_code 4 (some .int) ∈ lw_ok := lw_up_5 (List.mem_of_getElem? (i := 143) rfl) rfl
theorem wi_y_Gr_personsFor : Cond.instanceMethod y_Gr_personsFor ∈ lw_ok := lw_up_5 (List.mem_of_getElem? (i := 142) rfl) rfl
theorem ws_y_Gr_personsFor : Cond.selects y_Gr_personsFor.cls y_Gr_personsFor y_Gr_personsFor ∈ lw_ok := lw_up_0 (List.mem_of_getElem? (i := 48) rfl) rfl
theorem wl_Gr_108 : Cond.methodLink "LastSeen$Graves" 108 y_Gr_personsFor ∈ lw_ok := lw_up_5 (List.mem_of_getElem? (i := 140) rfl) rfl
theorem wc_y_Gr_readHeirs : Cond.code y_Gr_readHeirs prog_3_method_23_code 4 (none) ∈ lw_ok := lw_up_5 (List.mem_of_getElem? (i := 139) rfl) rfl
theorem wi_y_Gr_readHeirs : Cond.instanceMethod y_Gr_readHeirs ∈ lw_ok := lw_up_5 (List.mem_of_getElem? (i := 138) rfl) rfl
theorem ws_y_Gr_readHeirs : Cond.selects y_Gr_readHeirs.cls y_Gr_readHeirs y_Gr_readHeirs ∈ lw_ok := lw_up_0 (List.mem_of_getElem? (i := 47) rfl) rfl
theorem wl_Gr_100 : Cond.methodLink "LastSeen$Graves" 100 y_Gr_readHeirs ∈ lw_ok := lw_up_5 (List.mem_of_getElem? (i := 136) rfl) rfl
theorem wl_Gr_103 : Cond.methodLink "LastSeen$Graves" 103 y_Jl_bitCount ∈ lw_ok := lw_up_5 (List.mem_of_getElem? (i := 144) rfl) rfl
theorem wc_y_Gr_shortage : Cond.code y_Gr_shortage prog_3_method_22_code 7 (some .int) ∈ lw_ok := lw_up_5 (List.mem_of_getElem? (i := 135) rfl) rfl
theorem wi_y_Gr_shortage : Cond.instanceMethod y_Gr_shortage ∈ lw_ok := lw_up_5 (List.mem_of_getElem? (i := 133) rfl) rfl
theorem ws_y_Gr_shortage : Cond.selects y_Gr_shortage.cls y_Gr_shortage y_Gr_shortage ∈ lw_ok := lw_up_5 (List.mem_of_getElem? (i := 134) rfl) rfl
theorem wl_Gr_111 : Cond.methodLink "LastSeen$Graves" 111 y_Gr_shortage ∈ lw_ok := lw_up_5 (List.mem_of_getElem? (i := 132) rfl) rfl
theorem wc_y_Gr_soleChoice : Cond.code y_Gr_soleChoice prog_3_method_25_code 5 (some .int) ∈ lw_ok := lw_up_5 (List.mem_of_getElem? (i := 131) rfl) rfl
theorem wi_y_Gr_soleChoice : Cond.instanceMethod y_Gr_soleChoice ∈ lw_ok := lw_up_5 (List.mem_of_getElem? (i := 129) rfl) rfl
theorem ws_y_Gr_soleChoice : Cond.selects y_Gr_soleChoice.cls y_Gr_soleChoice y_Gr_soleChoice ∈ lw_ok := lw_up_5 (List.mem_of_getElem? (i := 130) rfl) rfl
theorem wl_LS_342 : Cond.methodLink "LastSeen" 342 y_Gr_soleChoice ∈ lw_ok := lw_up_5 (List.mem_of_getElem? (i := 128) rfl) rfl
theorem wc_y_Gr_lostName : Cond.code y_Gr_lostName prog_3_method_10_code 2 (some .int) ∈ lw_ok := lw_up_5 (List.mem_of_getElem? (i := 148) rfl) rfl
theorem wi_y_Gr_lostName : Cond.instanceMethod y_Gr_lostName ∈ lw_ok := lw_up_5 (List.mem_of_getElem? (i := 146) rfl) rfl
theorem ws_y_Gr_lostName : Cond.selects y_Gr_lostName.cls y_Gr_lostName y_Gr_lostName ∈ lw_ok := lw_up_5 (List.mem_of_getElem? (i := 147) rfl) rfl
theorem wl_LS_345 : Cond.methodLink "LastSeen" 345 y_Gr_lostName ∈ lw_ok := lw_up_5 (List.mem_of_getElem? (i := 145) rfl) rfl
theorem wl_LS_348 : Cond.methodLink "LastSeen" 348 y_Gr_shortage ∈ lw_ok := lw_up_5 (List.mem_of_getElem? (i := 153) rfl) rfl
theorem wc_y_Gr_givenTo : Cond.code y_Gr_givenTo prog_3_method_27_code 2 (some .int) ∈ lw_ok := lw_up_5 (List.mem_of_getElem? (i := 161) rfl) rfl
theorem wi_y_Gr_givenTo : Cond.instanceMethod y_Gr_givenTo ∈ lw_ok := lw_up_5 (List.mem_of_getElem? (i := 159) rfl) rfl
theorem ws_y_Gr_givenTo : Cond.selects y_Gr_givenTo.cls y_Gr_givenTo y_Gr_givenTo ∈ lw_ok := lw_up_5 (List.mem_of_getElem? (i := 160) rfl) rfl
theorem wl_LS_351 : Cond.methodLink "LastSeen" 351 y_Gr_givenTo ∈ lw_ok := lw_up_5 (List.mem_of_getElem? (i := 158) rfl) rfl
theorem wc_y_Gr_setsBeside : Cond.code y_Gr_setsBeside prog_3_method_26_code 4 (some .int) ∈ lw_ok := lw_up_5 (List.mem_of_getElem? (i := 165) rfl) rfl
theorem wi_y_Gr_setsBeside : Cond.instanceMethod y_Gr_setsBeside ∈ lw_ok := lw_up_5 (List.mem_of_getElem? (i := 163) rfl) rfl
theorem ws_y_Gr_setsBeside : Cond.selects y_Gr_setsBeside.cls y_Gr_setsBeside y_Gr_setsBeside ∈ lw_ok := lw_up_5 (List.mem_of_getElem? (i := 164) rfl) rfl
theorem wl_LS_354 : Cond.methodLink "LastSeen" 354 y_Gr_setsBeside ∈ lw_ok := lw_up_5 (List.mem_of_getElem? (i := 162) rfl) rfl
theorem wc_y_Gr_entitle : Cond.code y_Gr_entitle prog_3_method_28_code 3 (none) ∈ lw_ok := lw_up_5 (List.mem_of_getElem? (i := 169) rfl) rfl
theorem wi_y_Gr_entitle : Cond.instanceMethod y_Gr_entitle ∈ lw_ok := lw_up_5 (List.mem_of_getElem? (i := 167) rfl) rfl
theorem ws_y_Gr_entitle : Cond.selects y_Gr_entitle.cls y_Gr_entitle y_Gr_entitle ∈ lw_ok := lw_up_5 (List.mem_of_getElem? (i := 168) rfl) rfl
theorem wl_LS_357 : Cond.methodLink "LastSeen" 357 y_Gr_entitle ∈ lw_ok := lw_up_5 (List.mem_of_getElem? (i := 166) rfl) rfl
theorem wc_y_Gr_strip : Cond.code y_Gr_strip prog_3_method_29_code 6 (some .int) ∈ lw_ok := lw_up_5 (List.mem_of_getElem? (i := 177) rfl) rfl
theorem wi_y_Gr_strip : Cond.instanceMethod y_Gr_strip ∈ lw_ok := lw_up_5 (List.mem_of_getElem? (i := 175) rfl) rfl
theorem ws_y_Gr_strip : Cond.selects y_Gr_strip.cls y_Gr_strip y_Gr_strip ∈ lw_ok := lw_up_5 (List.mem_of_getElem? (i := 176) rfl) rfl
theorem wl_LS_360 : Cond.methodLink "LastSeen" 360 y_Gr_strip ∈ lw_ok := lw_up_5 (List.mem_of_getElem? (i := 174) rfl) rfl
theorem wc_y_LS_personsNow : Cond.code y_LS_personsNow prog_1_method_50_code 3 (some .int) ∈ lw_ok := lw_up_5 (List.mem_of_getElem? (i := 189) rfl) rfl
theorem wi_y_LS_personsNow : Cond.instanceMethod y_LS_personsNow ∈ lw_ok := lw_up_5 (List.mem_of_getElem? (i := 188) rfl) rfl
theorem ws_y_LS_personsNow : Cond.selects y_LS_personsNow.cls y_LS_personsNow y_LS_personsNow ∈ lw_ok := lw_up_0 (List.mem_of_getElem? (i := 49) rfl) rfl
theorem wl_LS_363 : Cond.methodLink "LastSeen" 363 y_LS_personsNow ∈ lw_ok := lw_up_5 (List.mem_of_getElem? (i := 186) rfl) rfl
theorem wc_y_LS_standingNow : Cond.code y_LS_standingNow prog_1_method_51_code 1 (some .int) ∈ lw_ok := lw_up_5 (List.mem_of_getElem? (i := 193) rfl) rfl
theorem wi_y_LS_standingNow : Cond.instanceMethod y_LS_standingNow ∈ lw_ok := lw_up_5 (List.mem_of_getElem? (i := 192) rfl) rfl
theorem ws_y_LS_standingNow : Cond.selects y_LS_standingNow.cls y_LS_standingNow y_LS_standingNow ∈ lw_ok := lw_up_0 (List.mem_of_getElem? (i := 50) rfl) rfl
theorem wl_LS_366 : Cond.methodLink "LastSeen" 366 y_LS_standingNow ∈ lw_ok := lw_up_5 (List.mem_of_getElem? (i := 190) rfl) rfl
theorem wc_y_Gr_givenSets : Cond.code y_Gr_givenSets prog_3_method_30_code 3 (some .int) ∈ lw_ok := lw_up_5 (List.mem_of_getElem? (i := 197) rfl) rfl
theorem wi_y_Gr_givenSets : Cond.instanceMethod y_Gr_givenSets ∈ lw_ok := lw_up_5 (List.mem_of_getElem? (i := 195) rfl) rfl
theorem ws_y_Gr_givenSets : Cond.selects y_Gr_givenSets.cls y_Gr_givenSets y_Gr_givenSets ∈ lw_ok := lw_up_5 (List.mem_of_getElem? (i := 196) rfl) rfl
theorem wl_LS_369 : Cond.methodLink "LastSeen" 369 y_Gr_givenSets ∈ lw_ok := lw_up_5 (List.mem_of_getElem? (i := 194) rfl) rfl
theorem wl_LS_372 : Cond.methodLink "LastSeen" 372 y_Ta_size ∈ lw_ok := lw_up_5 (List.mem_of_getElem? (i := 198) rfl) rfl
theorem wc_y_Md_isPlace : Cond.code y_Md_isPlace prog_12_method_3_code 1 (some .boolean) ∈ lw_ok := lw_up_6 (List.mem_of_getElem? (i := 199) rfl) rfl
theorem wt_y_Md_isPlace : Cond.static y_Md_isPlace ∈ lw_ok := lw_up_6 (List.mem_of_getElem? (i := 198) rfl) rfl
theorem wn_Md : Cond.initialized "LastSeenModel" ∈ lw_ok := lw_up_1 (List.mem_of_getElem? (i := 11) rfl) rfl
theorem wl_Md_185 : Cond.methodLink "LastSeenModel" 185 y_Md_isPlace ∈ lw_ok := lw_up_6 (List.mem_of_getElem? (i := 197) rfl) rfl
theorem wk_Md_189 : Cond.constantLong "LastSeenModel" 189 (30) ∈ lw_ok := lw_up_6 (List.mem_of_getElem? (i := 200) rfl) rfl
theorem wc_y_Md_isIn : Cond.code y_Md_isIn prog_12_method_2_code 6 (some .boolean) ∈ lw_ok := lw_up_6 (List.mem_of_getElem? (i := 203) rfl) rfl
theorem wt_y_Md_isIn : Cond.static y_Md_isIn ∈ lw_ok := lw_up_6 (List.mem_of_getElem? (i := 202) rfl) rfl
theorem wl_Md_191 : Cond.methodLink "LastSeenModel" 191 y_Md_isIn ∈ lw_ok := lw_up_6 (List.mem_of_getElem? (i := 201) rfl) rfl
theorem wk_Md_178 : Cond.constant "LastSeenModel" 178 (100000) ∈ lw_ok := lw_up_5 (List.mem_of_getElem? (i := 206) rfl) rfl
theorem wk_Md_201 : Cond.constantLong "LastSeenModel" 201 (-1) ∈ lw_ok := lw_up_7 (List.mem_of_getElem? (i := 7) rfl) rfl
theorem wk_Md_203 : Cond.constantLong "LastSeenModel" 203 (8) ∈ lw_ok := lw_up_6 (List.mem_of_getElem? (i := 212) rfl) rfl
theorem wk_Md_208 : Cond.constantLong "LastSeenModel" 208 (255) ∈ lw_ok := lw_up_6 (List.mem_of_getElem? (i := 213) rfl) rfl
theorem wc_y_Md_isVowel : Cond.code y_Md_isVowel prog_12_method_14_code 1 (some .boolean) ∈ lw_ok := lw_up_6 (List.mem_of_getElem? (i := 234) rfl) rfl
theorem wt_y_Md_isVowel : Cond.static y_Md_isVowel ∈ lw_ok := lw_up_6 (List.mem_of_getElem? (i := 233) rfl) rfl
theorem wl_Md_213 : Cond.methodLink "LastSeenModel" 213 y_Md_isVowel ∈ lw_ok := lw_up_6 (List.mem_of_getElem? (i := 232) rfl) rfl
theorem wc_y_Md_plain : Cond.code y_Md_plain prog_12_method_13_code 1 (some .int) ∈ lw_ok := lw_up_6 (List.mem_of_getElem? (i := 227) rfl) rfl
theorem wt_y_Md_plain : Cond.static y_Md_plain ∈ lw_ok := lw_up_6 (List.mem_of_getElem? (i := 226) rfl) rfl
theorem wl_Md_216 : Cond.methodLink "LastSeenModel" 216 y_Md_plain ∈ lw_ok := lw_up_6 (List.mem_of_getElem? (i := 225) rfl) rfl
theorem wc_y_Md_drops : Cond.code y_Md_drops prog_12_method_15_code 7 (none) ∈ lw_ok := lw_up_6 (List.mem_of_getElem? (i := 231) rfl) rfl
theorem wi_y_Md_drops : Cond.instanceMethod y_Md_drops ∈ lw_ok := lw_up_6 (List.mem_of_getElem? (i := 230) rfl) rfl
theorem ws_y_Md_drops : Cond.selects y_Md_drops.cls y_Md_drops y_Md_drops ∈ lw_ok := lw_up_0 (List.mem_of_getElem? (i := 52) rfl) rfl
theorem wl_Md_220 : Cond.methodLink "LastSeenModel" 220 y_Md_drops ∈ lw_ok := lw_up_6 (List.mem_of_getElem? (i := 228) rfl) rfl
theorem wk_Md_224 : Cond.constantLong "LastSeenModel" 224 (12) ∈ lw_ok := lw_up_6 (List.mem_of_getElem? (i := 218) rfl) rfl
theorem wc_y_Md_findKey : Cond.code y_Md_findKey prog_12_method_16_code 3 (none) ∈ lw_ok := lw_up_6 (List.mem_of_getElem? (i := 224) rfl) rfl
theorem wi_y_Md_findKey : Cond.instanceMethod y_Md_findKey ∈ lw_ok := lw_up_6 (List.mem_of_getElem? (i := 223) rfl) rfl
theorem ws_y_Md_findKey : Cond.selects y_Md_findKey.cls y_Md_findKey y_Md_findKey ∈ lw_ok := lw_up_0 (List.mem_of_getElem? (i := 51) rfl) rfl
theorem wl_Md_230 : Cond.methodLink "LastSeenModel" 230 y_Md_findKey ∈ lw_ok := lw_up_6 (List.mem_of_getElem? (i := 221) rfl) rfl
theorem wc_y_Md_enters : Cond.code y_Md_enters prog_12_method_9_code 4 (none) ∈ lw_ok := lw_up_6 (List.mem_of_getElem? (i := 238) rfl) rfl
theorem wi_y_Md_enters : Cond.instanceMethod y_Md_enters ∈ lw_ok := lw_up_6 (List.mem_of_getElem? (i := 237) rfl) rfl
theorem ws_y_Md_enters : Cond.selects y_Md_enters.cls y_Md_enters y_Md_enters ∈ lw_ok := lw_up_0 (List.mem_of_getElem? (i := 53) rfl) rfl
theorem wl_Md_233 : Cond.methodLink "LastSeenModel" 233 y_Md_enters ∈ lw_ok := lw_up_6 (List.mem_of_getElem? (i := 235) rfl) rfl
theorem wk_Md_226 : Cond.constantLong "LastSeenModel" 226 (97) ∈ lw_ok := lw_up_6 (List.mem_of_getElem? (i := 219) rfl) rfl
theorem wk_Md_228 : Cond.constantLong "LastSeenModel" 228 (122) ∈ lw_ok := lw_up_6 (List.mem_of_getElem? (i := 220) rfl) rfl
theorem wc_y_Md_isName : Cond.code y_Md_isName prog_12_method_4_code 2 (some .boolean) ∈ lw_ok := lw_up_7 (List.mem_of_getElem? (i := 6) rfl) rfl
theorem wi_y_Md_isName : Cond.instanceMethod y_Md_isName ∈ lw_ok := lw_up_7 (List.mem_of_getElem? (i := 5) rfl) rfl
theorem ws_y_Md_isName : Cond.selects y_Md_isName.cls y_Md_isName y_Md_isName ∈ lw_ok := lw_up_0 (List.mem_of_getElem? (i := 54) rfl) rfl
theorem wl_Md_237 : Cond.methodLink "LastSeenModel" 237 y_Md_isName ∈ lw_ok := lw_up_7 (List.mem_of_getElem? (i := 3) rfl) rfl
theorem wc_y_Md_relates : Cond.code y_Md_relates prog_12_method_20_code 4 (some .int) ∈ lw_ok := lw_up_7 (List.mem_of_getElem? (i := 15) rfl) rfl
theorem wi_y_Md_relates : Cond.instanceMethod y_Md_relates ∈ lw_ok := lw_up_7 (List.mem_of_getElem? (i := 14) rfl) rfl
theorem ws_y_Md_relates : Cond.selects y_Md_relates.cls y_Md_relates y_Md_relates ∈ lw_ok := lw_up_0 (List.mem_of_getElem? (i := 55) rfl) rfl
theorem wl_Md_240 : Cond.methodLink "LastSeenModel" 240 y_Md_relates ∈ lw_ok := lw_up_7 (List.mem_of_getElem? (i := 12) rfl) rfl
theorem wc_y_Md_haveOneKey : Cond.code y_Md_haveOneKey prog_12_method_19_code 5 (some .boolean) ∈ lw_ok := lw_up_7 (List.mem_of_getElem? (i := 39) rfl) rfl
theorem wi_y_Md_haveOneKey : Cond.instanceMethod y_Md_haveOneKey ∈ lw_ok := lw_up_7 (List.mem_of_getElem? (i := 38) rfl) rfl
theorem ws_y_Md_haveOneKey : Cond.selects y_Md_haveOneKey.cls y_Md_haveOneKey y_Md_haveOneKey ∈ lw_ok := lw_up_0 (List.mem_of_getElem? (i := 59) rfl) rfl
theorem wl_Md_253 : Cond.methodLink "LastSeenModel" 253 y_Md_haveOneKey ∈ lw_ok := lw_up_7 (List.mem_of_getElem? (i := 36) rfl) rfl
theorem wc_y_Md_findPersons : Cond.code y_Md_findPersons prog_12_method_24_code 4 (none) ∈ lw_ok := lw_up_7 (List.mem_of_getElem? (i := 43) rfl) rfl
theorem wi_y_Md_findPersons : Cond.instanceMethod y_Md_findPersons ∈ lw_ok := lw_up_7 (List.mem_of_getElem? (i := 42) rfl) rfl
theorem ws_y_Md_findPersons : Cond.selects y_Md_findPersons.cls y_Md_findPersons y_Md_findPersons ∈ lw_ok := lw_up_0 (List.mem_of_getElem? (i := 60) rfl) rfl
theorem wl_Md_257 : Cond.methodLink "LastSeenModel" 257 y_Md_findPersons ∈ lw_ok := lw_up_7 (List.mem_of_getElem? (i := 40) rfl) rfl
theorem wc_y_Md_isTold : Cond.code y_Md_isTold prog_12_method_10_code 2 (some .boolean) ∈ lw_ok := lw_up_7 (List.mem_of_getElem? (i := 27) rfl) rfl
theorem wi_y_Md_isTold : Cond.instanceMethod y_Md_isTold ∈ lw_ok := lw_up_7 (List.mem_of_getElem? (i := 26) rfl) rfl
theorem ws_y_Md_isTold : Cond.selects y_Md_isTold.cls y_Md_isTold y_Md_isTold ∈ lw_ok := lw_up_0 (List.mem_of_getElem? (i := 56) rfl) rfl
theorem wl_Md_260 : Cond.methodLink "LastSeenModel" 260 y_Md_isTold ∈ lw_ok := lw_up_7 (List.mem_of_getElem? (i := 24) rfl) rfl
theorem wc_y_Md_by : Cond.code y_Md_by prog_12_method_11_code 2 (some .int) ∈ lw_ok := lw_up_7 (List.mem_of_getElem? (i := 31) rfl) rfl
theorem wi_y_Md_by : Cond.instanceMethod y_Md_by ∈ lw_ok := lw_up_7 (List.mem_of_getElem? (i := 30) rfl) rfl
theorem ws_y_Md_by : Cond.selects y_Md_by.cls y_Md_by y_Md_by ∈ lw_ok := lw_up_0 (List.mem_of_getElem? (i := 57) rfl) rfl
theorem wl_Md_263 : Cond.methodLink "LastSeenModel" 263 y_Md_by ∈ lw_ok := lw_up_7 (List.mem_of_getElem? (i := 28) rfl) rfl
theorem wc_y_Md_looks : Cond.code y_Md_looks prog_12_method_23_code 6 (none) ∈ lw_ok := lw_up_7 (List.mem_of_getElem? (i := 35) rfl) rfl
theorem wi_y_Md_looks : Cond.instanceMethod y_Md_looks ∈ lw_ok := lw_up_7 (List.mem_of_getElem? (i := 34) rfl) rfl
theorem ws_y_Md_looks : Cond.selects y_Md_looks.cls y_Md_looks y_Md_looks ∈ lw_ok := lw_up_0 (List.mem_of_getElem? (i := 58) rfl) rfl
theorem wl_Md_266 : Cond.methodLink "LastSeenModel" 266 y_Md_looks ∈ lw_ok := lw_up_7 (List.mem_of_getElem? (i := 32) rfl) rfl
theorem wc_y_Md_isThere : Cond.code y_Md_isThere prog_12_method_26_code 3 (some .boolean) ∈ lw_ok := lw_up_7 (List.mem_of_getElem? (i := 51) rfl) rfl
theorem wi_y_Md_isThere : Cond.instanceMethod y_Md_isThere ∈ lw_ok := lw_up_7 (List.mem_of_getElem? (i := 50) rfl) rfl
theorem ws_y_Md_isThere : Cond.selects y_Md_isThere.cls y_Md_isThere y_Md_isThere ∈ lw_ok := lw_up_0 (List.mem_of_getElem? (i := 61) rfl) rfl
theorem wl_Md_269 : Cond.methodLink "LastSeenModel" 269 y_Md_isThere ∈ lw_ok := lw_up_7 (List.mem_of_getElem? (i := 48) rfl) rfl
theorem wk_Md_272 : Cond.constantLong "LastSeenModel" 272 (29) ∈ lw_ok := lw_up_7 (List.mem_of_getElem? (i := 60) rfl) rfl
theorem wc_y_Md_isWord : Cond.code y_Md_isWord prog_12_method_5_code 2 (some .boolean) ∈ lw_ok := lw_up_7 (List.mem_of_getElem? (i := 64) rfl) rfl
theorem wi_y_Md_isWord : Cond.instanceMethod y_Md_isWord ∈ lw_ok := lw_up_7 (List.mem_of_getElem? (i := 63) rfl) rfl
theorem ws_y_Md_isWord : Cond.selects y_Md_isWord.cls y_Md_isWord y_Md_isWord ∈ lw_ok := lw_up_0 (List.mem_of_getElem? (i := 62) rfl) rfl
theorem wl_Md_274 : Cond.methodLink "LastSeenModel" 274 y_Md_isWord ∈ lw_ok := lw_up_7 (List.mem_of_getElem? (i := 61) rfl) rfl
theorem wk_Md_277 : Cond.constantLong "LastSeenModel" 277 (1023) ∈ lw_ok := lw_up_7 (List.mem_of_getElem? (i := 65) rfl) rfl
theorem wk_Md_279 : Cond.constantLong "LastSeenModel" 279 (999) ∈ lw_ok := lw_up_7 (List.mem_of_getElem? (i := 66) rfl) rfl
theorem wc_y_Md_standing : Cond.code y_Md_standing prog_12_method_30_code 3 (some .int) ∈ lw_ok := lw_up_7 (List.mem_of_getElem? (i := 74) rfl) rfl
theorem wi_y_Md_standing : Cond.instanceMethod y_Md_standing ∈ lw_ok := lw_up_7 (List.mem_of_getElem? (i := 73) rfl) rfl
theorem ws_y_Md_standing : Cond.selects y_Md_standing.cls y_Md_standing y_Md_standing ∈ lw_ok := lw_up_0 (List.mem_of_getElem? (i := 63) rfl) rfl
theorem wl_Md_281 : Cond.methodLink "LastSeenModel" 281 y_Md_standing ∈ lw_ok := lw_up_7 (List.mem_of_getElem? (i := 71) rfl) rfl
theorem wk_Md_285 : Cond.constantLong "LastSeenModel" 285 (2) ∈ lw_ok := lw_up_7 (List.mem_of_getElem? (i := 79) rfl) rfl
theorem wc_y_Md_findRoots : Cond.code y_Md_findRoots prog_12_method_33_code 5 (none) ∈ lw_ok := lw_up_7 (List.mem_of_getElem? (i := 87) rfl) rfl
theorem wi_y_Md_findRoots : Cond.instanceMethod y_Md_findRoots ∈ lw_ok := lw_up_7 (List.mem_of_getElem? (i := 86) rfl) rfl
theorem ws_y_Md_findRoots : Cond.selects y_Md_findRoots.cls y_Md_findRoots y_Md_findRoots ∈ lw_ok := lw_up_0 (List.mem_of_getElem? (i := 64) rfl) rfl
theorem wl_Md_290 : Cond.methodLink "LastSeenModel" 290 y_Md_findRoots ∈ lw_ok := lw_up_7 (List.mem_of_getElem? (i := 84) rfl) rfl
theorem wc_y_Md_bits : Cond.code y_Md_bits prog_12_method_6_code 3 (some .int) ∈ lw_ok := lw_up_7 (List.mem_of_getElem? (i := 98) rfl) rfl
theorem wt_y_Md_bits : Cond.static y_Md_bits ∈ lw_ok := lw_up_7 (List.mem_of_getElem? (i := 97) rfl) rfl
theorem wl_Md_293 : Cond.methodLink "LastSeenModel" 293 y_Md_bits ∈ lw_ok := lw_up_7 (List.mem_of_getElem? (i := 96) rfl) rfl
theorem wc_y_Md_eyesOf : Cond.code y_Md_eyesOf prog_12_method_35_code 3 (some .int) ∈ lw_ok := lw_up_7 (List.mem_of_getElem? (i := 95) rfl) rfl
theorem wi_y_Md_eyesOf : Cond.instanceMethod y_Md_eyesOf ∈ lw_ok := lw_up_7 (List.mem_of_getElem? (i := 94) rfl) rfl
theorem ws_y_Md_eyesOf : Cond.selects y_Md_eyesOf.cls y_Md_eyesOf y_Md_eyesOf ∈ lw_ok := lw_up_0 (List.mem_of_getElem? (i := 65) rfl) rfl
theorem wl_Md_296 : Cond.methodLink "LastSeenModel" 296 y_Md_eyesOf ∈ lw_ok := lw_up_7 (List.mem_of_getElem? (i := 92) rfl) rfl
theorem wc_y_Md_comesAt : Cond.code y_Md_comesAt prog_12_method_39_code 9 (some .int) ∈ lw_ok := lw_up_7 (List.mem_of_getElem? (i := 118) rfl) rfl
theorem wi_y_Md_comesAt : Cond.instanceMethod y_Md_comesAt ∈ lw_ok := lw_up_7 (List.mem_of_getElem? (i := 117) rfl) rfl
theorem ws_y_Md_comesAt : Cond.selects y_Md_comesAt.cls y_Md_comesAt y_Md_comesAt ∈ lw_ok := lw_up_0 (List.mem_of_getElem? (i := 69) rfl) rfl
theorem wl_Md_302 : Cond.methodLink "LastSeenModel" 302 y_Md_comesAt ∈ lw_ok := lw_up_7 (List.mem_of_getElem? (i := 115) rfl) rfl
theorem wc_y_Md_takesRoots : Cond.code y_Md_takesRoots prog_12_method_37_code 2 (none) ∈ lw_ok := lw_up_7 (List.mem_of_getElem? (i := 110) rfl) rfl
theorem wi_y_Md_takesRoots : Cond.instanceMethod y_Md_takesRoots ∈ lw_ok := lw_up_7 (List.mem_of_getElem? (i := 109) rfl) rfl
theorem ws_y_Md_takesRoots : Cond.selects y_Md_takesRoots.cls y_Md_takesRoots y_Md_takesRoots ∈ lw_ok := lw_up_0 (List.mem_of_getElem? (i := 67) rfl) rfl
theorem wl_Md_305 : Cond.methodLink "LastSeenModel" 305 y_Md_takesRoots ∈ lw_ok := lw_up_7 (List.mem_of_getElem? (i := 107) rfl) rfl
theorem wc_y_Md_fillEarliest : Cond.code y_Md_fillEarliest prog_12_method_38_code 4 (none) ∈ lw_ok := lw_up_7 (List.mem_of_getElem? (i := 114) rfl) rfl
theorem wi_y_Md_fillEarliest : Cond.instanceMethod y_Md_fillEarliest ∈ lw_ok := lw_up_7 (List.mem_of_getElem? (i := 113) rfl) rfl
theorem ws_y_Md_fillEarliest : Cond.selects y_Md_fillEarliest.cls y_Md_fillEarliest y_Md_fillEarliest ∈ lw_ok := lw_up_0 (List.mem_of_getElem? (i := 68) rfl) rfl
theorem wl_Md_308 : Cond.methodLink "LastSeenModel" 308 y_Md_fillEarliest ∈ lw_ok := lw_up_7 (List.mem_of_getElem? (i := 111) rfl) rfl
theorem wc_y_Md_canBe : Cond.code y_Md_canBe prog_12_method_40_code 4 (some .boolean) ∈ lw_ok := lw_up_7 (List.mem_of_getElem? (i := 122) rfl) rfl
theorem wi_y_Md_canBe : Cond.instanceMethod y_Md_canBe ∈ lw_ok := lw_up_7 (List.mem_of_getElem? (i := 121) rfl) rfl
theorem ws_y_Md_canBe : Cond.selects y_Md_canBe.cls y_Md_canBe y_Md_canBe ∈ lw_ok := lw_up_0 (List.mem_of_getElem? (i := 70) rfl) rfl
theorem wl_Md_311 : Cond.methodLink "LastSeenModel" 311 y_Md_canBe ∈ lw_ok := lw_up_7 (List.mem_of_getElem? (i := 119) rfl) rfl
theorem wc_y_Md_canAll : Cond.code y_Md_canAll prog_12_method_41_code 1 (some .boolean) ∈ lw_ok := lw_up_7 (List.mem_of_getElem? (i := 106) rfl) rfl
theorem wi_y_Md_canAll : Cond.instanceMethod y_Md_canAll ∈ lw_ok := lw_up_7 (List.mem_of_getElem? (i := 105) rfl) rfl
theorem ws_y_Md_canAll : Cond.selects y_Md_canAll.cls y_Md_canAll y_Md_canAll ∈ lw_ok := lw_up_0 (List.mem_of_getElem? (i := 66) rfl) rfl
theorem wl_Md_314 : Cond.methodLink "LastSeenModel" 314 y_Md_canAll ∈ lw_ok := lw_up_7 (List.mem_of_getElem? (i := 103) rfl) rfl
theorem wc_y_Md_lastRoot : Cond.code y_Md_lastRoot prog_12_method_45_code 3 (some .int) ∈ lw_ok := lw_up_7 (List.mem_of_getElem? (i := 138) rfl) rfl
theorem wi_y_Md_lastRoot : Cond.instanceMethod y_Md_lastRoot ∈ lw_ok := lw_up_7 (List.mem_of_getElem? (i := 137) rfl) rfl
theorem ws_y_Md_lastRoot : Cond.selects y_Md_lastRoot.cls y_Md_lastRoot y_Md_lastRoot ∈ lw_ok := lw_up_0 (List.mem_of_getElem? (i := 71) rfl) rfl
theorem wl_Md_318 : Cond.methodLink "LastSeenModel" 318 y_Md_lastRoot ∈ lw_ok := lw_up_7 (List.mem_of_getElem? (i := 135) rfl) rfl
theorem wc_y_Md_writes : Cond.code y_Md_writes prog_12_method_50_code 2 (none) ∈ lw_ok := lw_up_7 (List.mem_of_getElem? (i := 169) rfl) rfl
theorem wi_y_Md_writes : Cond.instanceMethod y_Md_writes ∈ lw_ok := lw_up_7 (List.mem_of_getElem? (i := 168) rfl) rfl
theorem ws_y_Md_writes : Cond.selects y_Md_writes.cls y_Md_writes y_Md_writes ∈ lw_ok := lw_up_0 (List.mem_of_getElem? (i := 77) rfl) rfl
theorem wl_Md_333 : Cond.methodLink "LastSeenModel" 333 y_Md_writes ∈ lw_ok := lw_up_7 (List.mem_of_getElem? (i := 166) rfl) rfl
theorem wc_y_Md_sign : Cond.code y_Md_sign prog_12_method_47_code 1 (some .int) ∈ lw_ok := lw_up_7 (List.mem_of_getElem? (i := 154) rfl) rfl
theorem wi_y_Md_sign : Cond.instanceMethod y_Md_sign ∈ lw_ok := lw_up_7 (List.mem_of_getElem? (i := 153) rfl) rfl
theorem ws_y_Md_sign : Cond.selects y_Md_sign.cls y_Md_sign y_Md_sign ∈ lw_ok := lw_up_0 (List.mem_of_getElem? (i := 74) rfl) rfl
theorem wl_Md_336 : Cond.methodLink "LastSeenModel" 336 y_Md_sign ∈ lw_ok := lw_up_7 (List.mem_of_getElem? (i := 151) rfl) rfl
theorem wc_y_Md_isField : Cond.code y_Md_isField prog_12_method_49_code 1 (some .boolean) ∈ lw_ok := lw_up_7 (List.mem_of_getElem? (i := 165) rfl) rfl
theorem wt_y_Md_isField : Cond.static y_Md_isField ∈ lw_ok := lw_up_7 (List.mem_of_getElem? (i := 164) rfl) rfl
theorem wl_Md_342 : Cond.methodLink "LastSeenModel" 342 y_Md_isField ∈ lw_ok := lw_up_7 (List.mem_of_getElem? (i := 163) rfl) rfl
theorem wc_y_Md_isDigit : Cond.code y_Md_isDigit prog_12_method_48_code 1 (some .boolean) ∈ lw_ok := lw_up_7 (List.mem_of_getElem? (i := 172) rfl) rfl
theorem wt_y_Md_isDigit : Cond.static y_Md_isDigit ∈ lw_ok := lw_up_7 (List.mem_of_getElem? (i := 171) rfl) rfl
theorem wl_Md_345 : Cond.methodLink "LastSeenModel" 345 y_Md_isDigit ∈ lw_ok := lw_up_7 (List.mem_of_getElem? (i := 170) rfl) rfl
theorem wc_y_Md_unstacks : Cond.code y_Md_unstacks prog_12_method_51_code 2 (none) ∈ lw_ok := lw_up_7 (List.mem_of_getElem? (i := 176) rfl) rfl
theorem wi_y_Md_unstacks : Cond.instanceMethod y_Md_unstacks ∈ lw_ok := lw_up_7 (List.mem_of_getElem? (i := 175) rfl) rfl
theorem ws_y_Md_unstacks : Cond.selects y_Md_unstacks.cls y_Md_unstacks y_Md_unstacks ∈ lw_ok := lw_up_0 (List.mem_of_getElem? (i := 78) rfl) rfl
theorem wl_Md_348 : Cond.methodLink "LastSeenModel" 348 y_Md_unstacks ∈ lw_ok := lw_up_7 (List.mem_of_getElem? (i := 173) rfl) rfl
theorem wc_y_Md_operand : Cond.code y_Md_operand prog_12_method_52_code 3 (some .boolean) ∈ lw_ok := lw_up_7 (List.mem_of_getElem? (i := 162) rfl) rfl
theorem wi_y_Md_operand : Cond.instanceMethod y_Md_operand ∈ lw_ok := lw_up_7 (List.mem_of_getElem? (i := 161) rfl) rfl
theorem ws_y_Md_operand : Cond.selects y_Md_operand.cls y_Md_operand y_Md_operand ∈ lw_ok := lw_up_0 (List.mem_of_getElem? (i := 76) rfl) rfl
theorem wl_Md_351 : Cond.methodLink "LastSeenModel" 351 y_Md_operand ∈ lw_ok := lw_up_7 (List.mem_of_getElem? (i := 159) rfl) rfl
theorem wc_y_Md_isElse : Cond.code y_Md_isElse prog_12_method_55_code 2 (some .boolean) ∈ lw_ok := lw_up_7 (List.mem_of_getElem? (i := 150) rfl) rfl
theorem wi_y_Md_isElse : Cond.instanceMethod y_Md_isElse ∈ lw_ok := lw_up_7 (List.mem_of_getElem? (i := 149) rfl) rfl
theorem ws_y_Md_isElse : Cond.selects y_Md_isElse.cls y_Md_isElse y_Md_isElse ∈ lw_ok := lw_up_0 (List.mem_of_getElem? (i := 73) rfl) rfl
theorem wl_Md_354 : Cond.methodLink "LastSeenModel" 354 y_Md_isElse ∈ lw_ok := lw_up_7 (List.mem_of_getElem? (i := 147) rfl) rfl
theorem wc_y_Md_takes : Cond.code y_Md_takes prog_12_method_54_code 2 (some .boolean) ∈ lw_ok := lw_up_7 (List.mem_of_getElem? (i := 180) rfl) rfl
theorem wi_y_Md_takes : Cond.instanceMethod y_Md_takes ∈ lw_ok := lw_up_7 (List.mem_of_getElem? (i := 179) rfl) rfl
theorem ws_y_Md_takes : Cond.selects y_Md_takes.cls y_Md_takes y_Md_takes ∈ lw_ok := lw_up_0 (List.mem_of_getElem? (i := 79) rfl) rfl
theorem wl_Md_360 : Cond.methodLink "LastSeenModel" 360 y_Md_takes ∈ lw_ok := lw_up_7 (List.mem_of_getElem? (i := 177) rfl) rfl
theorem wc_y_Md_when : Cond.code y_Md_when prog_12_method_53_code 2 (some .boolean) ∈ lw_ok := lw_up_7 (List.mem_of_getElem? (i := 158) rfl) rfl
theorem wi_y_Md_when : Cond.instanceMethod y_Md_when ∈ lw_ok := lw_up_7 (List.mem_of_getElem? (i := 157) rfl) rfl
theorem ws_y_Md_when : Cond.selects y_Md_when.cls y_Md_when y_Md_when ∈ lw_ok := lw_up_0 (List.mem_of_getElem? (i := 75) rfl) rfl
theorem wl_Md_357 : Cond.methodLink "LastSeenModel" 357 y_Md_when ∈ lw_ok := lw_up_7 (List.mem_of_getElem? (i := 155) rfl) rfl
theorem wc_y_Md_parses : Cond.code y_Md_parses prog_12_method_56_code 2 (some .boolean) ∈ lw_ok := lw_up_7 (List.mem_of_getElem? (i := 146) rfl) rfl
theorem wi_y_Md_parses : Cond.instanceMethod y_Md_parses ∈ lw_ok := lw_up_7 (List.mem_of_getElem? (i := 145) rfl) rfl
theorem ws_y_Md_parses : Cond.selects y_Md_parses.cls y_Md_parses y_Md_parses ∈ lw_ok := lw_up_0 (List.mem_of_getElem? (i := 72) rfl) rfl
theorem wl_Md_363 : Cond.methodLink "LastSeenModel" 363 y_Md_parses ∈ lw_ok := lw_up_7 (List.mem_of_getElem? (i := 143) rfl) rfl
theorem wc_y_Md_heardBy : Cond.code y_Md_heardBy prog_12_method_59_code 4 (some .int) ∈ lw_ok := lw_up_7 (List.mem_of_getElem? (i := 196) rfl) rfl
theorem wi_y_Md_heardBy : Cond.instanceMethod y_Md_heardBy ∈ lw_ok := lw_up_7 (List.mem_of_getElem? (i := 195) rfl) rfl
theorem ws_y_Md_heardBy : Cond.selects y_Md_heardBy.cls y_Md_heardBy y_Md_heardBy ∈ lw_ok := lw_up_0 (List.mem_of_getElem? (i := 82) rfl) rfl
theorem wl_Md_366 : Cond.methodLink "LastSeenModel" 366 y_Md_heardBy ∈ lw_ok := lw_up_7 (List.mem_of_getElem? (i := 193) rfl) rfl
theorem wc_y_Md_namesOf : Cond.code y_Md_namesOf prog_12_method_58_code 4 (some .int) ∈ lw_ok := lw_up_7 (List.mem_of_getElem? (i := 200) rfl) rfl
theorem wi_y_Md_namesOf : Cond.instanceMethod y_Md_namesOf ∈ lw_ok := lw_up_7 (List.mem_of_getElem? (i := 199) rfl) rfl
theorem ws_y_Md_namesOf : Cond.selects y_Md_namesOf.cls y_Md_namesOf y_Md_namesOf ∈ lw_ok := lw_up_0 (List.mem_of_getElem? (i := 83) rfl) rfl
theorem wl_Md_369 : Cond.methodLink "LastSeenModel" 369 y_Md_namesOf ∈ lw_ok := lw_up_7 (List.mem_of_getElem? (i := 197) rfl) rfl
theorem wc_y_Md_findFacts : Cond.code y_Md_findFacts prog_12_method_60_code 3 (none) ∈ lw_ok := lw_up_7 (List.mem_of_getElem? (i := 192) rfl) rfl
theorem wi_y_Md_findFacts : Cond.instanceMethod y_Md_findFacts ∈ lw_ok := lw_up_7 (List.mem_of_getElem? (i := 191) rfl) rfl
theorem ws_y_Md_findFacts : Cond.selects y_Md_findFacts.cls y_Md_findFacts y_Md_findFacts ∈ lw_ok := lw_up_0 (List.mem_of_getElem? (i := 81) rfl) rfl
theorem wl_Md_372 : Cond.methodLink "LastSeenModel" 372 y_Md_findFacts ∈ lw_ok := lw_up_7 (List.mem_of_getElem? (i := 189) rfl) rfl
theorem wc_y_Md_isSo : Cond.code y_Md_isSo prog_12_method_61_code 9 (some .boolean) ∈ lw_ok := lw_up_7 (List.mem_of_getElem? (i := 204) rfl) rfl
theorem wi_y_Md_isSo : Cond.instanceMethod y_Md_isSo ∈ lw_ok := lw_up_7 (List.mem_of_getElem? (i := 203) rfl) rfl
theorem ws_y_Md_isSo : Cond.selects y_Md_isSo.cls y_Md_isSo y_Md_isSo ∈ lw_ok := lw_up_0 (List.mem_of_getElem? (i := 84) rfl) rfl
theorem wl_Md_375 : Cond.methodLink "LastSeenModel" 375 y_Md_isSo ∈ lw_ok := lw_up_7 (List.mem_of_getElem? (i := 201) rfl) rfl
theorem wc_y_Md_digitOf : Cond.code y_Md_digitOf prog_12_method_62_code 6 (some .int) ∈ lw_ok := lw_up_7 (List.mem_of_getElem? (i := 188) rfl) rfl
theorem wi_y_Md_digitOf : Cond.instanceMethod y_Md_digitOf ∈ lw_ok := lw_up_7 (List.mem_of_getElem? (i := 187) rfl) rfl
theorem ws_y_Md_digitOf : Cond.selects y_Md_digitOf.cls y_Md_digitOf y_Md_digitOf ∈ lw_ok := lw_up_0 (List.mem_of_getElem? (i := 80) rfl) rfl
theorem wl_Md_379 : Cond.methodLink "LastSeenModel" 379 y_Md_digitOf ∈ lw_ok := lw_up_7 (List.mem_of_getElem? (i := 185) rfl) rfl
theorem wc_y_Md_isHeld : Cond.code y_Md_isHeld prog_12_method_65_code 3 (some .boolean) ∈ lw_ok := lw_up_7 (List.mem_of_getElem? (i := 216) rfl) rfl
theorem wi_y_Md_isHeld : Cond.instanceMethod y_Md_isHeld ∈ lw_ok := lw_up_7 (List.mem_of_getElem? (i := 215) rfl) rfl
theorem ws_y_Md_isHeld : Cond.selects y_Md_isHeld.cls y_Md_isHeld y_Md_isHeld ∈ lw_ok := lw_up_0 (List.mem_of_getElem? (i := 85) rfl) rfl
theorem wl_Md_386 : Cond.methodLink "LastSeenModel" 386 y_Md_isHeld ∈ lw_ok := lw_up_7 (List.mem_of_getElem? (i := 213) rfl) rfl
theorem wc_y_Md_leans : Cond.code y_Md_leans prog_12_method_66_code 8 (some .int) ∈ lw_ok := lw_up_7 (List.mem_of_getElem? (i := 220) rfl) rfl
theorem wi_y_Md_leans : Cond.instanceMethod y_Md_leans ∈ lw_ok := lw_up_7 (List.mem_of_getElem? (i := 219) rfl) rfl
theorem ws_y_Md_leans : Cond.selects y_Md_leans.cls y_Md_leans y_Md_leans ∈ lw_ok := lw_up_0 (List.mem_of_getElem? (i := 86) rfl) rfl
theorem wl_Md_389 : Cond.methodLink "LastSeenModel" 389 y_Md_leans ∈ lw_ok := lw_up_7 (List.mem_of_getElem? (i := 217) rfl) rfl
theorem wk_Md_392 : Cond.constantLong "LastSeenModel" 392 (3) ∈ lw_ok := lw_up_7 (List.mem_of_getElem? (i := 225) rfl) rfl
theorem wk_Md_394 : Cond.constantLong "LastSeenModel" 394 (99) ∈ lw_ok := lw_up_7 (List.mem_of_getElem? (i := 226) rfl) rfl
theorem wk_Md_396 : Cond.constantLong "LastSeenModel" 396 (20) ∈ lw_ok := lw_up_7 (List.mem_of_getElem? (i := 231) rfl) rfl
theorem wc_y_Md_couples : Cond.code y_Md_couples prog_12_method_70_code 7 (some .int) ∈ lw_ok := lw_up_7 (List.mem_of_getElem? (i := 239) rfl) rfl
theorem wi_y_Md_couples : Cond.instanceMethod y_Md_couples ∈ lw_ok := lw_up_7 (List.mem_of_getElem? (i := 238) rfl) rfl
theorem ws_y_Md_couples : Cond.selects y_Md_couples.cls y_Md_couples y_Md_couples ∈ lw_ok := lw_up_0 (List.mem_of_getElem? (i := 87) rfl) rfl
theorem wl_Md_398 : Cond.methodLink "LastSeenModel" 398 y_Md_couples ∈ lw_ok := lw_up_7 (List.mem_of_getElem? (i := 236) rfl) rfl
theorem wk_Md_404 : Cond.constantLong "LastSeenModel" 404 (100) ∈ lw_ok := lw_up_8 (List.mem_of_getElem? (i := 4) rfl) rfl
theorem wk_Md_406 : Cond.constantLong "LastSeenModel" 406 (220) ∈ lw_ok := lw_up_8 (List.mem_of_getElem? (i := 5) rfl) rfl
theorem wc_y_Md_areMarks : Cond.code y_Md_areMarks prog_12_method_73_code 2 (some .boolean) ∈ lw_ok := lw_up_8 (List.mem_of_getElem? (i := 8) rfl) rfl
theorem wt_y_Md_areMarks : Cond.static y_Md_areMarks ∈ lw_ok := lw_up_8 (List.mem_of_getElem? (i := 7) rfl) rfl
theorem wl_Md_408 : Cond.methodLink "LastSeenModel" 408 y_Md_areMarks ∈ lw_ok := lw_up_8 (List.mem_of_getElem? (i := 6) rfl) rfl
theorem wc_y_Md_isGiven : Cond.code y_Md_isGiven prog_12_method_76_code 4 (some .boolean) ∈ lw_ok := lw_up_8 (List.mem_of_getElem? (i := 16) rfl) rfl
theorem wi_y_Md_isGiven : Cond.instanceMethod y_Md_isGiven ∈ lw_ok := lw_up_8 (List.mem_of_getElem? (i := 15) rfl) rfl
theorem ws_y_Md_isGiven : Cond.selects y_Md_isGiven.cls y_Md_isGiven y_Md_isGiven ∈ lw_ok := lw_up_0 (List.mem_of_getElem? (i := 88) rfl) rfl
theorem wl_Md_414 : Cond.methodLink "LastSeenModel" 414 y_Md_isGiven ∈ lw_ok := lw_up_8 (List.mem_of_getElem? (i := 13) rfl) rfl
theorem wc_y_Md_missingOf : Cond.code y_Md_missingOf prog_12_method_75_code 3 (some .int) ∈ lw_ok := lw_up_8 (List.mem_of_getElem? (i := 20) rfl) rfl
theorem wi_y_Md_missingOf : Cond.instanceMethod y_Md_missingOf ∈ lw_ok := lw_up_8 (List.mem_of_getElem? (i := 19) rfl) rfl
theorem ws_y_Md_missingOf : Cond.selects y_Md_missingOf.cls y_Md_missingOf y_Md_missingOf ∈ lw_ok := lw_up_0 (List.mem_of_getElem? (i := 89) rfl) rfl
theorem wl_Md_417 : Cond.methodLink "LastSeenModel" 417 y_Md_missingOf ∈ lw_ok := lw_up_8 (List.mem_of_getElem? (i := 17) rfl) rfl
theorem wc_y_Md_isSet : Cond.code y_Md_isSet prog_12_method_72_code 2 (some .boolean) ∈ lw_ok := lw_up_8 (List.mem_of_getElem? (i := 28) rfl) rfl
theorem wi_y_Md_isSet : Cond.instanceMethod y_Md_isSet ∈ lw_ok := lw_up_8 (List.mem_of_getElem? (i := 27) rfl) rfl
theorem ws_y_Md_isSet : Cond.selects y_Md_isSet.cls y_Md_isSet y_Md_isSet ∈ lw_ok := lw_up_0 (List.mem_of_getElem? (i := 90) rfl) rfl
theorem wl_Md_420 : Cond.methodLink "LastSeenModel" 420 y_Md_isSet ∈ lw_ok := lw_up_8 (List.mem_of_getElem? (i := 25) rfl) rfl
theorem wc_y_Md_fits : Cond.code y_Md_fits prog_12_method_78_code 3 (some .boolean) ∈ lw_ok := lw_up_8 (List.mem_of_getElem? (i := 32) rfl) rfl
theorem wi_y_Md_fits : Cond.instanceMethod y_Md_fits ∈ lw_ok := lw_up_8 (List.mem_of_getElem? (i := 31) rfl) rfl
theorem ws_y_Md_fits : Cond.selects y_Md_fits.cls y_Md_fits y_Md_fits ∈ lw_ok := lw_up_0 (List.mem_of_getElem? (i := 91) rfl) rfl
theorem wl_Md_423 : Cond.methodLink "LastSeenModel" 423 y_Md_fits ∈ lw_ok := lw_up_8 (List.mem_of_getElem? (i := 29) rfl) rfl
theorem wk_Md_429 : Cond.constant "LastSeenModel" 429 (1000000) ∈ lw_ok := lw_up_8 (List.mem_of_getElem? (i := 53) rfl) rfl
theorem wc_y_Md_mayGet : Cond.code y_Md_mayGet prog_12_method_81_code 4 (some .boolean) ∈ lw_ok := lw_up_8 (List.mem_of_getElem? (i := 52) rfl) rfl
theorem wi_y_Md_mayGet : Cond.instanceMethod y_Md_mayGet ∈ lw_ok := lw_up_8 (List.mem_of_getElem? (i := 51) rfl) rfl
theorem ws_y_Md_mayGet : Cond.selects y_Md_mayGet.cls y_Md_mayGet y_Md_mayGet ∈ lw_ok := lw_up_0 (List.mem_of_getElem? (i := 95) rfl) rfl
theorem wl_Md_426 : Cond.methodLink "LastSeenModel" 426 y_Md_mayGet ∈ lw_ok := lw_up_8 (List.mem_of_getElem? (i := 49) rfl) rfl
theorem wc_y_Md_areSets : Cond.code y_Md_areSets prog_12_method_83_code 2 (some .boolean) ∈ lw_ok := lw_up_8 (List.mem_of_getElem? (i := 40) rfl) rfl
theorem wi_y_Md_areSets : Cond.instanceMethod y_Md_areSets ∈ lw_ok := lw_up_8 (List.mem_of_getElem? (i := 39) rfl) rfl
theorem ws_y_Md_areSets : Cond.selects y_Md_areSets.cls y_Md_areSets y_Md_areSets ∈ lw_ok := lw_up_0 (List.mem_of_getElem? (i := 92) rfl) rfl
theorem wl_Md_430 : Cond.methodLink "LastSeenModel" 430 y_Md_areSets ∈ lw_ok := lw_up_8 (List.mem_of_getElem? (i := 37) rfl) rfl
theorem wc_y_Md_findFirsts : Cond.code y_Md_findFirsts prog_12_method_80_code 3 (none) ∈ lw_ok := lw_up_8 (List.mem_of_getElem? (i := 44) rfl) rfl
theorem wi_y_Md_findFirsts : Cond.instanceMethod y_Md_findFirsts ∈ lw_ok := lw_up_8 (List.mem_of_getElem? (i := 43) rfl) rfl
theorem ws_y_Md_findFirsts : Cond.selects y_Md_findFirsts.cls y_Md_findFirsts y_Md_findFirsts ∈ lw_ok := lw_up_0 (List.mem_of_getElem? (i := 93) rfl) rfl
theorem wl_Md_433 : Cond.methodLink "LastSeenModel" 433 y_Md_findFirsts ∈ lw_ok := lw_up_8 (List.mem_of_getElem? (i := 41) rfl) rfl
theorem wc_y_Md_waysOf : Cond.code y_Md_waysOf prog_12_method_82_code 8 (some .int) ∈ lw_ok := lw_up_8 (List.mem_of_getElem? (i := 48) rfl) rfl
theorem wi_y_Md_waysOf : Cond.instanceMethod y_Md_waysOf ∈ lw_ok := lw_up_8 (List.mem_of_getElem? (i := 47) rfl) rfl
theorem ws_y_Md_waysOf : Cond.selects y_Md_waysOf.cls y_Md_waysOf y_Md_waysOf ∈ lw_ok := lw_up_0 (List.mem_of_getElem? (i := 94) rfl) rfl
theorem wl_Md_436 : Cond.methodLink "LastSeenModel" 436 y_Md_waysOf ∈ lw_ok := lw_up_8 (List.mem_of_getElem? (i := 45) rfl) rfl
theorem wc_y_Md_onlyOf : Cond.code y_Md_onlyOf prog_12_method_85_code 5 (some .int) ∈ lw_ok := lw_up_8 (List.mem_of_getElem? (i := 61) rfl) rfl
theorem wi_y_Md_onlyOf : Cond.instanceMethod y_Md_onlyOf ∈ lw_ok := lw_up_8 (List.mem_of_getElem? (i := 60) rfl) rfl
theorem ws_y_Md_onlyOf : Cond.selects y_Md_onlyOf.cls y_Md_onlyOf y_Md_onlyOf ∈ lw_ok := lw_up_0 (List.mem_of_getElem? (i := 96) rfl) rfl
theorem wl_Md_439 : Cond.methodLink "LastSeenModel" 439 y_Md_onlyOf ∈ lw_ok := lw_up_8 (List.mem_of_getElem? (i := 58) rfl) rfl
theorem wc_y_LS_init : Cond.code y_LS_init prog_1_method_1_code 1 (none) ∈ lw_ok := lw_up_1 (List.mem_of_getElem? (i := 18) rfl) rfl
theorem wi_y_LS_init : Cond.instanceMethod y_LS_init ∈ lw_ok := lw_up_1 (List.mem_of_getElem? (i := 17) rfl) rfl
theorem wc_y_LS_road : Cond.code y_LS_road prog_1_method_2_code 4 (some .int) ∈ lw_ok := lw_up_2 (List.mem_of_getElem? (i := 153) rfl) rfl
theorem wi_y_LS_road : Cond.instanceMethod y_LS_road ∈ lw_ok := lw_up_2 (List.mem_of_getElem? (i := 151) rfl) rfl
theorem ws_y_LS_road : Cond.selects y_LS_road.cls y_LS_road y_LS_road ∈ lw_ok := lw_up_2 (List.mem_of_getElem? (i := 152) rfl) rfl
theorem wc_y_LS_far : Cond.code y_LS_far prog_1_method_3_code 4 (some .int) ∈ lw_ok := lw_up_2 (List.mem_of_getElem? (i := 175) rfl) rfl
theorem wi_y_LS_far : Cond.instanceMethod y_LS_far ∈ lw_ok := lw_up_2 (List.mem_of_getElem? (i := 173) rfl) rfl
theorem ws_y_LS_far : Cond.selects y_LS_far.cls y_LS_far y_LS_far ∈ lw_ok := lw_up_2 (List.mem_of_getElem? (i := 174) rfl) rfl
theorem wc_y_LS_feed : Cond.code y_LS_feed prog_1_method_4_code 4 (some .int) ∈ lw_ok := lw_up_2 (List.mem_of_getElem? (i := 181) rfl) rfl
theorem wi_y_LS_feed : Cond.instanceMethod y_LS_feed ∈ lw_ok := lw_up_2 (List.mem_of_getElem? (i := 179) rfl) rfl
theorem ws_y_LS_feed : Cond.selects y_LS_feed.cls y_LS_feed y_LS_feed ∈ lw_ok := lw_up_2 (List.mem_of_getElem? (i := 180) rfl) rfl
theorem wc_y_LS_name : Cond.code y_LS_name prog_1_method_5_code 2 (some .int) ∈ lw_ok := lw_up_2 (List.mem_of_getElem? (i := 193) rfl) rfl
theorem wi_y_LS_name : Cond.instanceMethod y_LS_name ∈ lw_ok := lw_up_2 (List.mem_of_getElem? (i := 191) rfl) rfl
theorem ws_y_LS_name : Cond.selects y_LS_name.cls y_LS_name y_LS_name ∈ lw_ok := lw_up_2 (List.mem_of_getElem? (i := 192) rfl) rfl
theorem wc_y_LS_key : Cond.code y_LS_key prog_1_method_6_code 4 (some .int) ∈ lw_ok := lw_up_3 (List.mem_of_getElem? (i := 7) rfl) rfl
theorem wi_y_LS_key : Cond.instanceMethod y_LS_key ∈ lw_ok := lw_up_3 (List.mem_of_getElem? (i := 5) rfl) rfl
theorem ws_y_LS_key : Cond.selects y_LS_key.cls y_LS_key y_LS_key ∈ lw_ok := lw_up_3 (List.mem_of_getElem? (i := 6) rfl) rfl
theorem wc_y_LS_join : Cond.code y_LS_join prog_1_method_7_code 3 (some .int) ∈ lw_ok := lw_up_3 (List.mem_of_getElem? (i := 31) rfl) rfl
theorem wi_y_LS_join : Cond.instanceMethod y_LS_join ∈ lw_ok := lw_up_3 (List.mem_of_getElem? (i := 29) rfl) rfl
theorem ws_y_LS_join : Cond.selects y_LS_join.cls y_LS_join y_LS_join ∈ lw_ok := lw_up_3 (List.mem_of_getElem? (i := 30) rfl) rfl
theorem wc_y_LS_part : Cond.code y_LS_part prog_1_method_8_code 3 (some .int) ∈ lw_ok := lw_up_3 (List.mem_of_getElem? (i := 43) rfl) rfl
theorem wi_y_LS_part : Cond.instanceMethod y_LS_part ∈ lw_ok := lw_up_3 (List.mem_of_getElem? (i := 41) rfl) rfl
theorem ws_y_LS_part : Cond.selects y_LS_part.cls y_LS_part y_LS_part ∈ lw_ok := lw_up_3 (List.mem_of_getElem? (i := 42) rfl) rfl
theorem wc_y_LS_link : Cond.code y_LS_link prog_1_method_9_code 5 (some .int) ∈ lw_ok := lw_up_3 (List.mem_of_getElem? (i := 47) rfl) rfl
theorem wi_y_LS_link : Cond.instanceMethod y_LS_link ∈ lw_ok := lw_up_3 (List.mem_of_getElem? (i := 45) rfl) rfl
theorem ws_y_LS_link : Cond.selects y_LS_link.cls y_LS_link y_LS_link ∈ lw_ok := lw_up_3 (List.mem_of_getElem? (i := 46) rfl) rfl
theorem wc_y_LS_person : Cond.code y_LS_person prog_1_method_10_code 4 (some .int) ∈ lw_ok := lw_up_3 (List.mem_of_getElem? (i := 86) rfl) rfl
theorem wi_y_LS_person : Cond.instanceMethod y_LS_person ∈ lw_ok := lw_up_3 (List.mem_of_getElem? (i := 84) rfl) rfl
theorem ws_y_LS_person : Cond.selects y_LS_person.cls y_LS_person y_LS_person ∈ lw_ok := lw_up_3 (List.mem_of_getElem? (i := 85) rfl) rfl
theorem wc_y_LS_tie : Cond.code y_LS_tie prog_1_method_11_code 5 (some .int) ∈ lw_ok := lw_up_3 (List.mem_of_getElem? (i := 94) rfl) rfl
theorem wi_y_LS_tie : Cond.instanceMethod y_LS_tie ∈ lw_ok := lw_up_3 (List.mem_of_getElem? (i := 92) rfl) rfl
theorem ws_y_LS_tie : Cond.selects y_LS_tie.cls y_LS_tie y_LS_tie ∈ lw_ok := lw_up_3 (List.mem_of_getElem? (i := 93) rfl) rfl
theorem wc_y_LS_word : Cond.code y_LS_word prog_1_method_12_code 8 (some .int) ∈ lw_ok := lw_up_3 (List.mem_of_getElem? (i := 123) rfl) rfl
theorem wi_y_LS_word : Cond.instanceMethod y_LS_word ∈ lw_ok := lw_up_3 (List.mem_of_getElem? (i := 121) rfl) rfl
theorem ws_y_LS_word : Cond.selects y_LS_word.cls y_LS_word y_LS_word ∈ lw_ok := lw_up_3 (List.mem_of_getElem? (i := 122) rfl) rfl
theorem wc_y_LS_withdraw : Cond.code y_LS_withdraw prog_1_method_13_code 3 (some .int) ∈ lw_ok := lw_up_3 (List.mem_of_getElem? (i := 142) rfl) rfl
theorem wi_y_LS_withdraw : Cond.instanceMethod y_LS_withdraw ∈ lw_ok := lw_up_3 (List.mem_of_getElem? (i := 140) rfl) rfl
theorem ws_y_LS_withdraw : Cond.selects y_LS_withdraw.cls y_LS_withdraw y_LS_withdraw ∈ lw_ok := lw_up_3 (List.mem_of_getElem? (i := 141) rfl) rfl
theorem wc_y_LS_about : Cond.code y_LS_about prog_1_method_14_code 5 (some .int) ∈ lw_ok := lw_up_3 (List.mem_of_getElem? (i := 170) rfl) rfl
theorem wi_y_LS_about : Cond.instanceMethod y_LS_about ∈ lw_ok := lw_up_3 (List.mem_of_getElem? (i := 168) rfl) rfl
theorem ws_y_LS_about : Cond.selects y_LS_about.cls y_LS_about y_LS_about ∈ lw_ok := lw_up_3 (List.mem_of_getElem? (i := 169) rfl) rfl
theorem wc_y_LS_root : Cond.code y_LS_root prog_1_method_15_code 5 (some .int) ∈ lw_ok := lw_up_3 (List.mem_of_getElem? (i := 186) rfl) rfl
theorem wi_y_LS_root : Cond.instanceMethod y_LS_root ∈ lw_ok := lw_up_3 (List.mem_of_getElem? (i := 184) rfl) rfl
theorem ws_y_LS_root : Cond.selects y_LS_root.cls y_LS_root y_LS_root ∈ lw_ok := lw_up_3 (List.mem_of_getElem? (i := 185) rfl) rfl
theorem wc_y_LS_eyes : Cond.code y_LS_eyes prog_1_method_16_code 4 (some .int) ∈ lw_ok := lw_up_4 (List.mem_of_getElem? (i := 7) rfl) rfl
theorem wi_y_LS_eyes : Cond.instanceMethod y_LS_eyes ∈ lw_ok := lw_up_4 (List.mem_of_getElem? (i := 5) rfl) rfl
theorem ws_y_LS_eyes : Cond.selects y_LS_eyes.cls y_LS_eyes y_LS_eyes ∈ lw_ok := lw_up_4 (List.mem_of_getElem? (i := 6) rfl) rfl
theorem wc_y_LS_can : Cond.code y_LS_can prog_1_method_17_code 4 (some .int) ∈ lw_ok := lw_up_4 (List.mem_of_getElem? (i := 15) rfl) rfl
theorem wi_y_LS_can : Cond.instanceMethod y_LS_can ∈ lw_ok := lw_up_4 (List.mem_of_getElem? (i := 13) rfl) rfl
theorem ws_y_LS_can : Cond.selects y_LS_can.cls y_LS_can y_LS_can ∈ lw_ok := lw_up_4 (List.mem_of_getElem? (i := 14) rfl) rfl
theorem wc_y_LS_quarrel : Cond.code y_LS_quarrel prog_1_method_18_code 7 (some .int) ∈ lw_ok := lw_up_4 (List.mem_of_getElem? (i := 69) rfl) rfl
theorem wi_y_LS_quarrel : Cond.instanceMethod y_LS_quarrel ∈ lw_ok := lw_up_4 (List.mem_of_getElem? (i := 67) rfl) rfl
theorem ws_y_LS_quarrel : Cond.selects y_LS_quarrel.cls y_LS_quarrel y_LS_quarrel ∈ lw_ok := lw_up_4 (List.mem_of_getElem? (i := 68) rfl) rfl
theorem wc_y_LS_could : Cond.code y_LS_could prog_1_method_19_code 6 (some .int) ∈ lw_ok := lw_up_4 (List.mem_of_getElem? (i := 86) rfl) rfl
theorem wi_y_LS_could : Cond.instanceMethod y_LS_could ∈ lw_ok := lw_up_4 (List.mem_of_getElem? (i := 84) rfl) rfl
theorem ws_y_LS_could : Cond.selects y_LS_could.cls y_LS_could y_LS_could ∈ lw_ok := lw_up_4 (List.mem_of_getElem? (i := 85) rfl) rfl
theorem wc_y_LS_last : Cond.code y_LS_last prog_1_method_20_code 5 (some .int) ∈ lw_ok := lw_up_4 (List.mem_of_getElem? (i := 94) rfl) rfl
theorem wi_y_LS_last : Cond.instanceMethod y_LS_last ∈ lw_ok := lw_up_4 (List.mem_of_getElem? (i := 92) rfl) rfl
theorem ws_y_LS_last : Cond.selects y_LS_last.cls y_LS_last y_LS_last ∈ lw_ok := lw_up_4 (List.mem_of_getElem? (i := 93) rfl) rfl
theorem wc_y_LS_rule : Cond.code y_LS_rule prog_1_method_21_code 2 (some .int) ∈ lw_ok := lw_up_4 (List.mem_of_getElem? (i := 102) rfl) rfl
theorem wi_y_LS_rule : Cond.instanceMethod y_LS_rule ∈ lw_ok := lw_up_4 (List.mem_of_getElem? (i := 100) rfl) rfl
theorem ws_y_LS_rule : Cond.selects y_LS_rule.cls y_LS_rule y_LS_rule ∈ lw_ok := lw_up_4 (List.mem_of_getElem? (i := 101) rfl) rfl
theorem wc_y_LS_finding : Cond.code y_LS_finding prog_1_method_22_code 5 (some .int) ∈ lw_ok := lw_up_4 (List.mem_of_getElem? (i := 157) rfl) rfl
theorem wi_y_LS_finding : Cond.instanceMethod y_LS_finding ∈ lw_ok := lw_up_4 (List.mem_of_getElem? (i := 155) rfl) rfl
theorem ws_y_LS_finding : Cond.selects y_LS_finding.cls y_LS_finding y_LS_finding ∈ lw_ok := lw_up_4 (List.mem_of_getElem? (i := 156) rfl) rfl
theorem wc_y_LS_find : Cond.code y_LS_find prog_1_method_23_code 3 (some .int) ∈ lw_ok := lw_up_4 (List.mem_of_getElem? (i := 209) rfl) rfl
theorem wi_y_LS_find : Cond.instanceMethod y_LS_find ∈ lw_ok := lw_up_4 (List.mem_of_getElem? (i := 207) rfl) rfl
theorem ws_y_LS_find : Cond.selects y_LS_find.cls y_LS_find y_LS_find ∈ lw_ok := lw_up_4 (List.mem_of_getElem? (i := 208) rfl) rfl
theorem wc_y_LS_found : Cond.code y_LS_found prog_1_method_24_code 3 (some .int) ∈ lw_ok := lw_up_4 (List.mem_of_getElem? (i := 213) rfl) rfl
theorem wi_y_LS_found : Cond.instanceMethod y_LS_found ∈ lw_ok := lw_up_4 (List.mem_of_getElem? (i := 211) rfl) rfl
theorem ws_y_LS_found : Cond.selects y_LS_found.cls y_LS_found y_LS_found ∈ lw_ok := lw_up_4 (List.mem_of_getElem? (i := 212) rfl) rfl
theorem wc_y_LS_bone : Cond.code y_LS_bone prog_1_method_25_code 5 (some .int) ∈ lw_ok := lw_up_4 (List.mem_of_getElem? (i := 233) rfl) rfl
theorem wi_y_LS_bone : Cond.instanceMethod y_LS_bone ∈ lw_ok := lw_up_4 (List.mem_of_getElem? (i := 231) rfl) rfl
theorem ws_y_LS_bone : Cond.selects y_LS_bone.cls y_LS_bone y_LS_bone ∈ lw_ok := lw_up_4 (List.mem_of_getElem? (i := 232) rfl) rfl
theorem wc_y_LS_bound : Cond.code y_LS_bound prog_1_method_26_code 2 (some .int) ∈ lw_ok := lw_up_5 (List.mem_of_getElem? (i := 11) rfl) rfl
theorem wi_y_LS_bound : Cond.instanceMethod y_LS_bound ∈ lw_ok := lw_up_5 (List.mem_of_getElem? (i := 9) rfl) rfl
theorem ws_y_LS_bound : Cond.selects y_LS_bound.cls y_LS_bound y_LS_bound ∈ lw_ok := lw_up_5 (List.mem_of_getElem? (i := 10) rfl) rfl
theorem wc_y_LS_least : Cond.code y_LS_least prog_1_method_27_code 2 (some .int) ∈ lw_ok := lw_up_5 (List.mem_of_getElem? (i := 19) rfl) rfl
theorem wi_y_LS_least : Cond.instanceMethod y_LS_least ∈ lw_ok := lw_up_5 (List.mem_of_getElem? (i := 17) rfl) rfl
theorem ws_y_LS_least : Cond.selects y_LS_least.cls y_LS_least y_LS_least ∈ lw_ok := lw_up_5 (List.mem_of_getElem? (i := 18) rfl) rfl
theorem wc_y_LS_set : Cond.code y_LS_set prog_1_method_28_code 6 (some .int) ∈ lw_ok := lw_up_5 (List.mem_of_getElem? (i := 32) rfl) rfl
theorem wi_y_LS_set : Cond.instanceMethod y_LS_set ∈ lw_ok := lw_up_5 (List.mem_of_getElem? (i := 30) rfl) rfl
theorem ws_y_LS_set : Cond.selects y_LS_set.cls y_LS_set y_LS_set ∈ lw_ok := lw_up_5 (List.mem_of_getElem? (i := 31) rfl) rfl
theorem wc_y_LS_missing : Cond.code y_LS_missing prog_1_method_29_code 6 (some .int) ∈ lw_ok := lw_up_5 (List.mem_of_getElem? (i := 50) rfl) rfl
theorem wi_y_LS_missing : Cond.instanceMethod y_LS_missing ∈ lw_ok := lw_up_5 (List.mem_of_getElem? (i := 48) rfl) rfl
theorem ws_y_LS_missing : Cond.selects y_LS_missing.cls y_LS_missing y_LS_missing ∈ lw_ok := lw_up_5 (List.mem_of_getElem? (i := 49) rfl) rfl
theorem wc_y_LS_fit : Cond.code y_LS_fit prog_1_method_30_code 4 (some .int) ∈ lw_ok := lw_up_5 (List.mem_of_getElem? (i := 74) rfl) rfl
theorem wi_y_LS_fit : Cond.instanceMethod y_LS_fit ∈ lw_ok := lw_up_5 (List.mem_of_getElem? (i := 72) rfl) rfl
theorem ws_y_LS_fit : Cond.selects y_LS_fit.cls y_LS_fit y_LS_fit ∈ lw_ok := lw_up_5 (List.mem_of_getElem? (i := 73) rfl) rfl
theorem wc_y_LS_namings : Cond.code y_LS_namings prog_1_method_31_code 2 (some .int) ∈ lw_ok := lw_up_5 (List.mem_of_getElem? (i := 86) rfl) rfl
theorem wi_y_LS_namings : Cond.instanceMethod y_LS_namings ∈ lw_ok := lw_up_5 (List.mem_of_getElem? (i := 84) rfl) rfl
theorem ws_y_LS_namings : Cond.selects y_LS_namings.cls y_LS_namings y_LS_namings ∈ lw_ok := lw_up_5 (List.mem_of_getElem? (i := 85) rfl) rfl
theorem wc_y_LS_only : Cond.code y_LS_only prog_1_method_32_code 4 (some .int) ∈ lw_ok := lw_up_5 (List.mem_of_getElem? (i := 127) rfl) rfl
theorem wi_y_LS_only : Cond.instanceMethod y_LS_only ∈ lw_ok := lw_up_5 (List.mem_of_getElem? (i := 125) rfl) rfl
theorem ws_y_LS_only : Cond.selects y_LS_only.cls y_LS_only y_LS_only ∈ lw_ok := lw_up_5 (List.mem_of_getElem? (i := 126) rfl) rfl
theorem wc_y_LS_why : Cond.code y_LS_why prog_1_method_33_code 2 (some .int) ∈ lw_ok := lw_up_5 (List.mem_of_getElem? (i := 152) rfl) rfl
theorem wi_y_LS_why : Cond.instanceMethod y_LS_why ∈ lw_ok := lw_up_5 (List.mem_of_getElem? (i := 150) rfl) rfl
theorem ws_y_LS_why : Cond.selects y_LS_why.cls y_LS_why y_LS_why ∈ lw_ok := lw_up_5 (List.mem_of_getElem? (i := 151) rfl) rfl
theorem wc_y_LS_give : Cond.code y_LS_give prog_1_method_34_code 3 (some .int) ∈ lw_ok := lw_up_5 (List.mem_of_getElem? (i := 157) rfl) rfl
theorem wi_y_LS_give : Cond.instanceMethod y_LS_give ∈ lw_ok := lw_up_5 (List.mem_of_getElem? (i := 155) rfl) rfl
theorem ws_y_LS_give : Cond.selects y_LS_give.cls y_LS_give y_LS_give ∈ lw_ok := lw_up_5 (List.mem_of_getElem? (i := 156) rfl) rfl
theorem wc_y_LS_take : Cond.code y_LS_take prog_1_method_35_code 2 (some .int) ∈ lw_ok := lw_up_5 (List.mem_of_getElem? (i := 173) rfl) rfl
theorem wi_y_LS_take : Cond.instanceMethod y_LS_take ∈ lw_ok := lw_up_5 (List.mem_of_getElem? (i := 171) rfl) rfl
theorem ws_y_LS_take : Cond.selects y_LS_take.cls y_LS_take y_LS_take ∈ lw_ok := lw_up_5 (List.mem_of_getElem? (i := 172) rfl) rfl
theorem wc_y_LS_named : Cond.code y_LS_named prog_1_method_36_code 3 (some .int) ∈ lw_ok := lw_up_5 (List.mem_of_getElem? (i := 181) rfl) rfl
theorem wi_y_LS_named : Cond.instanceMethod y_LS_named ∈ lw_ok := lw_up_5 (List.mem_of_getElem? (i := 179) rfl) rfl
theorem ws_y_LS_named : Cond.selects y_LS_named.cls y_LS_named y_LS_named ∈ lw_ok := lw_up_5 (List.mem_of_getElem? (i := 180) rfl) rfl
theorem wc_y_LS_count : Cond.code y_LS_count prog_1_method_37_code 2 (some .int) ∈ lw_ok := lw_up_5 (List.mem_of_getElem? (i := 185) rfl) rfl
theorem wi_y_LS_count : Cond.instanceMethod y_LS_count ∈ lw_ok := lw_up_5 (List.mem_of_getElem? (i := 183) rfl) rfl
theorem ws_y_LS_count : Cond.selects y_LS_count.cls y_LS_count y_LS_count ∈ lw_ok := lw_up_5 (List.mem_of_getElem? (i := 184) rfl) rfl
theorem wc_y_La_init : Cond.code y_La_init prog_5_method_1_code 3 (none) ∈ lw_ok := lw_up_1 (List.mem_of_getElem? (i := 26) rfl) rfl
theorem wi_y_La_init : Cond.instanceMethod y_La_init ∈ lw_ok := lw_up_1 (List.mem_of_getElem? (i := 25) rfl) rfl
theorem wc_y_Ta_init : Cond.code y_Ta_init prog_8_method_1_code 1 (none) ∈ lw_ok := lw_up_1 (List.mem_of_getElem? (i := 41) rfl) rfl
theorem wi_y_Ta_init : Cond.instanceMethod y_Ta_init ∈ lw_ok := lw_up_1 (List.mem_of_getElem? (i := 40) rfl) rfl
theorem wc_y_Na_init : Cond.code y_Na_init prog_6_method_1_code 1 (none) ∈ lw_ok := lw_up_1 (List.mem_of_getElem? (i := 55) rfl) rfl
theorem wi_y_Na_init : Cond.instanceMethod y_Na_init ∈ lw_ok := lw_up_1 (List.mem_of_getElem? (i := 54) rfl) rfl
theorem wc_y_Wo_init : Cond.code y_Wo_init prog_10_method_1_code 1 (none) ∈ lw_ok := lw_up_1 (List.mem_of_getElem? (i := 107) rfl) rfl
theorem wi_y_Wo_init : Cond.instanceMethod y_Wo_init ∈ lw_ok := lw_up_1 (List.mem_of_getElem? (i := 106) rfl) rfl
theorem wc_y_Wa_init : Cond.code y_Wa_init prog_9_method_1_code 2 (none) ∈ lw_ok := lw_up_1 (List.mem_of_getElem? (i := 150) rfl) rfl
theorem wi_y_Wa_init : Cond.instanceMethod y_Wa_init ∈ lw_ok := lw_up_1 (List.mem_of_getElem? (i := 149) rfl) rfl
theorem wc_y_He_init : Cond.code y_He_init prog_4_method_1_code 4 (none) ∈ lw_ok := lw_up_1 (List.mem_of_getElem? (i := 176) rfl) rfl
theorem wi_y_He_init : Cond.instanceMethod y_He_init ∈ lw_ok := lw_up_1 (List.mem_of_getElem? (i := 175) rfl) rfl
theorem wc_y_Ru_init : Cond.code y_Ru_init prog_7_method_1_code 1 (none) ∈ lw_ok := lw_up_1 (List.mem_of_getElem? (i := 228) rfl) rfl
theorem wi_y_Ru_init : Cond.instanceMethod y_Ru_init ∈ lw_ok := lw_up_1 (List.mem_of_getElem? (i := 227) rfl) rfl
theorem wc_y_Bn_init : Cond.code y_Bn_init prog_2_method_1_code 1 (none) ∈ lw_ok := lw_up_2 (List.mem_of_getElem? (i := 34) rfl) rfl
theorem wi_y_Bn_init : Cond.instanceMethod y_Bn_init ∈ lw_ok := lw_up_2 (List.mem_of_getElem? (i := 33) rfl) rfl
theorem wc_y_Gr_init : Cond.code y_Gr_init prog_3_method_1_code 2 (none) ∈ lw_ok := lw_up_2 (List.mem_of_getElem? (i := 50) rfl) rfl
theorem wi_y_Gr_init : Cond.instanceMethod y_Gr_init ∈ lw_ok := lw_up_2 (List.mem_of_getElem? (i := 49) rfl) rfl
theorem wc_y_Md_init : Cond.code y_Md_init prog_12_method_1_code 2 (none) ∈ lw_ok := lw_up_5 (List.mem_of_getElem? (i := 203) rfl) rfl
theorem wi_y_Md_init : Cond.instanceMethod y_Md_init ∈ lw_ok := lw_up_5 (List.mem_of_getElem? (i := 202) rfl) rfl
theorem wc_y_Md_road : Cond.code y_Md_road prog_12_method_7_code 8 (some .int) ∈ lw_ok := lw_up_6 (List.mem_of_getElem? (i := 196) rfl) rfl
theorem wi_y_Md_road : Cond.instanceMethod y_Md_road ∈ lw_ok := lw_up_6 (List.mem_of_getElem? (i := 194) rfl) rfl
theorem ws_y_Md_road : Cond.selects y_Md_road.cls y_Md_road y_Md_road ∈ lw_ok := lw_up_6 (List.mem_of_getElem? (i := 195) rfl) rfl
theorem wc_y_Md_far : Cond.code y_Md_far prog_12_method_8_code 3 (some .int) ∈ lw_ok := lw_up_6 (List.mem_of_getElem? (i := 207) rfl) rfl
theorem wi_y_Md_far : Cond.instanceMethod y_Md_far ∈ lw_ok := lw_up_6 (List.mem_of_getElem? (i := 205) rfl) rfl
theorem ws_y_Md_far : Cond.selects y_Md_far.cls y_Md_far y_Md_far ∈ lw_ok := lw_up_6 (List.mem_of_getElem? (i := 206) rfl) rfl
theorem wc_y_Md_feed : Cond.code y_Md_feed prog_12_method_12_code 5 (some .int) ∈ lw_ok := lw_up_6 (List.mem_of_getElem? (i := 211) rfl) rfl
theorem wi_y_Md_feed : Cond.instanceMethod y_Md_feed ∈ lw_ok := lw_up_6 (List.mem_of_getElem? (i := 209) rfl) rfl
theorem ws_y_Md_feed : Cond.selects y_Md_feed.cls y_Md_feed y_Md_feed ∈ lw_ok := lw_up_6 (List.mem_of_getElem? (i := 210) rfl) rfl
theorem wc_y_Md_name : Cond.code y_Md_name prog_12_method_17_code 3 (some .int) ∈ lw_ok := lw_up_6 (List.mem_of_getElem? (i := 217) rfl) rfl
theorem wi_y_Md_name : Cond.instanceMethod y_Md_name ∈ lw_ok := lw_up_6 (List.mem_of_getElem? (i := 215) rfl) rfl
theorem ws_y_Md_name : Cond.selects y_Md_name.cls y_Md_name y_Md_name ∈ lw_ok := lw_up_6 (List.mem_of_getElem? (i := 216) rfl) rfl
theorem wc_y_Md_key : Cond.code y_Md_key prog_12_method_18_code 3 (some .int) ∈ lw_ok := lw_up_7 (List.mem_of_getElem? (i := 2) rfl) rfl
theorem wi_y_Md_key : Cond.instanceMethod y_Md_key ∈ lw_ok := lw_up_7 (List.mem_of_getElem? (i := 0) rfl) rfl
theorem ws_y_Md_key : Cond.selects y_Md_key.cls y_Md_key y_Md_key ∈ lw_ok := lw_up_7 (List.mem_of_getElem? (i := 1) rfl) rfl
theorem wc_y_Md_join : Cond.code y_Md_join prog_12_method_21_code 3 (some .int) ∈ lw_ok := lw_up_7 (List.mem_of_getElem? (i := 11) rfl) rfl
theorem wi_y_Md_join : Cond.instanceMethod y_Md_join ∈ lw_ok := lw_up_7 (List.mem_of_getElem? (i := 9) rfl) rfl
theorem ws_y_Md_join : Cond.selects y_Md_join.cls y_Md_join y_Md_join ∈ lw_ok := lw_up_7 (List.mem_of_getElem? (i := 10) rfl) rfl
theorem wc_y_Md_part : Cond.code y_Md_part prog_12_method_22_code 3 (some .int) ∈ lw_ok := lw_up_7 (List.mem_of_getElem? (i := 19) rfl) rfl
theorem wi_y_Md_part : Cond.instanceMethod y_Md_part ∈ lw_ok := lw_up_7 (List.mem_of_getElem? (i := 17) rfl) rfl
theorem ws_y_Md_part : Cond.selects y_Md_part.cls y_Md_part y_Md_part ∈ lw_ok := lw_up_7 (List.mem_of_getElem? (i := 18) rfl) rfl
theorem wc_y_Md_link : Cond.code y_Md_link prog_12_method_25_code 4 (some .int) ∈ lw_ok := lw_up_7 (List.mem_of_getElem? (i := 23) rfl) rfl
theorem wi_y_Md_link : Cond.instanceMethod y_Md_link ∈ lw_ok := lw_up_7 (List.mem_of_getElem? (i := 21) rfl) rfl
theorem ws_y_Md_link : Cond.selects y_Md_link.cls y_Md_link y_Md_link ∈ lw_ok := lw_up_7 (List.mem_of_getElem? (i := 22) rfl) rfl
theorem wc_y_Md_person : Cond.code y_Md_person prog_12_method_27_code 3 (some .int) ∈ lw_ok := lw_up_7 (List.mem_of_getElem? (i := 47) rfl) rfl
theorem wi_y_Md_person : Cond.instanceMethod y_Md_person ∈ lw_ok := lw_up_7 (List.mem_of_getElem? (i := 45) rfl) rfl
theorem ws_y_Md_person : Cond.selects y_Md_person.cls y_Md_person y_Md_person ∈ lw_ok := lw_up_7 (List.mem_of_getElem? (i := 46) rfl) rfl
theorem wc_y_Md_tie : Cond.code y_Md_tie prog_12_method_28_code 9 (some .int) ∈ lw_ok := lw_up_7 (List.mem_of_getElem? (i := 55) rfl) rfl
theorem wi_y_Md_tie : Cond.instanceMethod y_Md_tie ∈ lw_ok := lw_up_7 (List.mem_of_getElem? (i := 53) rfl) rfl
theorem ws_y_Md_tie : Cond.selects y_Md_tie.cls y_Md_tie y_Md_tie ∈ lw_ok := lw_up_7 (List.mem_of_getElem? (i := 54) rfl) rfl
theorem wc_y_Md_word : Cond.code y_Md_word prog_12_method_29_code 8 (some .int) ∈ lw_ok := lw_up_7 (List.mem_of_getElem? (i := 59) rfl) rfl
theorem wi_y_Md_word : Cond.instanceMethod y_Md_word ∈ lw_ok := lw_up_7 (List.mem_of_getElem? (i := 57) rfl) rfl
theorem ws_y_Md_word : Cond.selects y_Md_word.cls y_Md_word y_Md_word ∈ lw_ok := lw_up_7 (List.mem_of_getElem? (i := 58) rfl) rfl
theorem wc_y_Md_withdraw : Cond.code y_Md_withdraw prog_12_method_31_code 3 (some .int) ∈ lw_ok := lw_up_7 (List.mem_of_getElem? (i := 70) rfl) rfl
theorem wi_y_Md_withdraw : Cond.instanceMethod y_Md_withdraw ∈ lw_ok := lw_up_7 (List.mem_of_getElem? (i := 68) rfl) rfl
theorem ws_y_Md_withdraw : Cond.selects y_Md_withdraw.cls y_Md_withdraw y_Md_withdraw ∈ lw_ok := lw_up_7 (List.mem_of_getElem? (i := 69) rfl) rfl
theorem wc_y_Md_about : Cond.code y_Md_about prog_12_method_32_code 4 (some .int) ∈ lw_ok := lw_up_7 (List.mem_of_getElem? (i := 78) rfl) rfl
theorem wi_y_Md_about : Cond.instanceMethod y_Md_about ∈ lw_ok := lw_up_7 (List.mem_of_getElem? (i := 76) rfl) rfl
theorem ws_y_Md_about : Cond.selects y_Md_about.cls y_Md_about y_Md_about ∈ lw_ok := lw_up_7 (List.mem_of_getElem? (i := 77) rfl) rfl
theorem wc_y_Md_root : Cond.code y_Md_root prog_12_method_34_code 4 (some .int) ∈ lw_ok := lw_up_7 (List.mem_of_getElem? (i := 83) rfl) rfl
theorem wi_y_Md_root : Cond.instanceMethod y_Md_root ∈ lw_ok := lw_up_7 (List.mem_of_getElem? (i := 81) rfl) rfl
theorem ws_y_Md_root : Cond.selects y_Md_root.cls y_Md_root y_Md_root ∈ lw_ok := lw_up_7 (List.mem_of_getElem? (i := 82) rfl) rfl
theorem wc_y_Md_eyes : Cond.code y_Md_eyes prog_12_method_36_code 3 (some .int) ∈ lw_ok := lw_up_7 (List.mem_of_getElem? (i := 91) rfl) rfl
theorem wi_y_Md_eyes : Cond.instanceMethod y_Md_eyes ∈ lw_ok := lw_up_7 (List.mem_of_getElem? (i := 89) rfl) rfl
theorem ws_y_Md_eyes : Cond.selects y_Md_eyes.cls y_Md_eyes y_Md_eyes ∈ lw_ok := lw_up_7 (List.mem_of_getElem? (i := 90) rfl) rfl
theorem wc_y_Md_can : Cond.code y_Md_can prog_12_method_42_code 3 (some .int) ∈ lw_ok := lw_up_7 (List.mem_of_getElem? (i := 102) rfl) rfl
theorem wi_y_Md_can : Cond.instanceMethod y_Md_can ∈ lw_ok := lw_up_7 (List.mem_of_getElem? (i := 100) rfl) rfl
theorem ws_y_Md_can : Cond.selects y_Md_can.cls y_Md_can y_Md_can ∈ lw_ok := lw_up_7 (List.mem_of_getElem? (i := 101) rfl) rfl
theorem wc_y_Md_quarrel : Cond.code y_Md_quarrel prog_12_method_43_code 7 (some .int) ∈ lw_ok := lw_up_7 (List.mem_of_getElem? (i := 126) rfl) rfl
theorem wi_y_Md_quarrel : Cond.instanceMethod y_Md_quarrel ∈ lw_ok := lw_up_7 (List.mem_of_getElem? (i := 124) rfl) rfl
theorem ws_y_Md_quarrel : Cond.selects y_Md_quarrel.cls y_Md_quarrel y_Md_quarrel ∈ lw_ok := lw_up_7 (List.mem_of_getElem? (i := 125) rfl) rfl
theorem wc_y_Md_could : Cond.code y_Md_could prog_12_method_44_code 5 (some .int) ∈ lw_ok := lw_up_7 (List.mem_of_getElem? (i := 130) rfl) rfl
theorem wi_y_Md_could : Cond.instanceMethod y_Md_could ∈ lw_ok := lw_up_7 (List.mem_of_getElem? (i := 128) rfl) rfl
theorem ws_y_Md_could : Cond.selects y_Md_could.cls y_Md_could y_Md_could ∈ lw_ok := lw_up_7 (List.mem_of_getElem? (i := 129) rfl) rfl
theorem wc_y_Md_last : Cond.code y_Md_last prog_12_method_46_code 4 (some .int) ∈ lw_ok := lw_up_7 (List.mem_of_getElem? (i := 134) rfl) rfl
theorem wi_y_Md_last : Cond.instanceMethod y_Md_last ∈ lw_ok := lw_up_7 (List.mem_of_getElem? (i := 132) rfl) rfl
theorem ws_y_Md_last : Cond.selects y_Md_last.cls y_Md_last y_Md_last ∈ lw_ok := lw_up_7 (List.mem_of_getElem? (i := 133) rfl) rfl
theorem wc_y_Md_rule : Cond.code y_Md_rule prog_12_method_57_code 2 (some .int) ∈ lw_ok := lw_up_7 (List.mem_of_getElem? (i := 142) rfl) rfl
theorem wi_y_Md_rule : Cond.instanceMethod y_Md_rule ∈ lw_ok := lw_up_7 (List.mem_of_getElem? (i := 140) rfl) rfl
theorem ws_y_Md_rule : Cond.selects y_Md_rule.cls y_Md_rule y_Md_rule ∈ lw_ok := lw_up_7 (List.mem_of_getElem? (i := 141) rfl) rfl
theorem wc_y_Md_finding : Cond.code y_Md_finding prog_12_method_63_code 3 (some .int) ∈ lw_ok := lw_up_7 (List.mem_of_getElem? (i := 184) rfl) rfl
theorem wi_y_Md_finding : Cond.instanceMethod y_Md_finding ∈ lw_ok := lw_up_7 (List.mem_of_getElem? (i := 182) rfl) rfl
theorem ws_y_Md_finding : Cond.selects y_Md_finding.cls y_Md_finding y_Md_finding ∈ lw_ok := lw_up_7 (List.mem_of_getElem? (i := 183) rfl) rfl
theorem wc_y_Md_find : Cond.code y_Md_find prog_12_method_64_code 2 (some .int) ∈ lw_ok := lw_up_7 (List.mem_of_getElem? (i := 208) rfl) rfl
theorem wi_y_Md_find : Cond.instanceMethod y_Md_find ∈ lw_ok := lw_up_7 (List.mem_of_getElem? (i := 206) rfl) rfl
theorem ws_y_Md_find : Cond.selects y_Md_find.cls y_Md_find y_Md_find ∈ lw_ok := lw_up_7 (List.mem_of_getElem? (i := 207) rfl) rfl
theorem wc_y_Md_found : Cond.code y_Md_found prog_12_method_67_code 3 (some .int) ∈ lw_ok := lw_up_7 (List.mem_of_getElem? (i := 212) rfl) rfl
theorem wi_y_Md_found : Cond.instanceMethod y_Md_found ∈ lw_ok := lw_up_7 (List.mem_of_getElem? (i := 210) rfl) rfl
theorem ws_y_Md_found : Cond.selects y_Md_found.cls y_Md_found y_Md_found ∈ lw_ok := lw_up_7 (List.mem_of_getElem? (i := 211) rfl) rfl
theorem wc_y_Md_bone : Cond.code y_Md_bone prog_12_method_68_code 7 (some .int) ∈ lw_ok := lw_up_7 (List.mem_of_getElem? (i := 224) rfl) rfl
theorem wi_y_Md_bone : Cond.instanceMethod y_Md_bone ∈ lw_ok := lw_up_7 (List.mem_of_getElem? (i := 222) rfl) rfl
theorem ws_y_Md_bone : Cond.selects y_Md_bone.cls y_Md_bone y_Md_bone ∈ lw_ok := lw_up_7 (List.mem_of_getElem? (i := 223) rfl) rfl
theorem wc_y_Md_bound : Cond.code y_Md_bound prog_12_method_69_code 3 (some .int) ∈ lw_ok := lw_up_7 (List.mem_of_getElem? (i := 230) rfl) rfl
theorem wi_y_Md_bound : Cond.instanceMethod y_Md_bound ∈ lw_ok := lw_up_7 (List.mem_of_getElem? (i := 228) rfl) rfl
theorem ws_y_Md_bound : Cond.selects y_Md_bound.cls y_Md_bound y_Md_bound ∈ lw_ok := lw_up_7 (List.mem_of_getElem? (i := 229) rfl) rfl
theorem wc_y_Md_least : Cond.code y_Md_least prog_12_method_71_code 5 (some .int) ∈ lw_ok := lw_up_7 (List.mem_of_getElem? (i := 235) rfl) rfl
theorem wi_y_Md_least : Cond.instanceMethod y_Md_least ∈ lw_ok := lw_up_7 (List.mem_of_getElem? (i := 233) rfl) rfl
theorem ws_y_Md_least : Cond.selects y_Md_least.cls y_Md_least y_Md_least ∈ lw_ok := lw_up_7 (List.mem_of_getElem? (i := 234) rfl) rfl
theorem wc_y_Md_set : Cond.code y_Md_set prog_12_method_74_code 6 (some .int) ∈ lw_ok := lw_up_8 (List.mem_of_getElem? (i := 3) rfl) rfl
theorem wi_y_Md_set : Cond.instanceMethod y_Md_set ∈ lw_ok := lw_up_8 (List.mem_of_getElem? (i := 1) rfl) rfl
theorem ws_y_Md_set : Cond.selects y_Md_set.cls y_Md_set y_Md_set ∈ lw_ok := lw_up_8 (List.mem_of_getElem? (i := 2) rfl) rfl
theorem wc_y_Md_missing : Cond.code y_Md_missing prog_12_method_77_code 6 (some .int) ∈ lw_ok := lw_up_8 (List.mem_of_getElem? (i := 12) rfl) rfl
theorem wi_y_Md_missing : Cond.instanceMethod y_Md_missing ∈ lw_ok := lw_up_8 (List.mem_of_getElem? (i := 10) rfl) rfl
theorem ws_y_Md_missing : Cond.selects y_Md_missing.cls y_Md_missing y_Md_missing ∈ lw_ok := lw_up_8 (List.mem_of_getElem? (i := 11) rfl) rfl
theorem wc_y_Md_fit : Cond.code y_Md_fit prog_12_method_79_code 3 (some .int) ∈ lw_ok := lw_up_8 (List.mem_of_getElem? (i := 24) rfl) rfl
theorem wi_y_Md_fit : Cond.instanceMethod y_Md_fit ∈ lw_ok := lw_up_8 (List.mem_of_getElem? (i := 22) rfl) rfl
theorem ws_y_Md_fit : Cond.selects y_Md_fit.cls y_Md_fit y_Md_fit ∈ lw_ok := lw_up_8 (List.mem_of_getElem? (i := 23) rfl) rfl
theorem wc_y_Md_namings : Cond.code y_Md_namings prog_12_method_84_code 2 (some .int) ∈ lw_ok := lw_up_8 (List.mem_of_getElem? (i := 36) rfl) rfl
theorem wi_y_Md_namings : Cond.instanceMethod y_Md_namings ∈ lw_ok := lw_up_8 (List.mem_of_getElem? (i := 34) rfl) rfl
theorem ws_y_Md_namings : Cond.selects y_Md_namings.cls y_Md_namings y_Md_namings ∈ lw_ok := lw_up_8 (List.mem_of_getElem? (i := 35) rfl) rfl
theorem wc_y_Md_only : Cond.code y_Md_only prog_12_method_86_code 4 (some .int) ∈ lw_ok := lw_up_8 (List.mem_of_getElem? (i := 57) rfl) rfl
theorem wi_y_Md_only : Cond.instanceMethod y_Md_only ∈ lw_ok := lw_up_8 (List.mem_of_getElem? (i := 55) rfl) rfl
theorem ws_y_Md_only : Cond.selects y_Md_only.cls y_Md_only y_Md_only ∈ lw_ok := lw_up_8 (List.mem_of_getElem? (i := 56) rfl) rfl
theorem wc_y_Md_why : Cond.code y_Md_why prog_12_method_87_code 4 (some .int) ∈ lw_ok := lw_up_8 (List.mem_of_getElem? (i := 65) rfl) rfl
theorem wi_y_Md_why : Cond.instanceMethod y_Md_why ∈ lw_ok := lw_up_8 (List.mem_of_getElem? (i := 63) rfl) rfl
theorem ws_y_Md_why : Cond.selects y_Md_why.cls y_Md_why y_Md_why ∈ lw_ok := lw_up_8 (List.mem_of_getElem? (i := 64) rfl) rfl
theorem wc_y_Md_give : Cond.code y_Md_give prog_12_method_88_code 4 (some .int) ∈ lw_ok := lw_up_8 (List.mem_of_getElem? (i := 69) rfl) rfl
theorem wi_y_Md_give : Cond.instanceMethod y_Md_give ∈ lw_ok := lw_up_8 (List.mem_of_getElem? (i := 67) rfl) rfl
theorem ws_y_Md_give : Cond.selects y_Md_give.cls y_Md_give y_Md_give ∈ lw_ok := lw_up_8 (List.mem_of_getElem? (i := 68) rfl) rfl
theorem wc_y_Md_take : Cond.code y_Md_take prog_12_method_89_code 5 (some .int) ∈ lw_ok := lw_up_8 (List.mem_of_getElem? (i := 73) rfl) rfl
theorem wi_y_Md_take : Cond.instanceMethod y_Md_take ∈ lw_ok := lw_up_8 (List.mem_of_getElem? (i := 71) rfl) rfl
theorem ws_y_Md_take : Cond.selects y_Md_take.cls y_Md_take y_Md_take ∈ lw_ok := lw_up_8 (List.mem_of_getElem? (i := 72) rfl) rfl
theorem wc_y_Md_named : Cond.code y_Md_named prog_12_method_90_code 2 (some .int) ∈ lw_ok := lw_up_8 (List.mem_of_getElem? (i := 77) rfl) rfl
theorem wi_y_Md_named : Cond.instanceMethod y_Md_named ∈ lw_ok := lw_up_8 (List.mem_of_getElem? (i := 75) rfl) rfl
theorem ws_y_Md_named : Cond.selects y_Md_named.cls y_Md_named y_Md_named ∈ lw_ok := lw_up_8 (List.mem_of_getElem? (i := 76) rfl) rfl
theorem wc_y_Md_count : Cond.code y_Md_count prog_12_method_91_code 4 (some .int) ∈ lw_ok := lw_up_8 (List.mem_of_getElem? (i := 81) rfl) rfl
theorem wi_y_Md_count : Cond.instanceMethod y_Md_count ∈ lw_ok := lw_up_8 (List.mem_of_getElem? (i := 79) rfl) rfl
theorem ws_y_Md_count : Cond.selects y_Md_count.cls y_Md_count y_Md_count ∈ lw_ok := lw_up_8 (List.mem_of_getElem? (i := 80) rfl) rfl
theorem wf_LS_bones : Cond.fieldLink "LastSeen" 61 "LastSeen" "bones" "LLastSeen$Bones;" ∈ lw_ok := lw_up_2 (List.mem_of_getElem? (i := 113) rfl) rfl
theorem wf_LS_entries : Cond.fieldLink "LastSeen" 122 "LastSeen" "entries" "I" ∈ lw_ok := lw_up_2 (List.mem_of_getElem? (i := 120) rfl) rfl
theorem wf_LS_foundDigit : Cond.fieldLink "LastSeen" 84 "LastSeen" "foundDigit" "[I" ∈ lw_ok := lw_up_2 (List.mem_of_getElem? (i := 118) rfl) rfl
theorem wf_LS_foundEntries : Cond.fieldLink "LastSeen" 78 "LastSeen" "foundEntries" "[I" ∈ lw_ok := lw_up_2 (List.mem_of_getElem? (i := 116) rfl) rfl
theorem wf_LS_foundName : Cond.fieldLink "LastSeen" 74 "LastSeen" "foundName" "[I" ∈ lw_ok := lw_up_2 (List.mem_of_getElem? (i := 115) rfl) rfl
theorem wf_LS_foundRule : Cond.fieldLink "LastSeen" 81 "LastSeen" "foundRule" "[I" ∈ lw_ok := lw_up_2 (List.mem_of_getElem? (i := 117) rfl) rfl
theorem wf_LS_founds : Cond.fieldLink "LastSeen" 269 "LastSeen" "founds" "I" ∈ lw_ok := lw_up_2 (List.mem_of_getElem? (i := 119) rfl) rfl
theorem wf_LS_graves : Cond.fieldLink "LastSeen" 70 "LastSeen" "graves" "LLastSeen$Graves;" ∈ lw_ok := lw_up_2 (List.mem_of_getElem? (i := 114) rfl) rfl
theorem wf_LS_hearing : Cond.fieldLink "LastSeen" 47 "LastSeen" "hearing" "LLastSeen$Hearing;" ∈ lw_ok := lw_up_2 (List.mem_of_getElem? (i := 111) rfl) rfl
theorem wf_LS_land : Cond.fieldLink "LastSeen" 10 "LastSeen" "land" "LLastSeen$Land;" ∈ lw_ok := lw_up_2 (List.mem_of_getElem? (i := 107) rfl) rfl
theorem wf_LS_names : Cond.fieldLink "LastSeen" 26 "LastSeen" "names" "LLastSeen$Names;" ∈ lw_ok := lw_up_2 (List.mem_of_getElem? (i := 109) rfl) rfl
theorem wf_LS_rules : Cond.fieldLink "LastSeen" 54 "LastSeen" "rules" "LLastSeen$Rules;" ∈ lw_ok := lw_up_2 (List.mem_of_getElem? (i := 112) rfl) rfl
theorem wf_LS_tape : Cond.fieldLink "LastSeen" 19 "LastSeen" "tape" "LLastSeen$Tape;" ∈ lw_ok := lw_up_2 (List.mem_of_getElem? (i := 108) rfl) rfl
theorem wf_LS_words : Cond.fieldLink "LastSeen" 33 "LastSeen" "words" "LLastSeen$Words;" ∈ lw_ok := lw_up_2 (List.mem_of_getElem? (i := 110) rfl) rfl
theorem wf_Bn_counts : Cond.fieldLink "LastSeen$Bones" 15 "LastSeen$Bones" "counts" "[I" ∈ lw_ok := lw_up_2 (List.mem_of_getElem? (i := 37) rfl) rfl
theorem wf_Bn_most : Cond.fieldLink "LastSeen$Bones" 18 "LastSeen$Bones" "most" "I" ∈ lw_ok := lw_up_2 (List.mem_of_getElem? (i := 38) rfl) rfl
theorem wf_Bn_sizes : Cond.fieldLink "LastSeen$Bones" 11 "LastSeen$Bones" "sizes" "[I" ∈ lw_ok := lw_up_2 (List.mem_of_getElem? (i := 36) rfl) rfl
theorem wf_Gr_choices : Cond.fieldLink "LastSeen$Graves" 46 "LastSeen$Graves" "choices" "[I" ∈ lw_ok := lw_up_2 (List.mem_of_getElem? (i := 68) rfl) rfl
theorem wf_Gr_given : Cond.fieldLink "LastSeen$Graves" 25 "LastSeen$Graves" "given" "[I" ∈ lw_ok := lw_up_2 (List.mem_of_getElem? (i := 58) rfl) rfl
theorem wf_Gr_givenTurn : Cond.fieldLink "LastSeen$Graves" 28 "LastSeen$Graves" "givenTurn" "[I" ∈ lw_ok := lw_up_2 (List.mem_of_getElem? (i := 59) rfl) rfl
theorem wf_Gr_grave : Cond.fieldLink "LastSeen$Graves" 9 "LastSeen$Graves" "grave" "[I" ∈ lw_ok := lw_up_2 (List.mem_of_getElem? (i := 53) rfl) rfl
theorem wf_Gr_had : Cond.fieldLink "LastSeen$Graves" 37 "LastSeen$Graves" "had" "[I" ∈ lw_ok := lw_up_2 (List.mem_of_getElem? (i := 64) rfl) rfl
theorem wf_Gr_hadNot : Cond.fieldLink "LastSeen$Graves" 40 "LastSeen$Graves" "hadNot" "[I" ∈ lw_ok := lw_up_2 (List.mem_of_getElem? (i := 65) rfl) rfl
theorem wf_Gr_has : Cond.fieldLink "LastSeen$Graves" 19 "LastSeen$Graves" "has" "[I" ∈ lw_ok := lw_up_2 (List.mem_of_getElem? (i := 56) rfl) rfl
theorem wf_Gr_hasNot : Cond.fieldLink "LastSeen$Graves" 22 "LastSeen$Graves" "hasNot" "[I" ∈ lw_ok := lw_up_2 (List.mem_of_getElem? (i := 57) rfl) rfl
theorem wf_Gr_height : Cond.fieldLink "LastSeen$Graves" 34 "LastSeen$Graves" "height" "[I" ∈ lw_ok := lw_up_2 (List.mem_of_getElem? (i := 63) rfl) rfl
theorem wf_Gr_high : Cond.fieldLink "LastSeen$Graves" 16 "LastSeen$Graves" "high" "[I" ∈ lw_ok := lw_up_2 (List.mem_of_getElem? (i := 55) rfl) rfl
theorem wf_Gr_lostCount : Cond.fieldLink "LastSeen$Graves" 60 "LastSeen$Graves" "lostCount" "I" ∈ lw_ok := lw_up_2 (List.mem_of_getElem? (i := 66) rfl) rfl
theorem wf_Gr_lostNames : Cond.fieldLink "LastSeen$Graves" 31 "LastSeen$Graves" "lostNames" "[I" ∈ lw_ok := lw_up_2 (List.mem_of_getElem? (i := 62) rfl) rfl
theorem wf_Gr_low : Cond.fieldLink "LastSeen$Graves" 13 "LastSeen$Graves" "low" "[I" ∈ lw_ok := lw_up_2 (List.mem_of_getElem? (i := 54) rfl) rfl
theorem wf_Gr_names : Cond.fieldLink "LastSeen$Graves" 52 "LastSeen$Graves" "names" "LLastSeen$Names;" ∈ lw_ok := lw_up_2 (List.mem_of_getElem? (i := 52) rfl) rfl
theorem wf_Gr_perSubset : Cond.fieldLink "LastSeen$Graves" 49 "LastSeen$Graves" "perSubset" "[I" ∈ lw_ok := lw_up_2 (List.mem_of_getElem? (i := 69) rfl) rfl
theorem wf_Gr_same : Cond.fieldLink "LastSeen$Graves" 43 "LastSeen$Graves" "same" "[I" ∈ lw_ok := lw_up_2 (List.mem_of_getElem? (i := 67) rfl) rfl
theorem wf_Gr_setCount : Cond.fieldLink "LastSeen$Graves" 56 "LastSeen$Graves" "setCount" "I" ∈ lw_ok := lw_up_2 (List.mem_of_getElem? (i := 60) rfl) rfl
theorem wf_Gr_turns : Cond.fieldLink "LastSeen$Graves" 114 "LastSeen$Graves" "turns" "I" ∈ lw_ok := lw_up_2 (List.mem_of_getElem? (i := 61) rfl) rfl
theorem wf_He_agreement : Cond.fieldLink "LastSeen$Hearing" 141 "LastSeen$Hearing" "agreement" "Z" ∈ lw_ok := lw_up_1 (List.mem_of_getElem? (i := 192) rfl) rfl
theorem wf_He_hearsay : Cond.fieldLink "LastSeen$Hearing" 68 "LastSeen$Hearing" "hearsay" "I" ∈ lw_ok := lw_up_1 (List.mem_of_getElem? (i := 185) rfl) rfl
theorem wf_He_isLeanedOn : Cond.fieldLink "LastSeen$Hearing" 17 "LastSeen$Hearing" "isLeanedOn" "[Z" ∈ lw_ok := lw_up_1 (List.mem_of_getElem? (i := 182) rfl) rfl
theorem wf_He_isRoot : Cond.fieldLink "LastSeen$Hearing" 11 "LastSeen$Hearing" "isRoot" "[Z" ∈ lw_ok := lw_up_1 (List.mem_of_getElem? (i := 181) rfl) rfl
theorem wf_He_latest : Cond.fieldLink "LastSeen$Hearing" 102 "LastSeen$Hearing" "latest" "I" ∈ lw_ok := lw_up_1 (List.mem_of_getElem? (i := 188) rfl) rfl
theorem wf_He_latestPlaces : Cond.fieldLink "LastSeen$Hearing" 108 "LastSeen$Hearing" "latestPlaces" "I" ∈ lw_ok := lw_up_1 (List.mem_of_getElem? (i := 190) rfl) rfl
theorem wf_He_latestWatch : Cond.fieldLink "LastSeen$Hearing" 105 "LastSeen$Hearing" "latestWatch" "I" ∈ lw_ok := lw_up_1 (List.mem_of_getElem? (i := 189) rfl) rfl
theorem wf_He_nameCount : Cond.fieldLink "LastSeen$Hearing" 56 "LastSeen$Hearing" "nameCount" "I" ∈ lw_ok := lw_up_1 (List.mem_of_getElem? (i := 187) rfl) rfl
theorem wf_He_names : Cond.fieldLink "LastSeen$Hearing" 24 "LastSeen$Hearing" "names" "LLastSeen$Names;" ∈ lw_ok := lw_up_1 (List.mem_of_getElem? (i := 178) rfl) rfl
theorem wf_He_person : Cond.fieldLink "LastSeen$Hearing" 49 "LastSeen$Hearing" "person" "I" ∈ lw_ok := lw_up_1 (List.mem_of_getElem? (i := 191) rfl) rfl
theorem wf_He_rootCount : Cond.fieldLink "LastSeen$Hearing" 88 "LastSeen$Hearing" "rootCount" "I" ∈ lw_ok := lw_up_1 (List.mem_of_getElem? (i := 184) rfl) rfl
theorem wf_He_roots : Cond.fieldLink "LastSeen$Hearing" 20 "LastSeen$Hearing" "roots" "[I" ∈ lw_ok := lw_up_1 (List.mem_of_getElem? (i := 183) rfl) rfl
theorem wf_He_walk : Cond.fieldLink "LastSeen$Hearing" 32 "LastSeen$Hearing" "walk" "LLastSeen$Walk;" ∈ lw_ok := lw_up_1 (List.mem_of_getElem? (i := 180) rfl) rfl
theorem wf_He_witnessCount : Cond.fieldLink "LastSeen$Hearing" 99 "LastSeen$Hearing" "witnessCount" "I" ∈ lw_ok := lw_up_1 (List.mem_of_getElem? (i := 186) rfl) rfl
theorem wf_He_words : Cond.fieldLink "LastSeen$Hearing" 28 "LastSeen$Hearing" "words" "LLastSeen$Words;" ∈ lw_ok := lw_up_1 (List.mem_of_getElem? (i := 179) rfl) rfl
theorem wf_La_roads : Cond.fieldLink "LastSeen$Land" 14 "LastSeen$Land" "roads" "I" ∈ lw_ok := lw_up_1 (List.mem_of_getElem? (i := 30) rfl) rfl
theorem wf_La_watches : Cond.fieldLink "LastSeen$Land" 9 "LastSeen$Land" "watches" "[I" ∈ lw_ok := lw_up_1 (List.mem_of_getElem? (i := 29) rfl) rfl
theorem wf_Na_bonds : Cond.fieldLink "LastSeen$Names" 33 "LastSeen$Names" "bonds" "[I" ∈ lw_ok := lw_up_1 (List.mem_of_getElem? (i := 66) rfl) rfl
theorem wf_Na_decreeA : Cond.fieldLink "LastSeen$Names" 21 "LastSeen$Names" "decreeA" "[I" ∈ lw_ok := lw_up_1 (List.mem_of_getElem? (i := 61) rfl) rfl
theorem wf_Na_decreeB : Cond.fieldLink "LastSeen$Names" 24 "LastSeen$Names" "decreeB" "[I" ∈ lw_ok := lw_up_1 (List.mem_of_getElem? (i := 62) rfl) rfl
theorem wf_Na_decreeBond : Cond.fieldLink "LastSeen$Names" 27 "LastSeen$Names" "decreeBond" "[I" ∈ lw_ok := lw_up_1 (List.mem_of_getElem? (i := 63) rfl) rfl
theorem wf_Na_decreedAt : Cond.fieldLink "LastSeen$Names" 30 "LastSeen$Names" "decreedAt" "[I" ∈ lw_ok := lw_up_1 (List.mem_of_getElem? (i := 64) rfl) rfl
theorem wf_Na_decrees : Cond.fieldLink "LastSeen$Names" 86 "LastSeen$Names" "decrees" "I" ∈ lw_ok := lw_up_1 (List.mem_of_getElem? (i := 65) rfl) rfl
theorem wf_Na_enteredAt : Cond.fieldLink "LastSeen$Names" 18 "LastSeen$Names" "enteredAt" "[I" ∈ lw_ok := lw_up_1 (List.mem_of_getElem? (i := 59) rfl) rfl
theorem wf_Na_keySizes : Cond.fieldLink "LastSeen$Names" 15 "LastSeen$Names" "keySizes" "[I" ∈ lw_ok := lw_up_1 (List.mem_of_getElem? (i := 58) rfl) rfl
theorem wf_Na_letters : Cond.fieldLink "LastSeen$Names" 11 "LastSeen$Names" "letters" "[I" ∈ lw_ok := lw_up_1 (List.mem_of_getElem? (i := 57) rfl) rfl
theorem wf_Na_persons : Cond.fieldLink "LastSeen$Names" 36 "LastSeen$Names" "persons" "[I" ∈ lw_ok := lw_up_1 (List.mem_of_getElem? (i := 67) rfl) rfl
theorem wf_Na_row : Cond.fieldLink "LastSeen$Names" 39 "LastSeen$Names" "row" "[I" ∈ lw_ok := lw_up_1 (List.mem_of_getElem? (i := 69) rfl) rfl
theorem wf_Na_size : Cond.fieldLink "LastSeen$Names" 48 "LastSeen$Names" "size" "I" ∈ lw_ok := lw_up_1 (List.mem_of_getElem? (i := 60) rfl) rfl
theorem wf_Na_sizeBy : Cond.fieldLink "LastSeen$Names" 89 "LastSeen$Names" "sizeBy" "I" ∈ lw_ok := lw_up_1 (List.mem_of_getElem? (i := 68) rfl) rfl
theorem wf_Na_spelled : Cond.fieldLink "LastSeen$Names" 45 "LastSeen$Names" "spelled" "[I" ∈ lw_ok := lw_up_1 (List.mem_of_getElem? (i := 71) rfl) rfl
theorem wf_Na_steps : Cond.fieldLink "LastSeen$Names" 42 "LastSeen$Names" "steps" "[I" ∈ lw_ok := lw_up_1 (List.mem_of_getElem? (i := 70) rfl) rfl
theorem wf_Ru_anyRow : Cond.fieldLink "LastSeen$Rules" 25 "LastSeen$Rules" "anyRow" "[Z" ∈ lw_ok := lw_up_2 (List.mem_of_getElem? (i := 0) rfl) rfl
theorem wf_Ru_clauseCounts : Cond.fieldLink "LastSeen$Rules" 19 "LastSeen$Rules" "clauseCounts" "[I" ∈ lw_ok := lw_up_1 (List.mem_of_getElem? (i := 232) rfl) rfl
theorem wf_Ru_clauses : Cond.fieldLink "LastSeen$Rules" 42 "LastSeen$Rules" "clauses" "I" ∈ lw_ok := lw_up_1 (List.mem_of_getElem? (i := 236) rfl) rfl
theorem wf_Ru_cursor : Cond.fieldLink "LastSeen$Rules" 94 "LastSeen$Rules" "cursor" "I" ∈ lw_ok := lw_up_1 (List.mem_of_getElem? (i := 239) rfl) rfl
theorem wf_Ru_depth : Cond.fieldLink "LastSeen$Rules" 39 "LastSeen$Rules" "depth" "I" ∈ lw_ok := lw_up_1 (List.mem_of_getElem? (i := 235) rfl) rfl
theorem wf_Ru_digits : Cond.fieldLink "LastSeen$Rules" 84 "LastSeen$Rules" "digits" "I" ∈ lw_ok := lw_up_1 (List.mem_of_getElem? (i := 237) rfl) rfl
theorem wf_Ru_enteredAt : Cond.fieldLink "LastSeen$Rules" 22 "LastSeen$Rules" "enteredAt" "[I" ∈ lw_ok := lw_up_1 (List.mem_of_getElem? (i := 233) rfl) rfl
theorem wf_Ru_size : Cond.fieldLink "LastSeen$Rules" 35 "LastSeen$Rules" "size" "I" ∈ lw_ok := lw_up_1 (List.mem_of_getElem? (i := 234) rfl) rfl
theorem wf_Ru_sizes : Cond.fieldLink "LastSeen$Rules" 15 "LastSeen$Rules" "sizes" "[I" ∈ lw_ok := lw_up_1 (List.mem_of_getElem? (i := 231) rfl) rfl
theorem wf_Ru_startsWithZero : Cond.fieldLink "LastSeen$Rules" 87 "LastSeen$Rules" "startsWithZero" "Z" ∈ lw_ok := lw_up_1 (List.mem_of_getElem? (i := 238) rfl) rfl
theorem wf_Ru_texts : Cond.fieldLink "LastSeen$Rules" 11 "LastSeen$Rules" "texts" "[B" ∈ lw_ok := lw_up_1 (List.mem_of_getElem? (i := 230) rfl) rfl
theorem wf_Ru_thisRow : Cond.fieldLink "LastSeen$Rules" 29 "LastSeen$Rules" "thisRow" "[Z" ∈ lw_ok := lw_up_2 (List.mem_of_getElem? (i := 1) rfl) rfl
theorem wf_Ru_turned : Cond.fieldLink "LastSeen$Rules" 32 "LastSeen$Rules" "turned" "[Z" ∈ lw_ok := lw_up_2 (List.mem_of_getElem? (i := 2) rfl) rfl
theorem wf_Ta_bytes : Cond.fieldLink "LastSeen$Tape" 9 "LastSeen$Tape" "bytes" "[B" ∈ lw_ok := lw_up_1 (List.mem_of_getElem? (i := 43) rfl) rfl
theorem wf_Ta_size : Cond.fieldLink "LastSeen$Tape" 13 "LastSeen$Tape" "size" "I" ∈ lw_ok := lw_up_1 (List.mem_of_getElem? (i := 44) rfl) rfl
theorem wf_Wa_first : Cond.fieldLink "LastSeen$Walk" 15 "LastSeen$Walk" "first" "[I" ∈ lw_ok := lw_up_1 (List.mem_of_getElem? (i := 154) rfl) rfl
theorem wf_Wa_land : Cond.fieldLink "LastSeen$Walk" 27 "LastSeen$Walk" "land" "LLastSeen$Land;" ∈ lw_ok := lw_up_1 (List.mem_of_getElem? (i := 152) rfl) rfl
theorem wf_Wa_last : Cond.fieldLink "LastSeen$Walk" 18 "LastSeen$Walk" "last" "[I" ∈ lw_ok := lw_up_1 (List.mem_of_getElem? (i := 155) rfl) rfl
theorem wf_Wa_places : Cond.fieldLink "LastSeen$Walk" 11 "LastSeen$Walk" "places" "[I" ∈ lw_ok := lw_up_1 (List.mem_of_getElem? (i := 153) rfl) rfl
theorem wf_Wa_reach : Cond.fieldLink "LastSeen$Walk" 24 "LastSeen$Walk" "reach" "[I" ∈ lw_ok := lw_up_1 (List.mem_of_getElem? (i := 158) rfl) rfl
theorem wf_Wa_size : Cond.fieldLink "LastSeen$Walk" 31 "LastSeen$Walk" "size" "I" ∈ lw_ok := lw_up_1 (List.mem_of_getElem? (i := 156) rfl) rfl
theorem wf_Wa_soonest : Cond.fieldLink "LastSeen$Walk" 21 "LastSeen$Walk" "soonest" "[I" ∈ lw_ok := lw_up_1 (List.mem_of_getElem? (i := 157) rfl) rfl
theorem wf_Wo_droppedAt : Cond.fieldLink "LastSeen$Words" 36 "LastSeen$Words" "droppedAt" "[I" ∈ lw_ok := lw_up_1 (List.mem_of_getElem? (i := 117) rfl) rfl
theorem wf_Wo_enteredAt : Cond.fieldLink "LastSeen$Words" 33 "LastSeen$Words" "enteredAt" "[I" ∈ lw_ok := lw_up_1 (List.mem_of_getElem? (i := 116) rfl) rfl
theorem wf_Wo_first : Cond.fieldLink "LastSeen$Words" 21 "LastSeen$Words" "first" "[I" ∈ lw_ok := lw_up_1 (List.mem_of_getElem? (i := 112) rfl) rfl
theorem wf_Wo_heardOf : Cond.fieldLink "LastSeen$Words" 27 "LastSeen$Words" "heardOf" "[I" ∈ lw_ok := lw_up_1 (List.mem_of_getElem? (i := 114) rfl) rfl
theorem wf_Wo_last : Cond.fieldLink "LastSeen$Words" 24 "LastSeen$Words" "last" "[I" ∈ lw_ok := lw_up_1 (List.mem_of_getElem? (i := 113) rfl) rfl
theorem wf_Wo_names : Cond.fieldLink "LastSeen$Words" 15 "LastSeen$Words" "names" "[I" ∈ lw_ok := lw_up_1 (List.mem_of_getElem? (i := 110) rfl) rfl
theorem wf_Wo_places : Cond.fieldLink "LastSeen$Words" 18 "LastSeen$Words" "places" "[I" ∈ lw_ok := lw_up_1 (List.mem_of_getElem? (i := 111) rfl) rfl
theorem wf_Wo_roots : Cond.fieldLink "LastSeen$Words" 30 "LastSeen$Words" "roots" "[I" ∈ lw_ok := lw_up_1 (List.mem_of_getElem? (i := 115) rfl) rfl
theorem wf_Wo_size : Cond.fieldLink "LastSeen$Words" 43 "LastSeen$Words" "size" "I" ∈ lw_ok := lw_up_1 (List.mem_of_getElem? (i := 118) rfl) rfl
theorem wf_Wo_standing : Cond.fieldLink "LastSeen$Words" 39 "LastSeen$Words" "standing" "[Z" ∈ lw_ok := lw_up_1 (List.mem_of_getElem? (i := 119) rfl) rfl
theorem wf_Wo_witness : Cond.fieldLink "LastSeen$Words" 11 "LastSeen$Words" "witness" "[I" ∈ lw_ok := lw_up_1 (List.mem_of_getElem? (i := 109) rfl) rfl
theorem wf_Md_at : Cond.fieldLink "LastSeenModel" 321 "LastSeenModel" "at" "I" ∈ lw_ok := lw_up_6 (List.mem_of_getElem? (i := 13) rfl) rfl
theorem wf_Md_boneMany : Cond.fieldLink "LastSeenModel" 126 "LastSeenModel" "boneMany" "[I" ∈ lw_ok := lw_up_6 (List.mem_of_getElem? (i := 22) rfl) rfl
theorem wf_Md_boneSize : Cond.fieldLink "LastSeenModel" 129 "LastSeenModel" "boneSize" "[I" ∈ lw_ok := lw_up_6 (List.mem_of_getElem? (i := 23) rfl) rfl
theorem wf_Md_bound : Cond.fieldLink "LastSeenModel" 132 "LastSeenModel" "bound" "I" ∈ lw_ok := lw_up_6 (List.mem_of_getElem? (i := 24) rfl) rfl
theorem wf_Md_clauseDigit : Cond.fieldLink "LastSeenModel" 102 "LastSeenModel" "clauseDigit" "[I" ∈ lw_ok := lw_up_6 (List.mem_of_getElem? (i := 8) rfl) rfl
theorem wf_Md_clauseEnd : Cond.fieldLink "LastSeenModel" 99 "LastSeenModel" "clauseEnd" "[I" ∈ lw_ok := lw_up_6 (List.mem_of_getElem? (i := 7) rfl) rfl
theorem wf_Md_clauses : Cond.fieldLink "LastSeenModel" 105 "LastSeenModel" "clauses" "[I" ∈ lw_ok := lw_up_6 (List.mem_of_getElem? (i := 9) rfl) rfl
theorem wf_Md_code : Cond.fieldLink "LastSeenModel" 96 "LastSeenModel" "code" "[I" ∈ lw_ok := lw_up_6 (List.mem_of_getElem? (i := 6) rfl) rfl
theorem wf_Md_deep : Cond.fieldLink "LastSeenModel" 339 "LastSeenModel" "deep" "I" ∈ lw_ok := lw_up_6 (List.mem_of_getElem? (i := 15) rfl) rfl
theorem wf_Md_earliest : Cond.fieldLink "LastSeenModel" 84 "LastSeenModel" "earliest" "[I" ∈ lw_ok := lw_up_6 (List.mem_of_getElem? (i := 1) rfl) rfl
theorem wf_Md_elseDigit : Cond.fieldLink "LastSeenModel" 108 "LastSeenModel" "elseDigit" "[I" ∈ lw_ok := lw_up_6 (List.mem_of_getElem? (i := 10) rfl) rfl
theorem wf_Md_entries : Cond.fieldLink "LastSeenModel" 198 "LastSeenModel" "entries" "I" ∈ lw_ok := lw_up_5 (List.mem_of_getElem? (i := 212) rfl) rfl
theorem wf_Md_entryA : Cond.fieldLink "LastSeenModel" 16 "LastSeenModel" "entryA" "[I" ∈ lw_ok := lw_up_5 (List.mem_of_getElem? (i := 210) rfl) rfl
theorem wf_Md_entryB : Cond.fieldLink "LastSeenModel" 19 "LastSeenModel" "entryB" "[I" ∈ lw_ok := lw_up_5 (List.mem_of_getElem? (i := 211) rfl) rfl
theorem wf_Md_entryIs : Cond.fieldLink "LastSeenModel" 13 "LastSeenModel" "entryIs" "[I" ∈ lw_ok := lw_up_5 (List.mem_of_getElem? (i := 209) rfl) rfl
theorem wf_Md_fact : Cond.fieldLink "LastSeenModel" 114 "LastSeenModel" "fact" "[I" ∈ lw_ok := lw_up_6 (List.mem_of_getElem? (i := 17) rfl) rfl
theorem wf_Md_far : Cond.fieldLink "LastSeenModel" 7 "LastSeenModel" "far" "[I" ∈ lw_ok := lw_up_5 (List.mem_of_getElem? (i := 207) rfl) rfl
theorem wf_Md_findings : Cond.fieldLink "LastSeenModel" 383 "LastSeenModel" "findings" "I" ∈ lw_ok := lw_up_6 (List.mem_of_getElem? (i := 21) rfl) rfl
theorem wf_Md_first : Cond.fieldLink "LastSeenModel" 68 "LastSeenModel" "first" "[I" ∈ lw_ok := lw_up_5 (List.mem_of_getElem? (i := 234) rfl) rfl
theorem wf_Md_first1 : Cond.fieldLink "LastSeenModel" 169 "LastSeenModel" "first1" "[I" ∈ lw_ok := lw_up_6 (List.mem_of_getElem? (i := 39) rfl) rfl
theorem wf_Md_foundBy : Cond.fieldLink "LastSeenModel" 120 "LastSeenModel" "foundBy" "[I" ∈ lw_ok := lw_up_6 (List.mem_of_getElem? (i := 19) rfl) rfl
theorem wf_Md_foundDigit : Cond.fieldLink "LastSeenModel" 123 "LastSeenModel" "foundDigit" "[I" ∈ lw_ok := lw_up_6 (List.mem_of_getElem? (i := 20) rfl) rfl
theorem wf_Md_foundName : Cond.fieldLink "LastSeenModel" 117 "LastSeenModel" "foundName" "[I" ∈ lw_ok := lw_up_6 (List.mem_of_getElem? (i := 18) rfl) rfl
theorem wf_Md_given : Cond.fieldLink "LastSeenModel" 151 "LastSeenModel" "given" "[I" ∈ lw_ok := lw_up_6 (List.mem_of_getElem? (i := 30) rfl) rfl
theorem wf_Md_givenAt : Cond.fieldLink "LastSeenModel" 154 "LastSeenModel" "givenAt" "[I" ∈ lw_ok := lw_up_6 (List.mem_of_getElem? (i := 31) rfl) rfl
theorem wf_Md_giving : Cond.fieldLink "LastSeenModel" 442 "LastSeenModel" "giving" "I" ∈ lw_ok := lw_up_6 (List.mem_of_getElem? (i := 38) rfl) rfl
theorem wf_Md_had : Cond.fieldLink "LastSeenModel" 163 "LastSeenModel" "had" "[I" ∈ lw_ok := lw_up_6 (List.mem_of_getElem? (i := 34) rfl) rfl
theorem wf_Md_hadNot : Cond.fieldLink "LastSeenModel" 166 "LastSeenModel" "hadNot" "[I" ∈ lw_ok := lw_up_6 (List.mem_of_getElem? (i := 35) rfl) rfl
theorem wf_Md_has : Cond.fieldLink "LastSeenModel" 145 "LastSeenModel" "has" "[I" ∈ lw_ok := lw_up_6 (List.mem_of_getElem? (i := 28) rfl) rfl
theorem wf_Md_hasNot : Cond.fieldLink "LastSeenModel" 148 "LastSeenModel" "hasNot" "[I" ∈ lw_ok := lw_up_6 (List.mem_of_getElem? (i := 29) rfl) rfl
theorem wf_Md_heardOf : Cond.fieldLink "LastSeenModel" 74 "LastSeenModel" "heardOf" "[I" ∈ lw_ok := lw_up_5 (List.mem_of_getElem? (i := 236) rfl) rfl
theorem wf_Md_height : Cond.fieldLink "LastSeenModel" 160 "LastSeenModel" "height" "[I" ∈ lw_ok := lw_up_6 (List.mem_of_getElem? (i := 33) rfl) rfl
theorem wf_Md_high : Cond.fieldLink "LastSeenModel" 142 "LastSeenModel" "high" "[I" ∈ lw_ok := lw_up_6 (List.mem_of_getElem? (i := 27) rfl) rfl
theorem wf_Md_isGone : Cond.fieldLink "LastSeenModel" 41 "LastSeenModel" "isGone" "[Z" ∈ lw_ok := lw_up_5 (List.mem_of_getElem? (i := 225) rfl) rfl
theorem wf_Md_isLinked : Cond.fieldLink "LastSeenModel" 34 "LastSeenModel" "isLinked" "[Z" ∈ lw_ok := lw_up_5 (List.mem_of_getElem? (i := 223) rfl) rfl
theorem wf_Md_isParted : Cond.fieldLink "LastSeenModel" 38 "LastSeenModel" "isParted" "[Z" ∈ lw_ok := lw_up_5 (List.mem_of_getElem? (i := 224) rfl) rfl
theorem wf_Md_itemFirst : Cond.fieldLink "LastSeenModel" 90 "LastSeenModel" "itemFirst" "[I" ∈ lw_ok := lw_up_6 (List.mem_of_getElem? (i := 3) rfl) rfl
theorem wf_Md_itemLast : Cond.fieldLink "LastSeenModel" 93 "LastSeenModel" "itemLast" "[I" ∈ lw_ok := lw_up_6 (List.mem_of_getElem? (i := 4) rfl) rfl
theorem wf_Md_itemPlaces : Cond.fieldLink "LastSeenModel" 87 "LastSeenModel" "itemPlaces" "[I" ∈ lw_ok := lw_up_6 (List.mem_of_getElem? (i := 2) rfl) rfl
theorem wf_Md_items : Cond.fieldLink "LastSeenModel" 299 "LastSeenModel" "items" "I" ∈ lw_ok := lw_up_6 (List.mem_of_getElem? (i := 5) rfl) rfl
theorem wf_Md_key : Cond.fieldLink "LastSeenModel" 25 "LastSeenModel" "key" "[I" ∈ lw_ok := lw_up_5 (List.mem_of_getElem? (i := 214) rfl) rfl
theorem wf_Md_keySize : Cond.fieldLink "LastSeenModel" 28 "LastSeenModel" "keySize" "[I" ∈ lw_ok := lw_up_5 (List.mem_of_getElem? (i := 215) rfl) rfl
theorem wf_Md_last : Cond.fieldLink "LastSeenModel" 71 "LastSeenModel" "last" "[I" ∈ lw_ok := lw_up_5 (List.mem_of_getElem? (i := 235) rfl) rfl
theorem wf_Md_low : Cond.fieldLink "LastSeenModel" 139 "LastSeenModel" "low" "[I" ∈ lw_ok := lw_up_6 (List.mem_of_getElem? (i := 26) rfl) rfl
theorem wf_Md_missed : Cond.fieldLink "LastSeenModel" 411 "LastSeenModel" "missed" "I" ∈ lw_ok := lw_up_6 (List.mem_of_getElem? (i := 37) rfl) rfl
theorem wf_Md_missing : Cond.fieldLink "LastSeenModel" 157 "LastSeenModel" "missing" "[I" ∈ lw_ok := lw_up_6 (List.mem_of_getElem? (i := 32) rfl) rfl
theorem wf_Md_names : Cond.fieldLink "LastSeenModel" 179 "LastSeenModel" "names" "I" ∈ lw_ok := lw_up_5 (List.mem_of_getElem? (i := 217) rfl) rfl
theorem wf_Md_ofName : Cond.fieldLink "LastSeenModel" 62 "LastSeenModel" "ofName" "[I" ∈ lw_ok := lw_up_5 (List.mem_of_getElem? (i := 232) rfl) rfl
theorem wf_Md_person : Cond.fieldLink "LastSeenModel" 50 "LastSeenModel" "person" "[I" ∈ lw_ok := lw_up_5 (List.mem_of_getElem? (i := 228) rfl) rfl
theorem wf_Md_places : Cond.fieldLink "LastSeenModel" 65 "LastSeenModel" "places" "[I" ∈ lw_ok := lw_up_5 (List.mem_of_getElem? (i := 233) rfl) rfl
theorem wf_Md_roads : Cond.fieldLink "LastSeenModel" 195 "LastSeenModel" "roads" "I" ∈ lw_ok := lw_up_5 (List.mem_of_getElem? (i := 208) rfl) rfl
theorem wf_Md_root : Cond.fieldLink "LastSeenModel" 80 "LastSeenModel" "root" "[I" ∈ lw_ok := lw_up_5 (List.mem_of_getElem? (i := 239) rfl) rfl
theorem wf_Md_rootOf : Cond.fieldLink "LastSeenModel" 77 "LastSeenModel" "rootOf" "[I" ∈ lw_ok := lw_up_5 (List.mem_of_getElem? (i := 237) rfl) rfl
theorem wf_Md_roots : Cond.fieldLink "LastSeenModel" 287 "LastSeenModel" "roots" "I" ∈ lw_ok := lw_up_6 (List.mem_of_getElem? (i := 0) rfl) rfl
theorem wf_Md_rules : Cond.fieldLink "LastSeenModel" 324 "LastSeenModel" "rules" "I" ∈ lw_ok := lw_up_6 (List.mem_of_getElem? (i := 12) rfl) rfl
theorem wf_Md_seenNames : Cond.fieldLink "LastSeenModel" 244 "LastSeenModel" "seenNames" "I" ∈ lw_ok := lw_up_5 (List.mem_of_getElem? (i := 220) rfl) rfl
theorem wf_Md_seenRule : Cond.fieldLink "LastSeenModel" 250 "LastSeenModel" "seenRule" "I" ∈ lw_ok := lw_up_5 (List.mem_of_getElem? (i := 222) rfl) rfl
theorem wf_Md_seenWords : Cond.fieldLink "LastSeenModel" 247 "LastSeenModel" "seenWords" "I" ∈ lw_ok := lw_up_5 (List.mem_of_getElem? (i := 221) rfl) rfl
theorem wf_Md_setGrave : Cond.fieldLink "LastSeenModel" 136 "LastSeenModel" "setGrave" "[I" ∈ lw_ok := lw_up_6 (List.mem_of_getElem? (i := 25) rfl) rfl
theorem wf_Md_sets : Cond.fieldLink "LastSeenModel" 401 "LastSeenModel" "sets" "I" ∈ lw_ok := lw_up_6 (List.mem_of_getElem? (i := 36) rfl) rfl
theorem wf_Md_spelled : Cond.fieldLink "LastSeenModel" 31 "LastSeenModel" "spelled" "[I" ∈ lw_ok := lw_up_5 (List.mem_of_getElem? (i := 218) rfl) rfl
theorem wf_Md_spelledSize : Cond.fieldLink "LastSeenModel" 210 "LastSeenModel" "spelledSize" "I" ∈ lw_ok := lw_up_5 (List.mem_of_getElem? (i := 219) rfl) rfl
theorem wf_Md_stack : Cond.fieldLink "LastSeenModel" 111 "LastSeenModel" "stack" "[I" ∈ lw_ok := lw_up_6 (List.mem_of_getElem? (i := 11) rfl) rfl
theorem wf_Md_stands : Cond.fieldLink "LastSeenModel" 44 "LastSeenModel" "stands" "[Z" ∈ lw_ok := lw_up_5 (List.mem_of_getElem? (i := 226) rfl) rfl
theorem wf_Md_standsNow : Cond.fieldLink "LastSeenModel" 47 "LastSeenModel" "standsNow" "[Z" ∈ lw_ok := lw_up_5 (List.mem_of_getElem? (i := 227) rfl) rfl
theorem wf_Md_steps : Cond.fieldLink "LastSeenModel" 53 "LastSeenModel" "steps" "[I" ∈ lw_ok := lw_up_5 (List.mem_of_getElem? (i := 229) rfl) rfl
theorem wf_Md_tape : Cond.fieldLink "LastSeenModel" 22 "LastSeenModel" "tape" "[I" ∈ lw_ok := lw_up_5 (List.mem_of_getElem? (i := 213) rfl) rfl
theorem wf_Md_taped : Cond.fieldLink "LastSeenModel" 205 "LastSeenModel" "taped" "I" ∈ lw_ok := lw_up_5 (List.mem_of_getElem? (i := 216) rfl) rfl
theorem wf_Md_top : Cond.fieldLink "LastSeenModel" 330 "LastSeenModel" "top" "I" ∈ lw_ok := lw_up_6 (List.mem_of_getElem? (i := 16) rfl) rfl
theorem wf_Md_way : Cond.fieldLink "LastSeenModel" 56 "LastSeenModel" "way" "[I" ∈ lw_ok := lw_up_5 (List.mem_of_getElem? (i := 230) rfl) rfl
theorem wf_Md_ways : Cond.fieldLink "LastSeenModel" 172 "LastSeenModel" "ways" "[I" ∈ lw_ok := lw_up_6 (List.mem_of_getElem? (i := 40) rfl) rfl
theorem wf_Md_waysBefore : Cond.fieldLink "LastSeenModel" 175 "LastSeenModel" "waysBefore" "[I" ∈ lw_ok := lw_up_6 (List.mem_of_getElem? (i := 41) rfl) rfl
theorem wf_Md_witness : Cond.fieldLink "LastSeenModel" 59 "LastSeenModel" "witness" "[I" ∈ lw_ok := lw_up_5 (List.mem_of_getElem? (i := 231) rfl) rfl
theorem wf_Md_words : Cond.fieldLink "LastSeenModel" 182 "LastSeenModel" "words" "I" ∈ lw_ok := lw_up_5 (List.mem_of_getElem? (i := 238) rfl) rfl
theorem wf_Md_written : Cond.fieldLink "LastSeenModel" 327 "LastSeenModel" "written" "I" ∈ lw_ok := lw_up_6 (List.mem_of_getElem? (i := 14) rfl) rfl
theorem wd_static_max : Cond.static Lib.Math.max.name ∈ lw_ok := lw_up_3 (List.mem_of_getElem? (i := 102) rfl) rfl
theorem wd_code_max : Cond.code Lib.Math.max.name Lib.Math.max.code 2 (some .int) ∈ lw_ok := lw_up_3 (List.mem_of_getElem? (i := 103) rfl) rfl
theorem wd_static_min : Cond.static Lib.Math.min.name ∈ lw_ok := lw_up_2 (List.mem_of_getElem? (i := 170) rfl) rfl
theorem wd_code_min : Cond.code Lib.Math.min.name Lib.Math.min.code 2 (some .int) ∈ lw_ok := lw_up_2 (List.mem_of_getElem? (i := 171) rfl) rfl
theorem wd_init_Math : Cond.initialized "java/lang/Math" ∈ lw_ok := lw_up_1 (List.mem_of_getElem? (i := 12) rfl) rfl
theorem hh_LS_road : y_LS_road.cls ≠ "java/lang/invoke/MethodHandle" ∧ y_LS_road.cls ≠ "java/lang/invoke/VarHandle" ∧ (parseMethodDescriptor y_LS_road.desc).map (fun d => d.parameters.length) = some 3 := by decide +kernel
theorem hh_LS_far : y_LS_far.cls ≠ "java/lang/invoke/MethodHandle" ∧ y_LS_far.cls ≠ "java/lang/invoke/VarHandle" ∧ (parseMethodDescriptor y_LS_far.desc).map (fun d => d.parameters.length) = some 2 := by decide +kernel
theorem hh_LS_feed : y_LS_feed.cls ≠ "java/lang/invoke/MethodHandle" ∧ y_LS_feed.cls ≠ "java/lang/invoke/VarHandle" ∧ (parseMethodDescriptor y_LS_feed.desc).map (fun d => d.parameters.length) = some 2 := by decide +kernel
theorem hh_LS_name : y_LS_name.cls ≠ "java/lang/invoke/MethodHandle" ∧ y_LS_name.cls ≠ "java/lang/invoke/VarHandle" ∧ (parseMethodDescriptor y_LS_name.desc).map (fun d => d.parameters.length) = some 0 := by decide +kernel
theorem hh_LS_key : y_LS_key.cls ≠ "java/lang/invoke/MethodHandle" ∧ y_LS_key.cls ≠ "java/lang/invoke/VarHandle" ∧ (parseMethodDescriptor y_LS_key.desc).map (fun d => d.parameters.length) = some 2 := by decide +kernel
theorem hh_LS_join : y_LS_join.cls ≠ "java/lang/invoke/MethodHandle" ∧ y_LS_join.cls ≠ "java/lang/invoke/VarHandle" ∧ (parseMethodDescriptor y_LS_join.desc).map (fun d => d.parameters.length) = some 2 := by decide +kernel
theorem hh_LS_part : y_LS_part.cls ≠ "java/lang/invoke/MethodHandle" ∧ y_LS_part.cls ≠ "java/lang/invoke/VarHandle" ∧ (parseMethodDescriptor y_LS_part.desc).map (fun d => d.parameters.length) = some 2 := by decide +kernel
theorem hh_LS_link : y_LS_link.cls ≠ "java/lang/invoke/MethodHandle" ∧ y_LS_link.cls ≠ "java/lang/invoke/VarHandle" ∧ (parseMethodDescriptor y_LS_link.desc).map (fun d => d.parameters.length) = some 3 := by decide +kernel
theorem hh_LS_person : y_LS_person.cls ≠ "java/lang/invoke/MethodHandle" ∧ y_LS_person.cls ≠ "java/lang/invoke/VarHandle" ∧ (parseMethodDescriptor y_LS_person.desc).map (fun d => d.parameters.length) = some 2 := by decide +kernel
theorem hh_LS_tie : y_LS_tie.cls ≠ "java/lang/invoke/MethodHandle" ∧ y_LS_tie.cls ≠ "java/lang/invoke/VarHandle" ∧ (parseMethodDescriptor y_LS_tie.desc).map (fun d => d.parameters.length) = some 3 := by decide +kernel
theorem hh_LS_word : y_LS_word.cls ≠ "java/lang/invoke/MethodHandle" ∧ y_LS_word.cls ≠ "java/lang/invoke/VarHandle" ∧ (parseMethodDescriptor y_LS_word.desc).map (fun d => d.parameters.length) = some 6 := by decide +kernel
theorem hh_LS_withdraw : y_LS_withdraw.cls ≠ "java/lang/invoke/MethodHandle" ∧ y_LS_withdraw.cls ≠ "java/lang/invoke/VarHandle" ∧ (parseMethodDescriptor y_LS_withdraw.desc).map (fun d => d.parameters.length) = some 1 := by decide +kernel
theorem hh_LS_about : y_LS_about.cls ≠ "java/lang/invoke/MethodHandle" ∧ y_LS_about.cls ≠ "java/lang/invoke/VarHandle" ∧ (parseMethodDescriptor y_LS_about.desc).map (fun d => d.parameters.length) = some 3 := by decide +kernel
theorem hh_LS_root : y_LS_root.cls ≠ "java/lang/invoke/MethodHandle" ∧ y_LS_root.cls ≠ "java/lang/invoke/VarHandle" ∧ (parseMethodDescriptor y_LS_root.desc).map (fun d => d.parameters.length) = some 3 := by decide +kernel
theorem hh_LS_eyes : y_LS_eyes.cls ≠ "java/lang/invoke/MethodHandle" ∧ y_LS_eyes.cls ≠ "java/lang/invoke/VarHandle" ∧ (parseMethodDescriptor y_LS_eyes.desc).map (fun d => d.parameters.length) = some 2 := by decide +kernel
theorem hh_LS_can : y_LS_can.cls ≠ "java/lang/invoke/MethodHandle" ∧ y_LS_can.cls ≠ "java/lang/invoke/VarHandle" ∧ (parseMethodDescriptor y_LS_can.desc).map (fun d => d.parameters.length) = some 2 := by decide +kernel
theorem hh_LS_quarrel : y_LS_quarrel.cls ≠ "java/lang/invoke/MethodHandle" ∧ y_LS_quarrel.cls ≠ "java/lang/invoke/VarHandle" ∧ (parseMethodDescriptor y_LS_quarrel.desc).map (fun d => d.parameters.length) = some 3 := by decide +kernel
theorem hh_LS_could : y_LS_could.cls ≠ "java/lang/invoke/MethodHandle" ∧ y_LS_could.cls ≠ "java/lang/invoke/VarHandle" ∧ (parseMethodDescriptor y_LS_could.desc).map (fun d => d.parameters.length) = some 4 := by decide +kernel
theorem hh_LS_last : y_LS_last.cls ≠ "java/lang/invoke/MethodHandle" ∧ y_LS_last.cls ≠ "java/lang/invoke/VarHandle" ∧ (parseMethodDescriptor y_LS_last.desc).map (fun d => d.parameters.length) = some 2 := by decide +kernel
theorem hh_LS_rule : y_LS_rule.cls ≠ "java/lang/invoke/MethodHandle" ∧ y_LS_rule.cls ≠ "java/lang/invoke/VarHandle" ∧ (parseMethodDescriptor y_LS_rule.desc).map (fun d => d.parameters.length) = some 0 := by decide +kernel
theorem hh_LS_finding : y_LS_finding.cls ≠ "java/lang/invoke/MethodHandle" ∧ y_LS_finding.cls ≠ "java/lang/invoke/VarHandle" ∧ (parseMethodDescriptor y_LS_finding.desc).map (fun d => d.parameters.length) = some 2 := by decide +kernel
theorem hh_LS_find : y_LS_find.cls ≠ "java/lang/invoke/MethodHandle" ∧ y_LS_find.cls ≠ "java/lang/invoke/VarHandle" ∧ (parseMethodDescriptor y_LS_find.desc).map (fun d => d.parameters.length) = some 1 := by decide +kernel
theorem hh_LS_found : y_LS_found.cls ≠ "java/lang/invoke/MethodHandle" ∧ y_LS_found.cls ≠ "java/lang/invoke/VarHandle" ∧ (parseMethodDescriptor y_LS_found.desc).map (fun d => d.parameters.length) = some 2 := by decide +kernel
theorem hh_LS_bone : y_LS_bone.cls ≠ "java/lang/invoke/MethodHandle" ∧ y_LS_bone.cls ≠ "java/lang/invoke/VarHandle" ∧ (parseMethodDescriptor y_LS_bone.desc).map (fun d => d.parameters.length) = some 4 := by decide +kernel
theorem hh_LS_bound : y_LS_bound.cls ≠ "java/lang/invoke/MethodHandle" ∧ y_LS_bound.cls ≠ "java/lang/invoke/VarHandle" ∧ (parseMethodDescriptor y_LS_bound.desc).map (fun d => d.parameters.length) = some 1 := by decide +kernel
theorem hh_LS_least : y_LS_least.cls ≠ "java/lang/invoke/MethodHandle" ∧ y_LS_least.cls ≠ "java/lang/invoke/VarHandle" ∧ (parseMethodDescriptor y_LS_least.desc).map (fun d => d.parameters.length) = some 1 := by decide +kernel
theorem hh_LS_set : y_LS_set.cls ≠ "java/lang/invoke/MethodHandle" ∧ y_LS_set.cls ≠ "java/lang/invoke/VarHandle" ∧ (parseMethodDescriptor y_LS_set.desc).map (fun d => d.parameters.length) = some 5 := by decide +kernel
theorem hh_LS_missing : y_LS_missing.cls ≠ "java/lang/invoke/MethodHandle" ∧ y_LS_missing.cls ≠ "java/lang/invoke/VarHandle" ∧ (parseMethodDescriptor y_LS_missing.desc).map (fun d => d.parameters.length) = some 4 := by decide +kernel
theorem hh_LS_fit : y_LS_fit.cls ≠ "java/lang/invoke/MethodHandle" ∧ y_LS_fit.cls ≠ "java/lang/invoke/VarHandle" ∧ (parseMethodDescriptor y_LS_fit.desc).map (fun d => d.parameters.length) = some 2 := by decide +kernel
theorem hh_LS_namings : y_LS_namings.cls ≠ "java/lang/invoke/MethodHandle" ∧ y_LS_namings.cls ≠ "java/lang/invoke/VarHandle" ∧ (parseMethodDescriptor y_LS_namings.desc).map (fun d => d.parameters.length) = some 1 := by decide +kernel
theorem hh_LS_only : y_LS_only.cls ≠ "java/lang/invoke/MethodHandle" ∧ y_LS_only.cls ≠ "java/lang/invoke/VarHandle" ∧ (parseMethodDescriptor y_LS_only.desc).map (fun d => d.parameters.length) = some 2 := by decide +kernel
theorem hh_LS_why : y_LS_why.cls ≠ "java/lang/invoke/MethodHandle" ∧ y_LS_why.cls ≠ "java/lang/invoke/VarHandle" ∧ (parseMethodDescriptor y_LS_why.desc).map (fun d => d.parameters.length) = some 1 := by decide +kernel
theorem hh_LS_give : y_LS_give.cls ≠ "java/lang/invoke/MethodHandle" ∧ y_LS_give.cls ≠ "java/lang/invoke/VarHandle" ∧ (parseMethodDescriptor y_LS_give.desc).map (fun d => d.parameters.length) = some 1 := by decide +kernel
theorem hh_LS_take : y_LS_take.cls ≠ "java/lang/invoke/MethodHandle" ∧ y_LS_take.cls ≠ "java/lang/invoke/VarHandle" ∧ (parseMethodDescriptor y_LS_take.desc).map (fun d => d.parameters.length) = some 1 := by decide +kernel
theorem hh_LS_named : y_LS_named.cls ≠ "java/lang/invoke/MethodHandle" ∧ y_LS_named.cls ≠ "java/lang/invoke/VarHandle" ∧ (parseMethodDescriptor y_LS_named.desc).map (fun d => d.parameters.length) = some 1 := by decide +kernel
theorem hh_LS_count : y_LS_count.cls ≠ "java/lang/invoke/MethodHandle" ∧ y_LS_count.cls ≠ "java/lang/invoke/VarHandle" ∧ (parseMethodDescriptor y_LS_count.desc).map (fun d => d.parameters.length) = some 1 := by decide +kernel
theorem hh_LS_bit : y_LS_bit.cls ≠ "java/lang/invoke/MethodHandle" ∧ y_LS_bit.cls ≠ "java/lang/invoke/VarHandle" ∧ (parseMethodDescriptor y_LS_bit.desc).map (fun d => d.parameters.length) = some 1 := by decide +kernel
theorem hh_LS_bitAt : y_LS_bitAt.cls ≠ "java/lang/invoke/MethodHandle" ∧ y_LS_bitAt.cls ≠ "java/lang/invoke/VarHandle" ∧ (parseMethodDescriptor y_LS_bitAt.desc).map (fun d => d.parameters.length) = some 2 := by decide +kernel
theorem hh_LS_isWatch : y_LS_isWatch.cls ≠ "java/lang/invoke/MethodHandle" ∧ y_LS_isWatch.cls ≠ "java/lang/invoke/VarHandle" ∧ (parseMethodDescriptor y_LS_isWatch.desc).map (fun d => d.parameters.length) = some 1 := by decide +kernel
theorem hh_LS_bookIsFull : y_LS_bookIsFull.cls ≠ "java/lang/invoke/MethodHandle" ∧ y_LS_bookIsFull.cls ≠ "java/lang/invoke/VarHandle" ∧ (parseMethodDescriptor y_LS_bookIsFull.desc).map (fun d => d.parameters.length) = some 0 := by decide +kernel
theorem hh_LS_upTo : y_LS_upTo.cls ≠ "java/lang/invoke/MethodHandle" ∧ y_LS_upTo.cls ≠ "java/lang/invoke/VarHandle" ∧ (parseMethodDescriptor y_LS_upTo.desc).map (fun d => d.parameters.length) = some 1 := by decide +kernel
theorem hh_LS_isName : y_LS_isName.cls ≠ "java/lang/invoke/MethodHandle" ∧ y_LS_isName.cls ≠ "java/lang/invoke/VarHandle" ∧ (parseMethodDescriptor y_LS_isName.desc).map (fun d => d.parameters.length) = some 1 := by decide +kernel
theorem hh_LS_isNameBy : y_LS_isNameBy.cls ≠ "java/lang/invoke/MethodHandle" ∧ y_LS_isNameBy.cls ≠ "java/lang/invoke/VarHandle" ∧ (parseMethodDescriptor y_LS_isNameBy.desc).map (fun d => d.parameters.length) = some 2 := by decide +kernel
theorem hh_LS_isWordBy : y_LS_isWordBy.cls ≠ "java/lang/invoke/MethodHandle" ∧ y_LS_isWordBy.cls ≠ "java/lang/invoke/VarHandle" ∧ (parseMethodDescriptor y_LS_isWordBy.desc).map (fun d => d.parameters.length) = some 2 := by decide +kernel
theorem hh_LS_isSet : y_LS_isSet.cls ≠ "java/lang/invoke/MethodHandle" ∧ y_LS_isSet.cls ≠ "java/lang/invoke/VarHandle" ∧ (parseMethodDescriptor y_LS_isSet.desc).map (fun d => d.parameters.length) = some 1 := by decide +kernel
theorem hh_LS_decree : y_LS_decree.cls ≠ "java/lang/invoke/MethodHandle" ∧ y_LS_decree.cls ≠ "java/lang/invoke/VarHandle" ∧ (parseMethodDescriptor y_LS_decree.desc).map (fun d => d.parameters.length) = some 3 := by decide +kernel
theorem hh_LS_openAsFound : y_LS_openAsFound.cls ≠ "java/lang/invoke/MethodHandle" ∧ y_LS_openAsFound.cls ≠ "java/lang/invoke/VarHandle" ∧ (parseMethodDescriptor y_LS_openAsFound.desc).map (fun d => d.parameters.length) = some 1 := by decide +kernel
theorem hh_LS_digitOf : y_LS_digitOf.cls ≠ "java/lang/invoke/MethodHandle" ∧ y_LS_digitOf.cls ≠ "java/lang/invoke/VarHandle" ∧ (parseMethodDescriptor y_LS_digitOf.desc).map (fun d => d.parameters.length) = some 4 := by decide +kernel
theorem hh_LS_personsNow : y_LS_personsNow.cls ≠ "java/lang/invoke/MethodHandle" ∧ y_LS_personsNow.cls ≠ "java/lang/invoke/VarHandle" ∧ (parseMethodDescriptor y_LS_personsNow.desc).map (fun d => d.parameters.length) = some 0 := by decide +kernel
theorem hh_LS_standingNow : y_LS_standingNow.cls ≠ "java/lang/invoke/MethodHandle" ∧ y_LS_standingNow.cls ≠ "java/lang/invoke/VarHandle" ∧ (parseMethodDescriptor y_LS_standingNow.desc).map (fun d => d.parameters.length) = some 0 := by decide +kernel
theorem hh_LS_holding : y_LS_holding.cls ≠ "java/lang/invoke/MethodHandle" ∧ y_LS_holding.cls ≠ "java/lang/invoke/VarHandle" ∧ (parseMethodDescriptor y_LS_holding.desc).map (fun d => d.parameters.length) = some 2 := by decide +kernel
theorem hh_La_isPlace : y_La_isPlace.cls ≠ "java/lang/invoke/MethodHandle" ∧ y_La_isPlace.cls ≠ "java/lang/invoke/VarHandle" ∧ (parseMethodDescriptor y_La_isPlace.desc).map (fun d => d.parameters.length) = some 1 := by decide +kernel
theorem hh_La_isFull : y_La_isFull.cls ≠ "java/lang/invoke/MethodHandle" ∧ y_La_isFull.cls ≠ "java/lang/invoke/VarHandle" ∧ (parseMethodDescriptor y_La_isFull.desc).map (fun d => d.parameters.length) = some 0 := by decide +kernel
theorem hh_La_distance : y_La_distance.cls ≠ "java/lang/invoke/MethodHandle" ∧ y_La_distance.cls ≠ "java/lang/invoke/VarHandle" ∧ (parseMethodDescriptor y_La_distance.desc).map (fun d => d.parameters.length) = some 2 := by decide +kernel
theorem hh_La_lay : y_La_lay.cls ≠ "java/lang/invoke/MethodHandle" ∧ y_La_lay.cls ≠ "java/lang/invoke/VarHandle" ∧ (parseMethodDescriptor y_La_lay.desc).map (fun d => d.parameters.length) = some 3 := by decide +kernel
theorem hh_Ta_size : y_Ta_size.cls ≠ "java/lang/invoke/MethodHandle" ∧ y_Ta_size.cls ≠ "java/lang/invoke/VarHandle" ∧ (parseMethodDescriptor y_Ta_size.desc).map (fun d => d.parameters.length) = some 0 := by decide +kernel
theorem hh_Ta_hasRoom : y_Ta_hasRoom.cls ≠ "java/lang/invoke/MethodHandle" ∧ y_Ta_hasRoom.cls ≠ "java/lang/invoke/VarHandle" ∧ (parseMethodDescriptor y_Ta_hasRoom.desc).map (fun d => d.parameters.length) = some 1 := by decide +kernel
theorem hh_Ta_at : y_Ta_at.cls ≠ "java/lang/invoke/MethodHandle" ∧ y_Ta_at.cls ≠ "java/lang/invoke/VarHandle" ∧ (parseMethodDescriptor y_Ta_at.desc).map (fun d => d.parameters.length) = some 1 := by decide +kernel
theorem hh_Ta_append : y_Ta_append.cls ≠ "java/lang/invoke/MethodHandle" ∧ y_Ta_append.cls ≠ "java/lang/invoke/VarHandle" ∧ (parseMethodDescriptor y_Ta_append.desc).map (fun d => d.parameters.length) = some 2 := by decide +kernel
theorem hh_Ta_empty : y_Ta_empty.cls ≠ "java/lang/invoke/MethodHandle" ∧ y_Ta_empty.cls ≠ "java/lang/invoke/VarHandle" ∧ (parseMethodDescriptor y_Ta_empty.desc).map (fun d => d.parameters.length) = some 0 := by decide +kernel
theorem hh_Na_size : y_Na_size.cls ≠ "java/lang/invoke/MethodHandle" ∧ y_Na_size.cls ≠ "java/lang/invoke/VarHandle" ∧ (parseMethodDescriptor y_Na_size.desc).map (fun d => d.parameters.length) = some 0 := by decide +kernel
theorem hh_Na_entryOf : y_Na_entryOf.cls ≠ "java/lang/invoke/MethodHandle" ∧ y_Na_entryOf.cls ≠ "java/lang/invoke/VarHandle" ∧ (parseMethodDescriptor y_Na_entryOf.desc).map (fun d => d.parameters.length) = some 1 := by decide +kernel
theorem hh_Na_keySize : y_Na_keySize.cls ≠ "java/lang/invoke/MethodHandle" ∧ y_Na_keySize.cls ≠ "java/lang/invoke/VarHandle" ∧ (parseMethodDescriptor y_Na_keySize.desc).map (fun d => d.parameters.length) = some 1 := by decide +kernel
theorem hh_Na_keyLetter : y_Na_keyLetter.cls ≠ "java/lang/invoke/MethodHandle" ∧ y_Na_keyLetter.cls ≠ "java/lang/invoke/VarHandle" ∧ (parseMethodDescriptor y_Na_keyLetter.desc).map (fun d => d.parameters.length) = some 2 := by decide +kernel
theorem hh_Na_canRead : y_Na_canRead.cls ≠ "java/lang/invoke/MethodHandle" ∧ y_Na_canRead.cls ≠ "java/lang/invoke/VarHandle" ∧ (parseMethodDescriptor y_Na_canRead.desc).map (fun d => d.parameters.length) = some 1 := by decide +kernel
theorem hh_Na_enter : y_Na_enter.cls ≠ "java/lang/invoke/MethodHandle" ∧ y_Na_enter.cls ≠ "java/lang/invoke/VarHandle" ∧ (parseMethodDescriptor y_Na_enter.desc).map (fun d => d.parameters.length) = some 2 := by decide +kernel
theorem hh_Na_alike : y_Na_alike.cls ≠ "java/lang/invoke/MethodHandle" ∧ y_Na_alike.cls ≠ "java/lang/invoke/VarHandle" ∧ (parseMethodDescriptor y_Na_alike.desc).map (fun d => d.parameters.length) = some 1 := by decide +kernel
theorem hh_Na_blendPh : y_Na_blendPh.cls ≠ "java/lang/invoke/MethodHandle" ∧ y_Na_blendPh.cls ≠ "java/lang/invoke/VarHandle" ∧ (parseMethodDescriptor y_Na_blendPh.desc).map (fun d => d.parameters.length) = some 1 := by decide +kernel
theorem hh_Na_dropBreaths : y_Na_dropBreaths.cls ≠ "java/lang/invoke/MethodHandle" ∧ y_Na_dropBreaths.cls ≠ "java/lang/invoke/VarHandle" ∧ (parseMethodDescriptor y_Na_dropBreaths.desc).map (fun d => d.parameters.length) = some 1 := by decide +kernel
theorem hh_Na_dropTwins : y_Na_dropTwins.cls ≠ "java/lang/invoke/MethodHandle" ∧ y_Na_dropTwins.cls ≠ "java/lang/invoke/VarHandle" ∧ (parseMethodDescriptor y_Na_dropTwins.desc).map (fun d => d.parameters.length) = some 1 := by decide +kernel
theorem hh_Na_dropVowels : y_Na_dropVowels.cls ≠ "java/lang/invoke/MethodHandle" ∧ y_Na_dropVowels.cls ≠ "java/lang/invoke/VarHandle" ∧ (parseMethodDescriptor y_Na_dropVowels.desc).map (fun d => d.parameters.length) = some 1 := by decide +kernel
theorem hh_Na_isVowel : y_Na_isVowel.cls ≠ "java/lang/invoke/MethodHandle" ∧ y_Na_isVowel.cls ≠ "java/lang/invoke/VarHandle" ∧ (parseMethodDescriptor y_Na_isVowel.desc).map (fun d => d.parameters.length) = some 1 := by decide +kernel
theorem hh_Na_decree : y_Na_decree.cls ≠ "java/lang/invoke/MethodHandle" ∧ y_Na_decree.cls ≠ "java/lang/invoke/VarHandle" ∧ (parseMethodDescriptor y_Na_decree.desc).map (fun d => d.parameters.length) = some 4 := by decide +kernel
theorem hh_Na_readBy : y_Na_readBy.cls ≠ "java/lang/invoke/MethodHandle" ∧ y_Na_readBy.cls ≠ "java/lang/invoke/VarHandle" ∧ (parseMethodDescriptor y_Na_readBy.desc).map (fun d => d.parameters.length) = some 1 := by decide +kernel
theorem hh_Na_readKeys : y_Na_readKeys.cls ≠ "java/lang/invoke/MethodHandle" ∧ y_Na_readKeys.cls ≠ "java/lang/invoke/VarHandle" ∧ (parseMethodDescriptor y_Na_readKeys.desc).map (fun d => d.parameters.length) = some 0 := by decide +kernel
theorem hh_Na_tieTogether : y_Na_tieTogether.cls ≠ "java/lang/invoke/MethodHandle" ∧ y_Na_tieTogether.cls ≠ "java/lang/invoke/VarHandle" ∧ (parseMethodDescriptor y_Na_tieTogether.desc).map (fun d => d.parameters.length) = some 3 := by decide +kernel
theorem hh_Na_sameKey : y_Na_sameKey.cls ≠ "java/lang/invoke/MethodHandle" ∧ y_Na_sameKey.cls ≠ "java/lang/invoke/VarHandle" ∧ (parseMethodDescriptor y_Na_sameKey.desc).map (fun d => d.parameters.length) = some 2 := by decide +kernel
theorem hh_Na_readPersons : y_Na_readPersons.cls ≠ "java/lang/invoke/MethodHandle" ∧ y_Na_readPersons.cls ≠ "java/lang/invoke/VarHandle" ∧ (parseMethodDescriptor y_Na_readPersons.desc).map (fun d => d.parameters.length) = some 0 := by decide +kernel
theorem hh_Na_spreadFrom : y_Na_spreadFrom.cls ≠ "java/lang/invoke/MethodHandle" ∧ y_Na_spreadFrom.cls ≠ "java/lang/invoke/VarHandle" ∧ (parseMethodDescriptor y_Na_spreadFrom.desc).map (fun d => d.parameters.length) = some 1 := by decide +kernel
theorem hh_Na_bond : y_Na_bond.cls ≠ "java/lang/invoke/MethodHandle" ∧ y_Na_bond.cls ≠ "java/lang/invoke/VarHandle" ∧ (parseMethodDescriptor y_Na_bond.desc).map (fun d => d.parameters.length) = some 2 := by decide +kernel
theorem hh_Na_leastOf : y_Na_leastOf.cls ≠ "java/lang/invoke/MethodHandle" ∧ y_Na_leastOf.cls ≠ "java/lang/invoke/VarHandle" ∧ (parseMethodDescriptor y_Na_leastOf.desc).map (fun d => d.parameters.length) = some 1 := by decide +kernel
theorem hh_Na_namesOf : y_Na_namesOf.cls ≠ "java/lang/invoke/MethodHandle" ∧ y_Na_namesOf.cls ≠ "java/lang/invoke/VarHandle" ∧ (parseMethodDescriptor y_Na_namesOf.desc).map (fun d => d.parameters.length) = some 1 := by decide +kernel
theorem hh_Na_areTied : y_Na_areTied.cls ≠ "java/lang/invoke/MethodHandle" ∧ y_Na_areTied.cls ≠ "java/lang/invoke/VarHandle" ∧ (parseMethodDescriptor y_Na_areTied.desc).map (fun d => d.parameters.length) = some 2 := by decide +kernel
theorem hh_Na_readTie : y_Na_readTie.cls ≠ "java/lang/invoke/MethodHandle" ∧ y_Na_readTie.cls ≠ "java/lang/invoke/VarHandle" ∧ (parseMethodDescriptor y_Na_readTie.desc).map (fun d => d.parameters.length) = some 2 := by decide +kernel
theorem hh_Na_tieName : y_Na_tieName.cls ≠ "java/lang/invoke/MethodHandle" ∧ y_Na_tieName.cls ≠ "java/lang/invoke/VarHandle" ∧ (parseMethodDescriptor y_Na_tieName.desc).map (fun d => d.parameters.length) = some 1 := by decide +kernel
theorem hh_Na_countStepsTo : y_Na_countStepsTo.cls ≠ "java/lang/invoke/MethodHandle" ∧ y_Na_countStepsTo.cls ≠ "java/lang/invoke/VarHandle" ∧ (parseMethodDescriptor y_Na_countStepsTo.desc).map (fun d => d.parameters.length) = some 1 := by decide +kernel
theorem hh_Na_nearerThan : y_Na_nearerThan.cls ≠ "java/lang/invoke/MethodHandle" ∧ y_Na_nearerThan.cls ≠ "java/lang/invoke/VarHandle" ∧ (parseMethodDescriptor y_Na_nearerThan.desc).map (fun d => d.parameters.length) = some 1 := by decide +kernel
theorem hh_Wo_size : y_Wo_size.cls ≠ "java/lang/invoke/MethodHandle" ∧ y_Wo_size.cls ≠ "java/lang/invoke/VarHandle" ∧ (parseMethodDescriptor y_Wo_size.desc).map (fun d => d.parameters.length) = some 0 := by decide +kernel
theorem hh_Wo_enter : y_Wo_enter.cls ≠ "java/lang/invoke/MethodHandle" ∧ y_Wo_enter.cls ≠ "java/lang/invoke/VarHandle" ∧ (parseMethodDescriptor y_Wo_enter.desc).map (fun d => d.parameters.length) = some 4 := by decide +kernel
theorem hh_Wo_placeAt : y_Wo_placeAt.cls ≠ "java/lang/invoke/MethodHandle" ∧ y_Wo_placeAt.cls ≠ "java/lang/invoke/VarHandle" ∧ (parseMethodDescriptor y_Wo_placeAt.desc).map (fun d => d.parameters.length) = some 4 := by decide +kernel
theorem hh_Wo_drop : y_Wo_drop.cls ≠ "java/lang/invoke/MethodHandle" ∧ y_Wo_drop.cls ≠ "java/lang/invoke/VarHandle" ∧ (parseMethodDescriptor y_Wo_drop.desc).map (fun d => d.parameters.length) = some 2 := by decide +kernel
theorem hh_Wo_isWithdrawn : y_Wo_isWithdrawn.cls ≠ "java/lang/invoke/MethodHandle" ∧ y_Wo_isWithdrawn.cls ≠ "java/lang/invoke/VarHandle" ∧ (parseMethodDescriptor y_Wo_isWithdrawn.desc).map (fun d => d.parameters.length) = some 1 := by decide +kernel
theorem hh_Wo_entryOf : y_Wo_entryOf.cls ≠ "java/lang/invoke/MethodHandle" ∧ y_Wo_entryOf.cls ≠ "java/lang/invoke/VarHandle" ∧ (parseMethodDescriptor y_Wo_entryOf.desc).map (fun d => d.parameters.length) = some 1 := by decide +kernel
theorem hh_Wo_nameOf : y_Wo_nameOf.cls ≠ "java/lang/invoke/MethodHandle" ∧ y_Wo_nameOf.cls ≠ "java/lang/invoke/VarHandle" ∧ (parseMethodDescriptor y_Wo_nameOf.desc).map (fun d => d.parameters.length) = some 1 := by decide +kernel
theorem hh_Wo_rootOf : y_Wo_rootOf.cls ≠ "java/lang/invoke/MethodHandle" ∧ y_Wo_rootOf.cls ≠ "java/lang/invoke/VarHandle" ∧ (parseMethodDescriptor y_Wo_rootOf.desc).map (fun d => d.parameters.length) = some 1 := by decide +kernel
theorem hh_Wo_witnessOf : y_Wo_witnessOf.cls ≠ "java/lang/invoke/MethodHandle" ∧ y_Wo_witnessOf.cls ≠ "java/lang/invoke/VarHandle" ∧ (parseMethodDescriptor y_Wo_witnessOf.desc).map (fun d => d.parameters.length) = some 1 := by decide +kernel
theorem hh_Wo_placesOf : y_Wo_placesOf.cls ≠ "java/lang/invoke/MethodHandle" ∧ y_Wo_placesOf.cls ≠ "java/lang/invoke/VarHandle" ∧ (parseMethodDescriptor y_Wo_placesOf.desc).map (fun d => d.parameters.length) = some 1 := by decide +kernel
theorem hh_Wo_firstOf : y_Wo_firstOf.cls ≠ "java/lang/invoke/MethodHandle" ∧ y_Wo_firstOf.cls ≠ "java/lang/invoke/VarHandle" ∧ (parseMethodDescriptor y_Wo_firstOf.desc).map (fun d => d.parameters.length) = some 1 := by decide +kernel
theorem hh_Wo_lastOf : y_Wo_lastOf.cls ≠ "java/lang/invoke/MethodHandle" ∧ y_Wo_lastOf.cls ≠ "java/lang/invoke/VarHandle" ∧ (parseMethodDescriptor y_Wo_lastOf.desc).map (fun d => d.parameters.length) = some 1 := by decide +kernel
theorem hh_Wo_isHeard : y_Wo_isHeard.cls ≠ "java/lang/invoke/MethodHandle" ∧ y_Wo_isHeard.cls ≠ "java/lang/invoke/VarHandle" ∧ (parseMethodDescriptor y_Wo_isHeard.desc).map (fun d => d.parameters.length) = some 1 := by decide +kernel
theorem hh_Wo_readBy : y_Wo_readBy.cls ≠ "java/lang/invoke/MethodHandle" ∧ y_Wo_readBy.cls ≠ "java/lang/invoke/VarHandle" ∧ (parseMethodDescriptor y_Wo_readBy.desc).map (fun d => d.parameters.length) = some 2 := by decide +kernel
theorem hh_Wo_stands : y_Wo_stands.cls ≠ "java/lang/invoke/MethodHandle" ∧ y_Wo_stands.cls ≠ "java/lang/invoke/VarHandle" ∧ (parseMethodDescriptor y_Wo_stands.desc).map (fun d => d.parameters.length) = some 1 := by decide +kernel
theorem hh_Wo_standing : y_Wo_standing.cls ≠ "java/lang/invoke/MethodHandle" ∧ y_Wo_standing.cls ≠ "java/lang/invoke/VarHandle" ∧ (parseMethodDescriptor y_Wo_standing.desc).map (fun d => d.parameters.length) = some 0 := by decide +kernel
theorem hh_Wa_empty : y_Wa_empty.cls ≠ "java/lang/invoke/MethodHandle" ∧ y_Wa_empty.cls ≠ "java/lang/invoke/VarHandle" ∧ (parseMethodDescriptor y_Wa_empty.desc).map (fun d => d.parameters.length) = some 0 := by decide +kernel
theorem hh_Wa_add : y_Wa_add.cls ≠ "java/lang/invoke/MethodHandle" ∧ y_Wa_add.cls ≠ "java/lang/invoke/VarHandle" ∧ (parseMethodDescriptor y_Wa_add.desc).map (fun d => d.parameters.length) = some 3 := by decide +kernel
theorem hh_Wa_all : y_Wa_all.cls ≠ "java/lang/invoke/MethodHandle" ∧ y_Wa_all.cls ≠ "java/lang/invoke/VarHandle" ∧ (parseMethodDescriptor y_Wa_all.desc).map (fun d => d.parameters.length) = some 0 := by decide +kernel
theorem hh_Wa_go : y_Wa_go.cls ≠ "java/lang/invoke/MethodHandle" ∧ y_Wa_go.cls ≠ "java/lang/invoke/VarHandle" ∧ (parseMethodDescriptor y_Wa_go.desc).map (fun d => d.parameters.length) = some 0 := by decide +kernel
theorem hh_Wa_isWalkable : y_Wa_isWalkable.cls ≠ "java/lang/invoke/MethodHandle" ∧ y_Wa_isWalkable.cls ≠ "java/lang/invoke/VarHandle" ∧ (parseMethodDescriptor y_Wa_isWalkable.desc).map (fun d => d.parameters.length) = some 1 := by decide +kernel
theorem hh_Wa_readReach : y_Wa_readReach.cls ≠ "java/lang/invoke/MethodHandle" ∧ y_Wa_readReach.cls ≠ "java/lang/invoke/VarHandle" ∧ (parseMethodDescriptor y_Wa_readReach.desc).map (fun d => d.parameters.length) = some 1 := by decide +kernel
theorem hh_Wa_stayAt : y_Wa_stayAt.cls ≠ "java/lang/invoke/MethodHandle" ∧ y_Wa_stayAt.cls ≠ "java/lang/invoke/VarHandle" ∧ (parseMethodDescriptor y_Wa_stayAt.desc).map (fun d => d.parameters.length) = some 2 := by decide +kernel
theorem hh_Wa_leastQuarrel : y_Wa_leastQuarrel.cls ≠ "java/lang/invoke/MethodHandle" ∧ y_Wa_leastQuarrel.cls ≠ "java/lang/invoke/VarHandle" ∧ (parseMethodDescriptor y_Wa_leastQuarrel.desc).map (fun d => d.parameters.length) = some 0 := by decide +kernel
theorem hh_He_open : y_He_open.cls ≠ "java/lang/invoke/MethodHandle" ∧ y_He_open.cls ≠ "java/lang/invoke/VarHandle" ∧ (parseMethodDescriptor y_He_open.desc).map (fun d => d.parameters.length) = some 3 := by decide +kernel
theorem hh_He_readWords : y_He_readWords.cls ≠ "java/lang/invoke/MethodHandle" ∧ y_He_readWords.cls ≠ "java/lang/invoke/VarHandle" ∧ (parseMethodDescriptor y_He_readWords.desc).map (fun d => d.parameters.length) = some 0 := by decide +kernel
theorem hh_He_readRoots : y_He_readRoots.cls ≠ "java/lang/invoke/MethodHandle" ∧ y_He_readRoots.cls ≠ "java/lang/invoke/VarHandle" ∧ (parseMethodDescriptor y_He_readRoots.desc).map (fun d => d.parameters.length) = some 0 := by decide +kernel
theorem hh_He_readLatest : y_He_readLatest.cls ≠ "java/lang/invoke/MethodHandle" ∧ y_He_readLatest.cls ≠ "java/lang/invoke/VarHandle" ∧ (parseMethodDescriptor y_He_readLatest.desc).map (fun d => d.parameters.length) = some 0 := by decide +kernel
theorem hh_He_rootCount : y_He_rootCount.cls ≠ "java/lang/invoke/MethodHandle" ∧ y_He_rootCount.cls ≠ "java/lang/invoke/VarHandle" ∧ (parseMethodDescriptor y_He_rootCount.desc).map (fun d => d.parameters.length) = some 0 := by decide +kernel
theorem hh_He_rootAt : y_He_rootAt.cls ≠ "java/lang/invoke/MethodHandle" ∧ y_He_rootAt.cls ≠ "java/lang/invoke/VarHandle" ∧ (parseMethodDescriptor y_He_rootAt.desc).map (fun d => d.parameters.length) = some 1 := by decide +kernel
theorem hh_He_witnesses : y_He_witnesses.cls ≠ "java/lang/invoke/MethodHandle" ∧ y_He_witnesses.cls ≠ "java/lang/invoke/VarHandle" ∧ (parseMethodDescriptor y_He_witnesses.desc).map (fun d => d.parameters.length) = some 0 := by decide +kernel
theorem hh_He_latestRoot : y_He_latestRoot.cls ≠ "java/lang/invoke/MethodHandle" ∧ y_He_latestRoot.cls ≠ "java/lang/invoke/VarHandle" ∧ (parseMethodDescriptor y_He_latestRoot.desc).map (fun d => d.parameters.length) = some 0 := by decide +kernel
theorem hh_He_leanCount : y_He_leanCount.cls ≠ "java/lang/invoke/MethodHandle" ∧ y_He_leanCount.cls ≠ "java/lang/invoke/VarHandle" ∧ (parseMethodDescriptor y_He_leanCount.desc).map (fun d => d.parameters.length) = some 0 := by decide +kernel
theorem hh_He_leanAt : y_He_leanAt.cls ≠ "java/lang/invoke/MethodHandle" ∧ y_He_leanAt.cls ≠ "java/lang/invoke/VarHandle" ∧ (parseMethodDescriptor y_He_leanAt.desc).map (fun d => d.parameters.length) = some 1 := by decide +kernel
theorem hh_He_loadWalk : y_He_loadWalk.cls ≠ "java/lang/invoke/MethodHandle" ∧ y_He_loadWalk.cls ≠ "java/lang/invoke/VarHandle" ∧ (parseMethodDescriptor y_He_loadWalk.desc).map (fun d => d.parameters.length) = some 0 := by decide +kernel
theorem hh_He_weigh : y_He_weigh.cls ≠ "java/lang/invoke/MethodHandle" ∧ y_He_weigh.cls ≠ "java/lang/invoke/VarHandle" ∧ (parseMethodDescriptor y_He_weigh.desc).map (fun d => d.parameters.length) = some 0 := by decide +kernel
theorem hh_He_agrees : y_He_agrees.cls ≠ "java/lang/invoke/MethodHandle" ∧ y_He_agrees.cls ≠ "java/lang/invoke/VarHandle" ∧ (parseMethodDescriptor y_He_agrees.desc).map (fun d => d.parameters.length) = some 0 := by decide +kernel
theorem hh_He_agreesWith : y_He_agreesWith.cls ≠ "java/lang/invoke/MethodHandle" ∧ y_He_agreesWith.cls ≠ "java/lang/invoke/VarHandle" ∧ (parseMethodDescriptor y_He_agreesWith.desc).map (fun d => d.parameters.length) = some 2 := by decide +kernel
theorem hh_He_leastQuarrel : y_He_leastQuarrel.cls ≠ "java/lang/invoke/MethodHandle" ∧ y_He_leastQuarrel.cls ≠ "java/lang/invoke/VarHandle" ∧ (parseMethodDescriptor y_He_leastQuarrel.desc).map (fun d => d.parameters.length) = some 0 := by decide +kernel
theorem hh_He_measure : y_He_measure.cls ≠ "java/lang/invoke/MethodHandle" ∧ y_He_measure.cls ≠ "java/lang/invoke/VarHandle" ∧ (parseMethodDescriptor y_He_measure.desc).map (fun d => d.parameters.length) = some 1 := by decide +kernel
theorem hh_Ru_size : y_Ru_size.cls ≠ "java/lang/invoke/MethodHandle" ∧ y_Ru_size.cls ≠ "java/lang/invoke/VarHandle" ∧ (parseMethodDescriptor y_Ru_size.desc).map (fun d => d.parameters.length) = some 0 := by decide +kernel
theorem hh_Ru_check : y_Ru_check.cls ≠ "java/lang/invoke/MethodHandle" ∧ y_Ru_check.cls ≠ "java/lang/invoke/VarHandle" ∧ (parseMethodDescriptor y_Ru_check.desc).map (fun d => d.parameters.length) = some 1 := by decide +kernel
theorem hh_Ru_enter : y_Ru_enter.cls ≠ "java/lang/invoke/MethodHandle" ∧ y_Ru_enter.cls ≠ "java/lang/invoke/VarHandle" ∧ (parseMethodDescriptor y_Ru_enter.desc).map (fun d => d.parameters.length) = some 3 := by decide +kernel
theorem hh_Ru_latestBy : y_Ru_latestBy.cls ≠ "java/lang/invoke/MethodHandle" ∧ y_Ru_latestBy.cls ≠ "java/lang/invoke/VarHandle" ∧ (parseMethodDescriptor y_Ru_latestBy.desc).map (fun d => d.parameters.length) = some 1 := by decide +kernel
theorem hh_Ru_after : y_Ru_after.cls ≠ "java/lang/invoke/MethodHandle" ∧ y_Ru_after.cls ≠ "java/lang/invoke/VarHandle" ∧ (parseMethodDescriptor y_Ru_after.desc).map (fun d => d.parameters.length) = some 2 := by decide +kernel
theorem hh_Ru_afterStart : y_Ru_afterStart.cls ≠ "java/lang/invoke/MethodHandle" ∧ y_Ru_afterStart.cls ≠ "java/lang/invoke/VarHandle" ∧ (parseMethodDescriptor y_Ru_afterStart.desc).map (fun d => d.parameters.length) = some 1 := by decide +kernel
theorem hh_Ru_afterOpening : y_Ru_afterOpening.cls ≠ "java/lang/invoke/MethodHandle" ∧ y_Ru_afterOpening.cls ≠ "java/lang/invoke/VarHandle" ∧ (parseMethodDescriptor y_Ru_afterOpening.desc).map (fun d => d.parameters.length) = some 1 := by decide +kernel
theorem hh_Ru_afterFirstDigit : y_Ru_afterFirstDigit.cls ≠ "java/lang/invoke/MethodHandle" ∧ y_Ru_afterFirstDigit.cls ≠ "java/lang/invoke/VarHandle" ∧ (parseMethodDescriptor y_Ru_afterFirstDigit.desc).map (fun d => d.parameters.length) = some 1 := by decide +kernel
theorem hh_Ru_afterDigit : y_Ru_afterDigit.cls ≠ "java/lang/invoke/MethodHandle" ∧ y_Ru_afterDigit.cls ≠ "java/lang/invoke/VarHandle" ∧ (parseMethodDescriptor y_Ru_afterDigit.desc).map (fun d => d.parameters.length) = some 0 := by decide +kernel
theorem hh_Ru_afterFact : y_Ru_afterFact.cls ≠ "java/lang/invoke/MethodHandle" ∧ y_Ru_afterFact.cls ≠ "java/lang/invoke/VarHandle" ∧ (parseMethodDescriptor y_Ru_afterFact.desc).map (fun d => d.parameters.length) = some 1 := by decide +kernel
theorem hh_Ru_afterClause : y_Ru_afterClause.cls ≠ "java/lang/invoke/MethodHandle" ∧ y_Ru_afterClause.cls ≠ "java/lang/invoke/VarHandle" ∧ (parseMethodDescriptor y_Ru_afterClause.desc).map (fun d => d.parameters.length) = some 1 := by decide +kernel
theorem hh_Ru_isLetter : y_Ru_isLetter.cls ≠ "java/lang/invoke/MethodHandle" ∧ y_Ru_isLetter.cls ≠ "java/lang/invoke/VarHandle" ∧ (parseMethodDescriptor y_Ru_isLetter.desc).map (fun d => d.parameters.length) = some 1 := by decide +kernel
theorem hh_Ru_isSign : y_Ru_isSign.cls ≠ "java/lang/invoke/MethodHandle" ∧ y_Ru_isSign.cls ≠ "java/lang/invoke/VarHandle" ∧ (parseMethodDescriptor y_Ru_isSign.desc).map (fun d => d.parameters.length) = some 1 := by decide +kernel
theorem hh_Ru_isDigit : y_Ru_isDigit.cls ≠ "java/lang/invoke/MethodHandle" ∧ y_Ru_isDigit.cls ≠ "java/lang/invoke/VarHandle" ∧ (parseMethodDescriptor y_Ru_isDigit.desc).map (fun d => d.parameters.length) = some 1 := by decide +kernel
theorem hh_Ru_asksWhetherCan : y_Ru_asksWhetherCan.cls ≠ "java/lang/invoke/MethodHandle" ∧ y_Ru_asksWhetherCan.cls ≠ "java/lang/invoke/VarHandle" ∧ (parseMethodDescriptor y_Ru_asksWhetherCan.desc).map (fun d => d.parameters.length) = some 1 := by decide +kernel
theorem hh_Ru_textAt : y_Ru_textAt.cls ≠ "java/lang/invoke/MethodHandle" ∧ y_Ru_textAt.cls ≠ "java/lang/invoke/VarHandle" ∧ (parseMethodDescriptor y_Ru_textAt.desc).map (fun d => d.parameters.length) = some 2 := by decide +kernel
theorem hh_Ru_decide : y_Ru_decide.cls ≠ "java/lang/invoke/MethodHandle" ∧ y_Ru_decide.cls ≠ "java/lang/invoke/VarHandle" ∧ (parseMethodDescriptor y_Ru_decide.desc).map (fun d => d.parameters.length) = some 2 := by decide +kernel
theorem hh_Ru_isSo : y_Ru_isSo.cls ≠ "java/lang/invoke/MethodHandle" ∧ y_Ru_isSo.cls ≠ "java/lang/invoke/VarHandle" ∧ (parseMethodDescriptor y_Ru_isSo.desc).map (fun d => d.parameters.length) = some 2 := by decide +kernel
theorem hh_Ru_joinRow : y_Ru_joinRow.cls ≠ "java/lang/invoke/MethodHandle" ∧ y_Ru_joinRow.cls ≠ "java/lang/invoke/VarHandle" ∧ (parseMethodDescriptor y_Ru_joinRow.desc).map (fun d => d.parameters.length) = some 2 := by decide +kernel
theorem hh_Ru_closeRow : y_Ru_closeRow.cls ≠ "java/lang/invoke/MethodHandle" ∧ y_Ru_closeRow.cls ≠ "java/lang/invoke/VarHandle" ∧ (parseMethodDescriptor y_Ru_closeRow.desc).map (fun d => d.parameters.length) = some 1 := by decide +kernel
theorem hh_Ru_openGroup : y_Ru_openGroup.cls ≠ "java/lang/invoke/MethodHandle" ∧ y_Ru_openGroup.cls ≠ "java/lang/invoke/VarHandle" ∧ (parseMethodDescriptor y_Ru_openGroup.desc).map (fun d => d.parameters.length) = some 2 := by decide +kernel
theorem hh_Ru_groupIsSo : y_Ru_groupIsSo.cls ≠ "java/lang/invoke/MethodHandle" ∧ y_Ru_groupIsSo.cls ≠ "java/lang/invoke/VarHandle" ∧ (parseMethodDescriptor y_Ru_groupIsSo.desc).map (fun d => d.parameters.length) = some 1 := by decide +kernel
theorem hh_Ru_factIsSo : y_Ru_factIsSo.cls ≠ "java/lang/invoke/MethodHandle" ∧ y_Ru_factIsSo.cls ≠ "java/lang/invoke/VarHandle" ∧ (parseMethodDescriptor y_Ru_factIsSo.desc).map (fun d => d.parameters.length) = some 2 := by decide +kernel
theorem hh_Bn_heapOf : y_Bn_heapOf.cls ≠ "java/lang/invoke/MethodHandle" ∧ y_Bn_heapOf.cls ≠ "java/lang/invoke/VarHandle" ∧ (parseMethodDescriptor y_Bn_heapOf.desc).map (fun d => d.parameters.length) = some 3 := by decide +kernel
theorem hh_Bn_isFull : y_Bn_isFull.cls ≠ "java/lang/invoke/MethodHandle" ∧ y_Bn_isFull.cls ≠ "java/lang/invoke/VarHandle" ∧ (parseMethodDescriptor y_Bn_isFull.desc).map (fun d => d.parameters.length) = some 3 := by decide +kernel
theorem hh_Bn_lay : y_Bn_lay.cls ≠ "java/lang/invoke/MethodHandle" ∧ y_Bn_lay.cls ≠ "java/lang/invoke/VarHandle" ∧ (parseMethodDescriptor y_Bn_lay.desc).map (fun d => d.parameters.length) = some 4 := by decide +kernel
theorem hh_Bn_changeBound : y_Bn_changeBound.cls ≠ "java/lang/invoke/MethodHandle" ∧ y_Bn_changeBound.cls ≠ "java/lang/invoke/VarHandle" ∧ (parseMethodDescriptor y_Bn_changeBound.desc).map (fun d => d.parameters.length) = some 1 := by decide +kernel
theorem hh_Bn_leastPersons : y_Bn_leastPersons.cls ≠ "java/lang/invoke/MethodHandle" ∧ y_Bn_leastPersons.cls ≠ "java/lang/invoke/VarHandle" ∧ (parseMethodDescriptor y_Bn_leastPersons.desc).map (fun d => d.parameters.length) = some 1 := by decide +kernel
theorem hh_Bn_couples : y_Bn_couples.cls ≠ "java/lang/invoke/MethodHandle" ∧ y_Bn_couples.cls ≠ "java/lang/invoke/VarHandle" ∧ (parseMethodDescriptor y_Bn_couples.desc).map (fun d => d.parameters.length) = some 2 := by decide +kernel
theorem hh_Gr_isGrave : y_Gr_isGrave.cls ≠ "java/lang/invoke/MethodHandle" ∧ y_Gr_isGrave.cls ≠ "java/lang/invoke/VarHandle" ∧ (parseMethodDescriptor y_Gr_isGrave.desc).map (fun d => d.parameters.length) = some 1 := by decide +kernel
theorem hh_Gr_isHeight : y_Gr_isHeight.cls ≠ "java/lang/invoke/MethodHandle" ∧ y_Gr_isHeight.cls ≠ "java/lang/invoke/VarHandle" ∧ (parseMethodDescriptor y_Gr_isHeight.desc).map (fun d => d.parameters.length) = some 1 := by decide +kernel
theorem hh_Gr_areMarks : y_Gr_areMarks.cls ≠ "java/lang/invoke/MethodHandle" ∧ y_Gr_areMarks.cls ≠ "java/lang/invoke/VarHandle" ∧ (parseMethodDescriptor y_Gr_areMarks.desc).map (fun d => d.parameters.length) = some 2 := by decide +kernel
theorem hh_Gr_sets : y_Gr_sets.cls ≠ "java/lang/invoke/MethodHandle" ∧ y_Gr_sets.cls ≠ "java/lang/invoke/VarHandle" ∧ (parseMethodDescriptor y_Gr_sets.desc).map (fun d => d.parameters.length) = some 0 := by decide +kernel
theorem hh_Gr_lost : y_Gr_lost.cls ≠ "java/lang/invoke/MethodHandle" ∧ y_Gr_lost.cls ≠ "java/lang/invoke/VarHandle" ∧ (parseMethodDescriptor y_Gr_lost.desc).map (fun d => d.parameters.length) = some 0 := by decide +kernel
theorem hh_Gr_areSets : y_Gr_areSets.cls ≠ "java/lang/invoke/MethodHandle" ∧ y_Gr_areSets.cls ≠ "java/lang/invoke/VarHandle" ∧ (parseMethodDescriptor y_Gr_areSets.desc).map (fun d => d.parameters.length) = some 1 := by decide +kernel
theorem hh_Gr_addSet : y_Gr_addSet.cls ≠ "java/lang/invoke/MethodHandle" ∧ y_Gr_addSet.cls ≠ "java/lang/invoke/VarHandle" ∧ (parseMethodDescriptor y_Gr_addSet.desc).map (fun d => d.parameters.length) = some 5 := by decide +kernel
theorem hh_Gr_lostIndex : y_Gr_lostIndex.cls ≠ "java/lang/invoke/MethodHandle" ∧ y_Gr_lostIndex.cls ≠ "java/lang/invoke/VarHandle" ∧ (parseMethodDescriptor y_Gr_lostIndex.desc).map (fun d => d.parameters.length) = some 1 := by decide +kernel
theorem hh_Gr_lostName : y_Gr_lostName.cls ≠ "java/lang/invoke/MethodHandle" ∧ y_Gr_lostName.cls ≠ "java/lang/invoke/VarHandle" ∧ (parseMethodDescriptor y_Gr_lostName.desc).map (fun d => d.parameters.length) = some 1 := by decide +kernel
theorem hh_Gr_addLost : y_Gr_addLost.cls ≠ "java/lang/invoke/MethodHandle" ∧ y_Gr_addLost.cls ≠ "java/lang/invoke/VarHandle" ∧ (parseMethodDescriptor y_Gr_addLost.desc).map (fun d => d.parameters.length) = some 1 := by decide +kernel
theorem hh_Gr_describe : y_Gr_describe.cls ≠ "java/lang/invoke/MethodHandle" ∧ y_Gr_describe.cls ≠ "java/lang/invoke/VarHandle" ∧ (parseMethodDescriptor y_Gr_describe.desc).map (fun d => d.parameters.length) = some 4 := by decide +kernel
theorem hh_Gr_isTaken : y_Gr_isTaken.cls ≠ "java/lang/invoke/MethodHandle" ∧ y_Gr_isTaken.cls ≠ "java/lang/invoke/VarHandle" ∧ (parseMethodDescriptor y_Gr_isTaken.desc).map (fun d => d.parameters.length) = some 1 := by decide +kernel
theorem hh_Gr_suits : y_Gr_suits.cls ≠ "java/lang/invoke/MethodHandle" ∧ y_Gr_suits.cls ≠ "java/lang/invoke/VarHandle" ∧ (parseMethodDescriptor y_Gr_suits.desc).map (fun d => d.parameters.length) = some 2 := by decide +kernel
theorem hh_Gr_readChoices : y_Gr_readChoices.cls ≠ "java/lang/invoke/MethodHandle" ∧ y_Gr_readChoices.cls ≠ "java/lang/invoke/VarHandle" ∧ (parseMethodDescriptor y_Gr_readChoices.desc).map (fun d => d.parameters.length) = some 1 := by decide +kernel
theorem hh_Gr_firstOneWith : y_Gr_firstOneWith.cls ≠ "java/lang/invoke/MethodHandle" ∧ y_Gr_firstOneWith.cls ≠ "java/lang/invoke/VarHandle" ∧ (parseMethodDescriptor y_Gr_firstOneWith.desc).map (fun d => d.parameters.length) = some 1 := by decide +kernel
theorem hh_Gr_canGet : y_Gr_canGet.cls ≠ "java/lang/invoke/MethodHandle" ∧ y_Gr_canGet.cls ≠ "java/lang/invoke/VarHandle" ∧ (parseMethodDescriptor y_Gr_canGet.desc).map (fun d => d.parameters.length) = some 2 := by decide +kernel
theorem hh_Gr_isBarred : y_Gr_isBarred.cls ≠ "java/lang/invoke/MethodHandle" ∧ y_Gr_isBarred.cls ≠ "java/lang/invoke/VarHandle" ∧ (parseMethodDescriptor y_Gr_isBarred.desc).map (fun d => d.parameters.length) = some 1 := by decide +kernel
theorem hh_Gr_ways : y_Gr_ways.cls ≠ "java/lang/invoke/MethodHandle" ∧ y_Gr_ways.cls ≠ "java/lang/invoke/VarHandle" ∧ (parseMethodDescriptor y_Gr_ways.desc).map (fun d => d.parameters.length) = some 1 := by decide +kernel
theorem hh_Gr_waysWith : y_Gr_waysWith.cls ≠ "java/lang/invoke/MethodHandle" ∧ y_Gr_waysWith.cls ≠ "java/lang/invoke/VarHandle" ∧ (parseMethodDescriptor y_Gr_waysWith.desc).map (fun d => d.parameters.length) = some 2 := by decide +kernel
theorem hh_Gr_spellings : y_Gr_spellings.cls ≠ "java/lang/invoke/MethodHandle" ∧ y_Gr_spellings.cls ≠ "java/lang/invoke/VarHandle" ∧ (parseMethodDescriptor y_Gr_spellings.desc).map (fun d => d.parameters.length) = some 2 := by decide +kernel
theorem hh_Gr_shortage : y_Gr_shortage.cls ≠ "java/lang/invoke/MethodHandle" ∧ y_Gr_shortage.cls ≠ "java/lang/invoke/VarHandle" ∧ (parseMethodDescriptor y_Gr_shortage.desc).map (fun d => d.parameters.length) = some 2 := by decide +kernel
theorem hh_Gr_readHeirs : y_Gr_readHeirs.cls ≠ "java/lang/invoke/MethodHandle" ∧ y_Gr_readHeirs.cls ≠ "java/lang/invoke/VarHandle" ∧ (parseMethodDescriptor y_Gr_readHeirs.desc).map (fun d => d.parameters.length) = some 0 := by decide +kernel
theorem hh_Gr_personsFor : y_Gr_personsFor.cls ≠ "java/lang/invoke/MethodHandle" ∧ y_Gr_personsFor.cls ≠ "java/lang/invoke/VarHandle" ∧ (parseMethodDescriptor y_Gr_personsFor.desc).map (fun d => d.parameters.length) = some 1 := by decide +kernel
theorem hh_Gr_soleChoice : y_Gr_soleChoice.cls ≠ "java/lang/invoke/MethodHandle" ∧ y_Gr_soleChoice.cls ≠ "java/lang/invoke/VarHandle" ∧ (parseMethodDescriptor y_Gr_soleChoice.desc).map (fun d => d.parameters.length) = some 2 := by decide +kernel
theorem hh_Gr_setsBeside : y_Gr_setsBeside.cls ≠ "java/lang/invoke/MethodHandle" ∧ y_Gr_setsBeside.cls ≠ "java/lang/invoke/VarHandle" ∧ (parseMethodDescriptor y_Gr_setsBeside.desc).map (fun d => d.parameters.length) = some 1 := by decide +kernel
theorem hh_Gr_givenTo : y_Gr_givenTo.cls ≠ "java/lang/invoke/MethodHandle" ∧ y_Gr_givenTo.cls ≠ "java/lang/invoke/VarHandle" ∧ (parseMethodDescriptor y_Gr_givenTo.desc).map (fun d => d.parameters.length) = some 1 := by decide +kernel
theorem hh_Gr_entitle : y_Gr_entitle.cls ≠ "java/lang/invoke/MethodHandle" ∧ y_Gr_entitle.cls ≠ "java/lang/invoke/VarHandle" ∧ (parseMethodDescriptor y_Gr_entitle.desc).map (fun d => d.parameters.length) = some 2 := by decide +kernel
theorem hh_Gr_strip : y_Gr_strip.cls ≠ "java/lang/invoke/MethodHandle" ∧ y_Gr_strip.cls ≠ "java/lang/invoke/VarHandle" ∧ (parseMethodDescriptor y_Gr_strip.desc).map (fun d => d.parameters.length) = some 1 := by decide +kernel
theorem hh_Gr_givenSets : y_Gr_givenSets.cls ≠ "java/lang/invoke/MethodHandle" ∧ y_Gr_givenSets.cls ≠ "java/lang/invoke/VarHandle" ∧ (parseMethodDescriptor y_Gr_givenSets.desc).map (fun d => d.parameters.length) = some 0 := by decide +kernel
theorem hh_Md_isIn : y_Md_isIn.cls ≠ "java/lang/invoke/MethodHandle" ∧ y_Md_isIn.cls ≠ "java/lang/invoke/VarHandle" ∧ (parseMethodDescriptor y_Md_isIn.desc).map (fun d => d.parameters.length) = some 3 := by decide +kernel
theorem hh_Md_isPlace : y_Md_isPlace.cls ≠ "java/lang/invoke/MethodHandle" ∧ y_Md_isPlace.cls ≠ "java/lang/invoke/VarHandle" ∧ (parseMethodDescriptor y_Md_isPlace.desc).map (fun d => d.parameters.length) = some 1 := by decide +kernel
theorem hh_Md_isName : y_Md_isName.cls ≠ "java/lang/invoke/MethodHandle" ∧ y_Md_isName.cls ≠ "java/lang/invoke/VarHandle" ∧ (parseMethodDescriptor y_Md_isName.desc).map (fun d => d.parameters.length) = some 1 := by decide +kernel
theorem hh_Md_isWord : y_Md_isWord.cls ≠ "java/lang/invoke/MethodHandle" ∧ y_Md_isWord.cls ≠ "java/lang/invoke/VarHandle" ∧ (parseMethodDescriptor y_Md_isWord.desc).map (fun d => d.parameters.length) = some 1 := by decide +kernel
theorem hh_Md_bits : y_Md_bits.cls ≠ "java/lang/invoke/MethodHandle" ∧ y_Md_bits.cls ≠ "java/lang/invoke/VarHandle" ∧ (parseMethodDescriptor y_Md_bits.desc).map (fun d => d.parameters.length) = some 1 := by decide +kernel
theorem hh_Md_road : y_Md_road.cls ≠ "java/lang/invoke/MethodHandle" ∧ y_Md_road.cls ≠ "java/lang/invoke/VarHandle" ∧ (parseMethodDescriptor y_Md_road.desc).map (fun d => d.parameters.length) = some 3 := by decide +kernel
theorem hh_Md_far : y_Md_far.cls ≠ "java/lang/invoke/MethodHandle" ∧ y_Md_far.cls ≠ "java/lang/invoke/VarHandle" ∧ (parseMethodDescriptor y_Md_far.desc).map (fun d => d.parameters.length) = some 2 := by decide +kernel
theorem hh_Md_enters : y_Md_enters.cls ≠ "java/lang/invoke/MethodHandle" ∧ y_Md_enters.cls ≠ "java/lang/invoke/VarHandle" ∧ (parseMethodDescriptor y_Md_enters.desc).map (fun d => d.parameters.length) = some 3 := by decide +kernel
theorem hh_Md_isTold : y_Md_isTold.cls ≠ "java/lang/invoke/MethodHandle" ∧ y_Md_isTold.cls ≠ "java/lang/invoke/VarHandle" ∧ (parseMethodDescriptor y_Md_isTold.desc).map (fun d => d.parameters.length) = some 1 := by decide +kernel
theorem hh_Md_by : y_Md_by.cls ≠ "java/lang/invoke/MethodHandle" ∧ y_Md_by.cls ≠ "java/lang/invoke/VarHandle" ∧ (parseMethodDescriptor y_Md_by.desc).map (fun d => d.parameters.length) = some 1 := by decide +kernel
theorem hh_Md_feed : y_Md_feed.cls ≠ "java/lang/invoke/MethodHandle" ∧ y_Md_feed.cls ≠ "java/lang/invoke/VarHandle" ∧ (parseMethodDescriptor y_Md_feed.desc).map (fun d => d.parameters.length) = some 2 := by decide +kernel
theorem hh_Md_plain : y_Md_plain.cls ≠ "java/lang/invoke/MethodHandle" ∧ y_Md_plain.cls ≠ "java/lang/invoke/VarHandle" ∧ (parseMethodDescriptor y_Md_plain.desc).map (fun d => d.parameters.length) = some 1 := by decide +kernel
theorem hh_Md_isVowel : y_Md_isVowel.cls ≠ "java/lang/invoke/MethodHandle" ∧ y_Md_isVowel.cls ≠ "java/lang/invoke/VarHandle" ∧ (parseMethodDescriptor y_Md_isVowel.desc).map (fun d => d.parameters.length) = some 1 := by decide +kernel
theorem hh_Md_drops : y_Md_drops.cls ≠ "java/lang/invoke/MethodHandle" ∧ y_Md_drops.cls ≠ "java/lang/invoke/VarHandle" ∧ (parseMethodDescriptor y_Md_drops.desc).map (fun d => d.parameters.length) = some 1 := by decide +kernel
theorem hh_Md_findKey : y_Md_findKey.cls ≠ "java/lang/invoke/MethodHandle" ∧ y_Md_findKey.cls ≠ "java/lang/invoke/VarHandle" ∧ (parseMethodDescriptor y_Md_findKey.desc).map (fun d => d.parameters.length) = some 1 := by decide +kernel
theorem hh_Md_name : y_Md_name.cls ≠ "java/lang/invoke/MethodHandle" ∧ y_Md_name.cls ≠ "java/lang/invoke/VarHandle" ∧ (parseMethodDescriptor y_Md_name.desc).map (fun d => d.parameters.length) = some 0 := by decide +kernel
theorem hh_Md_key : y_Md_key.cls ≠ "java/lang/invoke/MethodHandle" ∧ y_Md_key.cls ≠ "java/lang/invoke/VarHandle" ∧ (parseMethodDescriptor y_Md_key.desc).map (fun d => d.parameters.length) = some 2 := by decide +kernel
theorem hh_Md_haveOneKey : y_Md_haveOneKey.cls ≠ "java/lang/invoke/MethodHandle" ∧ y_Md_haveOneKey.cls ≠ "java/lang/invoke/VarHandle" ∧ (parseMethodDescriptor y_Md_haveOneKey.desc).map (fun d => d.parameters.length) = some 2 := by decide +kernel
theorem hh_Md_relates : y_Md_relates.cls ≠ "java/lang/invoke/MethodHandle" ∧ y_Md_relates.cls ≠ "java/lang/invoke/VarHandle" ∧ (parseMethodDescriptor y_Md_relates.desc).map (fun d => d.parameters.length) = some 3 := by decide +kernel
theorem hh_Md_join : y_Md_join.cls ≠ "java/lang/invoke/MethodHandle" ∧ y_Md_join.cls ≠ "java/lang/invoke/VarHandle" ∧ (parseMethodDescriptor y_Md_join.desc).map (fun d => d.parameters.length) = some 2 := by decide +kernel
theorem hh_Md_part : y_Md_part.cls ≠ "java/lang/invoke/MethodHandle" ∧ y_Md_part.cls ≠ "java/lang/invoke/VarHandle" ∧ (parseMethodDescriptor y_Md_part.desc).map (fun d => d.parameters.length) = some 2 := by decide +kernel
theorem hh_Md_looks : y_Md_looks.cls ≠ "java/lang/invoke/MethodHandle" ∧ y_Md_looks.cls ≠ "java/lang/invoke/VarHandle" ∧ (parseMethodDescriptor y_Md_looks.desc).map (fun d => d.parameters.length) = some 1 := by decide +kernel
theorem hh_Md_findPersons : y_Md_findPersons.cls ≠ "java/lang/invoke/MethodHandle" ∧ y_Md_findPersons.cls ≠ "java/lang/invoke/VarHandle" ∧ (parseMethodDescriptor y_Md_findPersons.desc).map (fun d => d.parameters.length) = some 0 := by decide +kernel
theorem hh_Md_link : y_Md_link.cls ≠ "java/lang/invoke/MethodHandle" ∧ y_Md_link.cls ≠ "java/lang/invoke/VarHandle" ∧ (parseMethodDescriptor y_Md_link.desc).map (fun d => d.parameters.length) = some 3 := by decide +kernel
theorem hh_Md_isThere : y_Md_isThere.cls ≠ "java/lang/invoke/MethodHandle" ∧ y_Md_isThere.cls ≠ "java/lang/invoke/VarHandle" ∧ (parseMethodDescriptor y_Md_isThere.desc).map (fun d => d.parameters.length) = some 2 := by decide +kernel
theorem hh_Md_person : y_Md_person.cls ≠ "java/lang/invoke/MethodHandle" ∧ y_Md_person.cls ≠ "java/lang/invoke/VarHandle" ∧ (parseMethodDescriptor y_Md_person.desc).map (fun d => d.parameters.length) = some 2 := by decide +kernel
theorem hh_Md_tie : y_Md_tie.cls ≠ "java/lang/invoke/MethodHandle" ∧ y_Md_tie.cls ≠ "java/lang/invoke/VarHandle" ∧ (parseMethodDescriptor y_Md_tie.desc).map (fun d => d.parameters.length) = some 3 := by decide +kernel
theorem hh_Md_word : y_Md_word.cls ≠ "java/lang/invoke/MethodHandle" ∧ y_Md_word.cls ≠ "java/lang/invoke/VarHandle" ∧ (parseMethodDescriptor y_Md_word.desc).map (fun d => d.parameters.length) = some 6 := by decide +kernel
theorem hh_Md_standing : y_Md_standing.cls ≠ "java/lang/invoke/MethodHandle" ∧ y_Md_standing.cls ≠ "java/lang/invoke/VarHandle" ∧ (parseMethodDescriptor y_Md_standing.desc).map (fun d => d.parameters.length) = some 0 := by decide +kernel
theorem hh_Md_withdraw : y_Md_withdraw.cls ≠ "java/lang/invoke/MethodHandle" ∧ y_Md_withdraw.cls ≠ "java/lang/invoke/VarHandle" ∧ (parseMethodDescriptor y_Md_withdraw.desc).map (fun d => d.parameters.length) = some 1 := by decide +kernel
theorem hh_Md_about : y_Md_about.cls ≠ "java/lang/invoke/MethodHandle" ∧ y_Md_about.cls ≠ "java/lang/invoke/VarHandle" ∧ (parseMethodDescriptor y_Md_about.desc).map (fun d => d.parameters.length) = some 3 := by decide +kernel
theorem hh_Md_findRoots : y_Md_findRoots.cls ≠ "java/lang/invoke/MethodHandle" ∧ y_Md_findRoots.cls ≠ "java/lang/invoke/VarHandle" ∧ (parseMethodDescriptor y_Md_findRoots.desc).map (fun d => d.parameters.length) = some 1 := by decide +kernel
theorem hh_Md_root : y_Md_root.cls ≠ "java/lang/invoke/MethodHandle" ∧ y_Md_root.cls ≠ "java/lang/invoke/VarHandle" ∧ (parseMethodDescriptor y_Md_root.desc).map (fun d => d.parameters.length) = some 3 := by decide +kernel
theorem hh_Md_eyesOf : y_Md_eyesOf.cls ≠ "java/lang/invoke/MethodHandle" ∧ y_Md_eyesOf.cls ≠ "java/lang/invoke/VarHandle" ∧ (parseMethodDescriptor y_Md_eyesOf.desc).map (fun d => d.parameters.length) = some 0 := by decide +kernel
theorem hh_Md_eyes : y_Md_eyes.cls ≠ "java/lang/invoke/MethodHandle" ∧ y_Md_eyes.cls ≠ "java/lang/invoke/VarHandle" ∧ (parseMethodDescriptor y_Md_eyes.desc).map (fun d => d.parameters.length) = some 2 := by decide +kernel
theorem hh_Md_takesRoots : y_Md_takesRoots.cls ≠ "java/lang/invoke/MethodHandle" ∧ y_Md_takesRoots.cls ≠ "java/lang/invoke/VarHandle" ∧ (parseMethodDescriptor y_Md_takesRoots.desc).map (fun d => d.parameters.length) = some 0 := by decide +kernel
theorem hh_Md_fillEarliest : y_Md_fillEarliest.cls ≠ "java/lang/invoke/MethodHandle" ∧ y_Md_fillEarliest.cls ≠ "java/lang/invoke/VarHandle" ∧ (parseMethodDescriptor y_Md_fillEarliest.desc).map (fun d => d.parameters.length) = some 0 := by decide +kernel
theorem hh_Md_comesAt : y_Md_comesAt.cls ≠ "java/lang/invoke/MethodHandle" ∧ y_Md_comesAt.cls ≠ "java/lang/invoke/VarHandle" ∧ (parseMethodDescriptor y_Md_comesAt.desc).map (fun d => d.parameters.length) = some 3 := by decide +kernel
theorem hh_Md_canBe : y_Md_canBe.cls ≠ "java/lang/invoke/MethodHandle" ∧ y_Md_canBe.cls ≠ "java/lang/invoke/VarHandle" ∧ (parseMethodDescriptor y_Md_canBe.desc).map (fun d => d.parameters.length) = some 1 := by decide +kernel
theorem hh_Md_canAll : y_Md_canAll.cls ≠ "java/lang/invoke/MethodHandle" ∧ y_Md_canAll.cls ≠ "java/lang/invoke/VarHandle" ∧ (parseMethodDescriptor y_Md_canAll.desc).map (fun d => d.parameters.length) = some 0 := by decide +kernel
theorem hh_Md_can : y_Md_can.cls ≠ "java/lang/invoke/MethodHandle" ∧ y_Md_can.cls ≠ "java/lang/invoke/VarHandle" ∧ (parseMethodDescriptor y_Md_can.desc).map (fun d => d.parameters.length) = some 2 := by decide +kernel
theorem hh_Md_quarrel : y_Md_quarrel.cls ≠ "java/lang/invoke/MethodHandle" ∧ y_Md_quarrel.cls ≠ "java/lang/invoke/VarHandle" ∧ (parseMethodDescriptor y_Md_quarrel.desc).map (fun d => d.parameters.length) = some 3 := by decide +kernel
theorem hh_Md_could : y_Md_could.cls ≠ "java/lang/invoke/MethodHandle" ∧ y_Md_could.cls ≠ "java/lang/invoke/VarHandle" ∧ (parseMethodDescriptor y_Md_could.desc).map (fun d => d.parameters.length) = some 4 := by decide +kernel
theorem hh_Md_lastRoot : y_Md_lastRoot.cls ≠ "java/lang/invoke/MethodHandle" ∧ y_Md_lastRoot.cls ≠ "java/lang/invoke/VarHandle" ∧ (parseMethodDescriptor y_Md_lastRoot.desc).map (fun d => d.parameters.length) = some 0 := by decide +kernel
theorem hh_Md_last : y_Md_last.cls ≠ "java/lang/invoke/MethodHandle" ∧ y_Md_last.cls ≠ "java/lang/invoke/VarHandle" ∧ (parseMethodDescriptor y_Md_last.desc).map (fun d => d.parameters.length) = some 2 := by decide +kernel
theorem hh_Md_sign : y_Md_sign.cls ≠ "java/lang/invoke/MethodHandle" ∧ y_Md_sign.cls ≠ "java/lang/invoke/VarHandle" ∧ (parseMethodDescriptor y_Md_sign.desc).map (fun d => d.parameters.length) = some 0 := by decide +kernel
theorem hh_Md_isDigit : y_Md_isDigit.cls ≠ "java/lang/invoke/MethodHandle" ∧ y_Md_isDigit.cls ≠ "java/lang/invoke/VarHandle" ∧ (parseMethodDescriptor y_Md_isDigit.desc).map (fun d => d.parameters.length) = some 1 := by decide +kernel
theorem hh_Md_isField : y_Md_isField.cls ≠ "java/lang/invoke/MethodHandle" ∧ y_Md_isField.cls ≠ "java/lang/invoke/VarHandle" ∧ (parseMethodDescriptor y_Md_isField.desc).map (fun d => d.parameters.length) = some 1 := by decide +kernel
theorem hh_Md_writes : y_Md_writes.cls ≠ "java/lang/invoke/MethodHandle" ∧ y_Md_writes.cls ≠ "java/lang/invoke/VarHandle" ∧ (parseMethodDescriptor y_Md_writes.desc).map (fun d => d.parameters.length) = some 1 := by decide +kernel
theorem hh_Md_unstacks : y_Md_unstacks.cls ≠ "java/lang/invoke/MethodHandle" ∧ y_Md_unstacks.cls ≠ "java/lang/invoke/VarHandle" ∧ (parseMethodDescriptor y_Md_unstacks.desc).map (fun d => d.parameters.length) = some 1 := by decide +kernel
theorem hh_Md_operand : y_Md_operand.cls ≠ "java/lang/invoke/MethodHandle" ∧ y_Md_operand.cls ≠ "java/lang/invoke/VarHandle" ∧ (parseMethodDescriptor y_Md_operand.desc).map (fun d => d.parameters.length) = some 0 := by decide +kernel
theorem hh_Md_when : y_Md_when.cls ≠ "java/lang/invoke/MethodHandle" ∧ y_Md_when.cls ≠ "java/lang/invoke/VarHandle" ∧ (parseMethodDescriptor y_Md_when.desc).map (fun d => d.parameters.length) = some 0 := by decide +kernel
theorem hh_Md_takes : y_Md_takes.cls ≠ "java/lang/invoke/MethodHandle" ∧ y_Md_takes.cls ≠ "java/lang/invoke/VarHandle" ∧ (parseMethodDescriptor y_Md_takes.desc).map (fun d => d.parameters.length) = some 1 := by decide +kernel
theorem hh_Md_isElse : y_Md_isElse.cls ≠ "java/lang/invoke/MethodHandle" ∧ y_Md_isElse.cls ≠ "java/lang/invoke/VarHandle" ∧ (parseMethodDescriptor y_Md_isElse.desc).map (fun d => d.parameters.length) = some 1 := by decide +kernel
theorem hh_Md_parses : y_Md_parses.cls ≠ "java/lang/invoke/MethodHandle" ∧ y_Md_parses.cls ≠ "java/lang/invoke/VarHandle" ∧ (parseMethodDescriptor y_Md_parses.desc).map (fun d => d.parameters.length) = some 0 := by decide +kernel
theorem hh_Md_rule : y_Md_rule.cls ≠ "java/lang/invoke/MethodHandle" ∧ y_Md_rule.cls ≠ "java/lang/invoke/VarHandle" ∧ (parseMethodDescriptor y_Md_rule.desc).map (fun d => d.parameters.length) = some 0 := by decide +kernel
theorem hh_Md_namesOf : y_Md_namesOf.cls ≠ "java/lang/invoke/MethodHandle" ∧ y_Md_namesOf.cls ≠ "java/lang/invoke/VarHandle" ∧ (parseMethodDescriptor y_Md_namesOf.desc).map (fun d => d.parameters.length) = some 1 := by decide +kernel
theorem hh_Md_heardBy : y_Md_heardBy.cls ≠ "java/lang/invoke/MethodHandle" ∧ y_Md_heardBy.cls ≠ "java/lang/invoke/VarHandle" ∧ (parseMethodDescriptor y_Md_heardBy.desc).map (fun d => d.parameters.length) = some 1 := by decide +kernel
theorem hh_Md_findFacts : y_Md_findFacts.cls ≠ "java/lang/invoke/MethodHandle" ∧ y_Md_findFacts.cls ≠ "java/lang/invoke/VarHandle" ∧ (parseMethodDescriptor y_Md_findFacts.desc).map (fun d => d.parameters.length) = some 1 := by decide +kernel
theorem hh_Md_isSo : y_Md_isSo.cls ≠ "java/lang/invoke/MethodHandle" ∧ y_Md_isSo.cls ≠ "java/lang/invoke/VarHandle" ∧ (parseMethodDescriptor y_Md_isSo.desc).map (fun d => d.parameters.length) = some 3 := by decide +kernel
theorem hh_Md_digitOf : y_Md_digitOf.cls ≠ "java/lang/invoke/MethodHandle" ∧ y_Md_digitOf.cls ≠ "java/lang/invoke/VarHandle" ∧ (parseMethodDescriptor y_Md_digitOf.desc).map (fun d => d.parameters.length) = some 2 := by decide +kernel
theorem hh_Md_finding : y_Md_finding.cls ≠ "java/lang/invoke/MethodHandle" ∧ y_Md_finding.cls ≠ "java/lang/invoke/VarHandle" ∧ (parseMethodDescriptor y_Md_finding.desc).map (fun d => d.parameters.length) = some 2 := by decide +kernel
theorem hh_Md_find : y_Md_find.cls ≠ "java/lang/invoke/MethodHandle" ∧ y_Md_find.cls ≠ "java/lang/invoke/VarHandle" ∧ (parseMethodDescriptor y_Md_find.desc).map (fun d => d.parameters.length) = some 1 := by decide +kernel
theorem hh_Md_isHeld : y_Md_isHeld.cls ≠ "java/lang/invoke/MethodHandle" ∧ y_Md_isHeld.cls ≠ "java/lang/invoke/VarHandle" ∧ (parseMethodDescriptor y_Md_isHeld.desc).map (fun d => d.parameters.length) = some 1 := by decide +kernel
theorem hh_Md_leans : y_Md_leans.cls ≠ "java/lang/invoke/MethodHandle" ∧ y_Md_leans.cls ≠ "java/lang/invoke/VarHandle" ∧ (parseMethodDescriptor y_Md_leans.desc).map (fun d => d.parameters.length) = some 2 := by decide +kernel
theorem hh_Md_found : y_Md_found.cls ≠ "java/lang/invoke/MethodHandle" ∧ y_Md_found.cls ≠ "java/lang/invoke/VarHandle" ∧ (parseMethodDescriptor y_Md_found.desc).map (fun d => d.parameters.length) = some 2 := by decide +kernel
theorem hh_Md_bone : y_Md_bone.cls ≠ "java/lang/invoke/MethodHandle" ∧ y_Md_bone.cls ≠ "java/lang/invoke/VarHandle" ∧ (parseMethodDescriptor y_Md_bone.desc).map (fun d => d.parameters.length) = some 4 := by decide +kernel
theorem hh_Md_bound : y_Md_bound.cls ≠ "java/lang/invoke/MethodHandle" ∧ y_Md_bound.cls ≠ "java/lang/invoke/VarHandle" ∧ (parseMethodDescriptor y_Md_bound.desc).map (fun d => d.parameters.length) = some 1 := by decide +kernel
theorem hh_Md_couples : y_Md_couples.cls ≠ "java/lang/invoke/MethodHandle" ∧ y_Md_couples.cls ≠ "java/lang/invoke/VarHandle" ∧ (parseMethodDescriptor y_Md_couples.desc).map (fun d => d.parameters.length) = some 2 := by decide +kernel
theorem hh_Md_least : y_Md_least.cls ≠ "java/lang/invoke/MethodHandle" ∧ y_Md_least.cls ≠ "java/lang/invoke/VarHandle" ∧ (parseMethodDescriptor y_Md_least.desc).map (fun d => d.parameters.length) = some 1 := by decide +kernel
theorem hh_Md_isSet : y_Md_isSet.cls ≠ "java/lang/invoke/MethodHandle" ∧ y_Md_isSet.cls ≠ "java/lang/invoke/VarHandle" ∧ (parseMethodDescriptor y_Md_isSet.desc).map (fun d => d.parameters.length) = some 1 := by decide +kernel
theorem hh_Md_areMarks : y_Md_areMarks.cls ≠ "java/lang/invoke/MethodHandle" ∧ y_Md_areMarks.cls ≠ "java/lang/invoke/VarHandle" ∧ (parseMethodDescriptor y_Md_areMarks.desc).map (fun d => d.parameters.length) = some 2 := by decide +kernel
theorem hh_Md_set : y_Md_set.cls ≠ "java/lang/invoke/MethodHandle" ∧ y_Md_set.cls ≠ "java/lang/invoke/VarHandle" ∧ (parseMethodDescriptor y_Md_set.desc).map (fun d => d.parameters.length) = some 5 := by decide +kernel
theorem hh_Md_missingOf : y_Md_missingOf.cls ≠ "java/lang/invoke/MethodHandle" ∧ y_Md_missingOf.cls ≠ "java/lang/invoke/VarHandle" ∧ (parseMethodDescriptor y_Md_missingOf.desc).map (fun d => d.parameters.length) = some 1 := by decide +kernel
theorem hh_Md_isGiven : y_Md_isGiven.cls ≠ "java/lang/invoke/MethodHandle" ∧ y_Md_isGiven.cls ≠ "java/lang/invoke/VarHandle" ∧ (parseMethodDescriptor y_Md_isGiven.desc).map (fun d => d.parameters.length) = some 1 := by decide +kernel
theorem hh_Md_missing : y_Md_missing.cls ≠ "java/lang/invoke/MethodHandle" ∧ y_Md_missing.cls ≠ "java/lang/invoke/VarHandle" ∧ (parseMethodDescriptor y_Md_missing.desc).map (fun d => d.parameters.length) = some 4 := by decide +kernel
theorem hh_Md_fits : y_Md_fits.cls ≠ "java/lang/invoke/MethodHandle" ∧ y_Md_fits.cls ≠ "java/lang/invoke/VarHandle" ∧ (parseMethodDescriptor y_Md_fits.desc).map (fun d => d.parameters.length) = some 2 := by decide +kernel
theorem hh_Md_fit : y_Md_fit.cls ≠ "java/lang/invoke/MethodHandle" ∧ y_Md_fit.cls ≠ "java/lang/invoke/VarHandle" ∧ (parseMethodDescriptor y_Md_fit.desc).map (fun d => d.parameters.length) = some 2 := by decide +kernel
theorem hh_Md_findFirsts : y_Md_findFirsts.cls ≠ "java/lang/invoke/MethodHandle" ∧ y_Md_findFirsts.cls ≠ "java/lang/invoke/VarHandle" ∧ (parseMethodDescriptor y_Md_findFirsts.desc).map (fun d => d.parameters.length) = some 0 := by decide +kernel
theorem hh_Md_mayGet : y_Md_mayGet.cls ≠ "java/lang/invoke/MethodHandle" ∧ y_Md_mayGet.cls ≠ "java/lang/invoke/VarHandle" ∧ (parseMethodDescriptor y_Md_mayGet.desc).map (fun d => d.parameters.length) = some 2 := by decide +kernel
theorem hh_Md_waysOf : y_Md_waysOf.cls ≠ "java/lang/invoke/MethodHandle" ∧ y_Md_waysOf.cls ≠ "java/lang/invoke/VarHandle" ∧ (parseMethodDescriptor y_Md_waysOf.desc).map (fun d => d.parameters.length) = some 3 := by decide +kernel
theorem hh_Md_areSets : y_Md_areSets.cls ≠ "java/lang/invoke/MethodHandle" ∧ y_Md_areSets.cls ≠ "java/lang/invoke/VarHandle" ∧ (parseMethodDescriptor y_Md_areSets.desc).map (fun d => d.parameters.length) = some 1 := by decide +kernel
theorem hh_Md_namings : y_Md_namings.cls ≠ "java/lang/invoke/MethodHandle" ∧ y_Md_namings.cls ≠ "java/lang/invoke/VarHandle" ∧ (parseMethodDescriptor y_Md_namings.desc).map (fun d => d.parameters.length) = some 1 := by decide +kernel
theorem hh_Md_onlyOf : y_Md_onlyOf.cls ≠ "java/lang/invoke/MethodHandle" ∧ y_Md_onlyOf.cls ≠ "java/lang/invoke/VarHandle" ∧ (parseMethodDescriptor y_Md_onlyOf.desc).map (fun d => d.parameters.length) = some 2 := by decide +kernel
theorem hh_Md_only : y_Md_only.cls ≠ "java/lang/invoke/MethodHandle" ∧ y_Md_only.cls ≠ "java/lang/invoke/VarHandle" ∧ (parseMethodDescriptor y_Md_only.desc).map (fun d => d.parameters.length) = some 2 := by decide +kernel
theorem hh_Md_why : y_Md_why.cls ≠ "java/lang/invoke/MethodHandle" ∧ y_Md_why.cls ≠ "java/lang/invoke/VarHandle" ∧ (parseMethodDescriptor y_Md_why.desc).map (fun d => d.parameters.length) = some 1 := by decide +kernel
theorem hh_Md_give : y_Md_give.cls ≠ "java/lang/invoke/MethodHandle" ∧ y_Md_give.cls ≠ "java/lang/invoke/VarHandle" ∧ (parseMethodDescriptor y_Md_give.desc).map (fun d => d.parameters.length) = some 1 := by decide +kernel
theorem hh_Md_take : y_Md_take.cls ≠ "java/lang/invoke/MethodHandle" ∧ y_Md_take.cls ≠ "java/lang/invoke/VarHandle" ∧ (parseMethodDescriptor y_Md_take.desc).map (fun d => d.parameters.length) = some 1 := by decide +kernel
theorem hh_Md_named : y_Md_named.cls ≠ "java/lang/invoke/MethodHandle" ∧ y_Md_named.cls ≠ "java/lang/invoke/VarHandle" ∧ (parseMethodDescriptor y_Md_named.desc).map (fun d => d.parameters.length) = some 1 := by decide +kernel
theorem hh_Md_count : y_Md_count.cls ≠ "java/lang/invoke/MethodHandle" ∧ y_Md_count.cls ≠ "java/lang/invoke/VarHandle" ∧ (parseMethodDescriptor y_Md_count.desc).map (fun d => d.parameters.length) = some 1 := by decide +kernel
theorem hh_Jl_bitCount : y_Jl_bitCount.cls ≠ "java/lang/invoke/MethodHandle" ∧ y_Jl_bitCount.cls ≠ "java/lang/invoke/VarHandle" ∧ (parseMethodDescriptor y_Jl_bitCount.desc).map (fun d => d.parameters.length) = some 1 := by decide +kernel
end
