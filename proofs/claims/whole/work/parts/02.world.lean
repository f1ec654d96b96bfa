section
def T_LS : u_T := fun k => match k with
  | 0 => ("LastSeen", "land", "LLastSeen$Land;", true)
  | 1 => ("LastSeen", "tape", "LLastSeen$Tape;", true)
  | 2 => ("LastSeen", "names", "LLastSeen$Names;", true)
  | 3 => ("LastSeen", "words", "LLastSeen$Words;", true)
  | 4 => ("LastSeen", "hearing", "LLastSeen$Hearing;", true)
  | 5 => ("LastSeen", "rules", "LLastSeen$Rules;", true)
  | 6 => ("LastSeen", "bones", "LLastSeen$Bones;", true)
  | 7 => ("LastSeen", "graves", "LLastSeen$Graves;", true)
  | 8 => ("LastSeen", "foundName", "[I", true)
  | 9 => ("LastSeen", "foundEntries", "[I", true)
  | 10 => ("LastSeen", "foundRule", "[I", true)
  | 11 => ("LastSeen", "foundDigit", "[I", true)
  | 12 => ("LastSeen", "founds", "I", false)
  | _ => ("LastSeen", "entries", "I", false)
def t_LS : Nat → FieldType := fun k => match k with
  | 0 => .object "LastSeen$Land"
  | 1 => .object "LastSeen$Tape"
  | 2 => .object "LastSeen$Names"
  | 3 => .object "LastSeen$Words"
  | 4 => .object "LastSeen$Hearing"
  | 5 => .object "LastSeen$Rules"
  | 6 => .object "LastSeen$Bones"
  | 7 => .object "LastSeen$Graves"
  | 8 => .array .int
  | 9 => .array .int
  | 10 => .array .int
  | 11 => .array .int
  | 12 => .int
  | _ => .int
theorem n_LS : ∀ a, a < 14 → ∀ b, b < 14 → a ≠ b → (T_LS a).2.1 ≠ (T_LS b).2.1 := by decide +kernel
theorem to_LS : ∀ k, k < 14 → parseFieldDescriptor (T_LS k).2.2.1 = some (t_LS k) := by decide +kernel
theorem in_LS : ∀ w ∈ u_ws "LastSeen" T_LS 14, w ∈ lw_ok := by
  intro w hw
  have hg : (u_ws "LastSeen" T_LS 14).all goodWord = true := by decide +kernel
  have hgw := List.all_eq_true.mp hg w hw
  have e : u_ws "LastSeen" T_LS 14 = ([361, 363, 365, 367, 369, 371, 373, 375, 377, 379, 381, 383, 385, 387] : List Nat).filterMap (fun i => tables_1[i]?) := by decide +kernel
  rw [e] at hw
  obtain ⟨i, -, hi⟩ := List.mem_filterMap.mp hw
  exact lw_up (List.mem_of_getElem? hi) hgw
def T_La : u_T := fun k => match k with
  | 0 => ("LastSeen$Land", "watches", "[I", true)
  | _ => ("LastSeen$Land", "roads", "I", false)
def t_La : Nat → FieldType := fun k => match k with
  | 0 => .array .int
  | _ => .int
theorem n_La : ∀ a, a < 2 → ∀ b, b < 2 → a ≠ b → (T_La a).2.1 ≠ (T_La b).2.1 := by decide +kernel
theorem to_La : ∀ k, k < 2 → parseFieldDescriptor (T_La k).2.2.1 = some (t_La k) := by decide +kernel
theorem in_La : ∀ w ∈ u_ws "LastSeen$Land" T_La 2, w ∈ lw_ok := by
  intro w hw
  have hg : (u_ws "LastSeen$Land" T_La 2).all goodWord = true := by decide +kernel
  have hgw := List.all_eq_true.mp hg w hw
  have e : u_ws "LastSeen$Land" T_La 2 = ([31, 33] : List Nat).filterMap (fun i => tables_1[i]?) := by decide +kernel
  rw [e] at hw
  obtain ⟨i, -, hi⟩ := List.mem_filterMap.mp hw
  exact lw_up (List.mem_of_getElem? hi) hgw
def T_Ta : u_T := fun k => match k with
  | 0 => ("LastSeen$Tape", "bytes", "[B", true)
  | _ => ("LastSeen$Tape", "size", "I", false)
def t_Ta : Nat → FieldType := fun k => match k with
  | 0 => .array .byte
  | _ => .int
theorem n_Ta : ∀ a, a < 2 → ∀ b, b < 2 → a ≠ b → (T_Ta a).2.1 ≠ (T_Ta b).2.1 := by decide +kernel
theorem to_Ta : ∀ k, k < 2 → parseFieldDescriptor (T_Ta k).2.2.1 = some (t_Ta k) := by decide +kernel
theorem in_Ta : ∀ w ∈ u_ws "LastSeen$Tape" T_Ta 2, w ∈ lw_ok := by
  intro w hw
  have hg : (u_ws "LastSeen$Tape" T_Ta 2).all goodWord = true := by decide +kernel
  have hgw := List.all_eq_true.mp hg w hw
  have e : u_ws "LastSeen$Tape" T_Ta 2 = ([45, 47] : List Nat).filterMap (fun i => tables_1[i]?) := by decide +kernel
  rw [e] at hw
  obtain ⟨i, -, hi⟩ := List.mem_filterMap.mp hw
  exact lw_up (List.mem_of_getElem? hi) hgw
def T_Na : u_T := fun k => match k with
  | 0 => ("LastSeen$Names", "letters", "[I", true)
  | 1 => ("LastSeen$Names", "keySizes", "[I", true)
  | 2 => ("LastSeen$Names", "enteredAt", "[I", true)
  | 3 => ("LastSeen$Names", "size", "I", false)
  | 4 => ("LastSeen$Names", "decreeA", "[I", true)
  | 5 => ("LastSeen$Names", "decreeB", "[I", true)
  | 6 => ("LastSeen$Names", "decreeBond", "[I", true)
  | 7 => ("LastSeen$Names", "decreedAt", "[I", true)
  | 8 => ("LastSeen$Names", "decrees", "I", false)
  | 9 => ("LastSeen$Names", "bonds", "[I", true)
  | 10 => ("LastSeen$Names", "persons", "[I", true)
  | 11 => ("LastSeen$Names", "sizeBy", "I", false)
  | 12 => ("LastSeen$Names", "row", "[I", true)
  | 13 => ("LastSeen$Names", "steps", "[I", true)
  | _ => ("LastSeen$Names", "spelled", "[I", true)
def t_Na : Nat → FieldType := fun k => match k with
  | 0 => .array .int
  | 1 => .array .int
  | 2 => .array .int
  | 3 => .int
  | 4 => .array .int
  | 5 => .array .int
  | 6 => .array .int
  | 7 => .array .int
  | 8 => .int
  | 9 => .array .int
  | 10 => .array .int
  | 11 => .int
  | 12 => .array .int
  | 13 => .array .int
  | _ => .array .int
theorem n_Na : ∀ a, a < 15 → ∀ b, b < 15 → a ≠ b → (T_Na a).2.1 ≠ (T_Na b).2.1 := by decide +kernel
theorem to_Na : ∀ k, k < 15 → parseFieldDescriptor (T_Na k).2.2.1 = some (t_Na k) := by decide +kernel
theorem in_Na : ∀ w ∈ u_ws "LastSeen$Names" T_Na 15, w ∈ lw_ok := by
  intro w hw
  have hg : (u_ws "LastSeen$Names" T_Na 15).all goodWord = true := by decide +kernel
  have hgw := List.all_eq_true.mp hg w hw
  have e : u_ws "LastSeen$Names" T_Na 15 = ([72, 74, 76, 78, 80, 82, 84, 86, 88, 90, 92, 94, 96, 98, 100] : List Nat).filterMap (fun i => tables_1[i]?) := by decide +kernel
  rw [e] at hw
  obtain ⟨i, -, hi⟩ := List.mem_filterMap.mp hw
  exact lw_up (List.mem_of_getElem? hi) hgw
def T_Wo : u_T := fun k => match k with
  | 0 => ("LastSeen$Words", "witness", "[I", true)
  | 1 => ("LastSeen$Words", "names", "[I", true)
  | 2 => ("LastSeen$Words", "places", "[I", true)
  | 3 => ("LastSeen$Words", "first", "[I", true)
  | 4 => ("LastSeen$Words", "last", "[I", true)
  | 5 => ("LastSeen$Words", "heardOf", "[I", true)
  | 6 => ("LastSeen$Words", "roots", "[I", true)
  | 7 => ("LastSeen$Words", "enteredAt", "[I", true)
  | 8 => ("LastSeen$Words", "droppedAt", "[I", true)
  | 9 => ("LastSeen$Words", "size", "I", false)
  | _ => ("LastSeen$Words", "standing", "[Z", true)
def t_Wo : Nat → FieldType := fun k => match k with
  | 0 => .array .int
  | 1 => .array .int
  | 2 => .array .int
  | 3 => .array .int
  | 4 => .array .int
  | 5 => .array .int
  | 6 => .array .int
  | 7 => .array .int
  | 8 => .array .int
  | 9 => .int
  | _ => .array .boolean
theorem n_Wo : ∀ a, a < 11 → ∀ b, b < 11 → a ≠ b → (T_Wo a).2.1 ≠ (T_Wo b).2.1 := by decide +kernel
theorem to_Wo : ∀ k, k < 11 → parseFieldDescriptor (T_Wo k).2.2.1 = some (t_Wo k) := by decide +kernel
theorem in_Wo : ∀ w ∈ u_ws "LastSeen$Words" T_Wo 11, w ∈ lw_ok := by
  intro w hw
  have hg : (u_ws "LastSeen$Words" T_Wo 11).all goodWord = true := by decide +kernel
  have hgw := List.all_eq_true.mp hg w hw
  have e : u_ws "LastSeen$Words" T_Wo 11 = ([120, 122, 124, 126, 128, 130, 132, 134, 136, 138, 140] : List Nat).filterMap (fun i => tables_1[i]?) := by decide +kernel
  rw [e] at hw
  obtain ⟨i, -, hi⟩ := List.mem_filterMap.mp hw
  exact lw_up (List.mem_of_getElem? hi) hgw
def T_Wa : u_T := fun k => match k with
  | 0 => ("LastSeen$Walk", "land", "LLastSeen$Land;", true)
  | 1 => ("LastSeen$Walk", "places", "[I", true)
  | 2 => ("LastSeen$Walk", "first", "[I", true)
  | 3 => ("LastSeen$Walk", "last", "[I", true)
  | 4 => ("LastSeen$Walk", "size", "I", false)
  | 5 => ("LastSeen$Walk", "soonest", "[I", true)
  | _ => ("LastSeen$Walk", "reach", "[I", true)
def t_Wa : Nat → FieldType := fun k => match k with
  | 0 => .object "LastSeen$Land"
  | 1 => .array .int
  | 2 => .array .int
  | 3 => .array .int
  | 4 => .int
  | 5 => .array .int
  | _ => .array .int
theorem n_Wa : ∀ a, a < 7 → ∀ b, b < 7 → a ≠ b → (T_Wa a).2.1 ≠ (T_Wa b).2.1 := by decide +kernel
theorem to_Wa : ∀ k, k < 7 → parseFieldDescriptor (T_Wa k).2.2.1 = some (t_Wa k) := by decide +kernel
theorem in_Wa : ∀ w ∈ u_ws "LastSeen$Walk" T_Wa 7, w ∈ lw_ok := by
  intro w hw
  have hg : (u_ws "LastSeen$Walk" T_Wa 7).all goodWord = true := by decide +kernel
  have hgw := List.all_eq_true.mp hg w hw
  have e : u_ws "LastSeen$Walk" T_Wa 7 = ([159, 161, 163, 165, 167, 169, 171] : List Nat).filterMap (fun i => tables_1[i]?) := by decide +kernel
  rw [e] at hw
  obtain ⟨i, -, hi⟩ := List.mem_filterMap.mp hw
  exact lw_up (List.mem_of_getElem? hi) hgw
def T_He : u_T := fun k => match k with
  | 0 => ("LastSeen$Hearing", "names", "LLastSeen$Names;", true)
  | 1 => ("LastSeen$Hearing", "words", "LLastSeen$Words;", true)
  | 2 => ("LastSeen$Hearing", "walk", "LLastSeen$Walk;", true)
  | 3 => ("LastSeen$Hearing", "isRoot", "[Z", true)
  | 4 => ("LastSeen$Hearing", "isLeanedOn", "[Z", true)
  | 5 => ("LastSeen$Hearing", "roots", "[I", true)
  | 6 => ("LastSeen$Hearing", "rootCount", "I", false)
  | 7 => ("LastSeen$Hearing", "hearsay", "I", false)
  | 8 => ("LastSeen$Hearing", "witnessCount", "I", false)
  | 9 => ("LastSeen$Hearing", "nameCount", "I", false)
  | 10 => ("LastSeen$Hearing", "latest", "I", false)
  | 11 => ("LastSeen$Hearing", "latestWatch", "I", false)
  | 12 => ("LastSeen$Hearing", "latestPlaces", "I", false)
  | 13 => ("LastSeen$Hearing", "person", "I", false)
  | _ => ("LastSeen$Hearing", "agreement", "Z", false)
def t_He : Nat → FieldType := fun k => match k with
  | 0 => .object "LastSeen$Names"
  | 1 => .object "LastSeen$Words"
  | 2 => .object "LastSeen$Walk"
  | 3 => .array .boolean
  | 4 => .array .boolean
  | 5 => .array .int
  | 6 => .int
  | 7 => .int
  | 8 => .int
  | 9 => .int
  | 10 => .int
  | 11 => .int
  | 12 => .int
  | 13 => .int
  | _ => .boolean
theorem n_He : ∀ a, a < 15 → ∀ b, b < 15 → a ≠ b → (T_He a).2.1 ≠ (T_He b).2.1 := by decide +kernel
theorem to_He : ∀ k, k < 15 → parseFieldDescriptor (T_He k).2.2.1 = some (t_He k) := by decide +kernel
theorem in_He : ∀ w ∈ u_ws "LastSeen$Hearing" T_He 15, w ∈ lw_ok := by
  intro w hw
  have hg : (u_ws "LastSeen$Hearing" T_He 15).all goodWord = true := by decide +kernel
  have hgw := List.all_eq_true.mp hg w hw
  have e : u_ws "LastSeen$Hearing" T_He 15 = ([193, 195, 197, 199, 201, 203, 205, 207, 209, 211, 213, 215, 217, 219, 221] : List Nat).filterMap (fun i => tables_1[i]?) := by decide +kernel
  rw [e] at hw
  obtain ⟨i, -, hi⟩ := List.mem_filterMap.mp hw
  exact lw_up (List.mem_of_getElem? hi) hgw
def T_Ru : u_T := fun k => match k with
  | 0 => ("LastSeen$Rules", "texts", "[B", true)
  | 1 => ("LastSeen$Rules", "sizes", "[I", true)
  | 2 => ("LastSeen$Rules", "clauseCounts", "[I", true)
  | 3 => ("LastSeen$Rules", "enteredAt", "[I", true)
  | 4 => ("LastSeen$Rules", "size", "I", false)
  | 5 => ("LastSeen$Rules", "depth", "I", false)
  | 6 => ("LastSeen$Rules", "clauses", "I", false)
  | 7 => ("LastSeen$Rules", "digits", "I", false)
  | 8 => ("LastSeen$Rules", "startsWithZero", "Z", false)
  | 9 => ("LastSeen$Rules", "cursor", "I", false)
  | 10 => ("LastSeen$Rules", "anyRow", "[Z", true)
  | 11 => ("LastSeen$Rules", "thisRow", "[Z", true)
  | _ => ("LastSeen$Rules", "turned", "[Z", true)
def t_Ru : Nat → FieldType := fun k => match k with
  | 0 => .array .byte
  | 1 => .array .int
  | 2 => .array .int
  | 3 => .array .int
  | 4 => .int
  | 5 => .int
  | 6 => .int
  | 7 => .int
  | 8 => .boolean
  | 9 => .int
  | 10 => .array .boolean
  | 11 => .array .boolean
  | _ => .array .boolean
theorem n_Ru : ∀ a, a < 13 → ∀ b, b < 13 → a ≠ b → (T_Ru a).2.1 ≠ (T_Ru b).2.1 := by decide +kernel
theorem to_Ru : ∀ k, k < 13 → parseFieldDescriptor (T_Ru k).2.2.1 = some (t_Ru k) := by decide +kernel
theorem in_Ru : ∀ w ∈ u_ws "LastSeen$Rules" T_Ru 13, w ∈ lw_ok := by
  intro w hw
  have hg : (u_ws "LastSeen$Rules" T_Ru 13).all goodWord = true := by decide +kernel
  have hgw := List.all_eq_true.mp hg w hw
  have e : u_ws "LastSeen$Rules" T_Ru 13 = ([243, 245, 247, 249, 251, 253, 255, 257, 259, 261, 263, 265, 267] : List Nat).filterMap (fun i => tables_1[i]?) := by decide +kernel
  rw [e] at hw
  obtain ⟨i, -, hi⟩ := List.mem_filterMap.mp hw
  exact lw_up (List.mem_of_getElem? hi) hgw
def T_Bn : u_T := fun k => match k with
  | 0 => ("LastSeen$Bones", "sizes", "[I", true)
  | 1 => ("LastSeen$Bones", "counts", "[I", true)
  | _ => ("LastSeen$Bones", "most", "I", false)
def t_Bn : Nat → FieldType := fun k => match k with
  | 0 => .array .int
  | 1 => .array .int
  | _ => .int
theorem n_Bn : ∀ a, a < 3 → ∀ b, b < 3 → a ≠ b → (T_Bn a).2.1 ≠ (T_Bn b).2.1 := by decide +kernel
theorem to_Bn : ∀ k, k < 3 → parseFieldDescriptor (T_Bn k).2.2.1 = some (t_Bn k) := by decide +kernel
theorem in_Bn : ∀ w ∈ u_ws "LastSeen$Bones" T_Bn 3, w ∈ lw_ok := by
  intro w hw
  have hg : (u_ws "LastSeen$Bones" T_Bn 3).all goodWord = true := by decide +kernel
  have hgw := List.all_eq_true.mp hg w hw
  have e : u_ws "LastSeen$Bones" T_Bn 3 = ([279, 281, 283] : List Nat).filterMap (fun i => tables_1[i]?) := by decide +kernel
  rw [e] at hw
  obtain ⟨i, -, hi⟩ := List.mem_filterMap.mp hw
  exact lw_up (List.mem_of_getElem? hi) hgw
def T_Gr : u_T := fun k => match k with
  | 0 => ("LastSeen$Graves", "names", "LLastSeen$Names;", true)
  | 1 => ("LastSeen$Graves", "grave", "[I", true)
  | 2 => ("LastSeen$Graves", "low", "[I", true)
  | 3 => ("LastSeen$Graves", "high", "[I", true)
  | 4 => ("LastSeen$Graves", "has", "[I", true)
  | 5 => ("LastSeen$Graves", "hasNot", "[I", true)
  | 6 => ("LastSeen$Graves", "given", "[I", true)
  | 7 => ("LastSeen$Graves", "givenTurn", "[I", true)
  | 8 => ("LastSeen$Graves", "setCount", "I", false)
  | 9 => ("LastSeen$Graves", "turns", "I", false)
  | 10 => ("LastSeen$Graves", "lostNames", "[I", true)
  | 11 => ("LastSeen$Graves", "height", "[I", true)
  | 12 => ("LastSeen$Graves", "had", "[I", true)
  | 13 => ("LastSeen$Graves", "hadNot", "[I", true)
  | 14 => ("LastSeen$Graves", "lostCount", "I", false)
  | 15 => ("LastSeen$Graves", "same", "[I", true)
  | 16 => ("LastSeen$Graves", "choices", "[I", true)
  | _ => ("LastSeen$Graves", "perSubset", "[I", true)
def t_Gr : Nat → FieldType := fun k => match k with
  | 0 => .object "LastSeen$Names"
  | 1 => .array .int
  | 2 => .array .int
  | 3 => .array .int
  | 4 => .array .int
  | 5 => .array .int
  | 6 => .array .int
  | 7 => .array .int
  | 8 => .int
  | 9 => .int
  | 10 => .array .int
  | 11 => .array .int
  | 12 => .array .int
  | 13 => .array .int
  | 14 => .int
  | 15 => .array .int
  | 16 => .array .int
  | _ => .array .int
theorem n_Gr : ∀ a, a < 18 → ∀ b, b < 18 → a ≠ b → (T_Gr a).2.1 ≠ (T_Gr b).2.1 := by decide +kernel
theorem to_Gr : ∀ k, k < 18 → parseFieldDescriptor (T_Gr k).2.2.1 = some (t_Gr k) := by decide +kernel
theorem in_Gr : ∀ w ∈ u_ws "LastSeen$Graves" T_Gr 18, w ∈ lw_ok := by
  intro w hw
  have hg : (u_ws "LastSeen$Graves" T_Gr 18).all goodWord = true := by decide +kernel
  have hgw := List.all_eq_true.mp hg w hw
  have e : u_ws "LastSeen$Graves" T_Gr 18 = ([310, 312, 314, 316, 318, 320, 322, 324, 326, 328, 330, 332, 334, 336, 338, 340, 342, 344] : List Nat).filterMap (fun i => tables_1[i]?) := by decide +kernel
  rw [e] at hw
  obtain ⟨i, -, hi⟩ := List.mem_filterMap.mp hw
  exact lw_up (List.mem_of_getElem? hi) hgw
def T_Md : u_T := fun k => match k with
  | 0 => ("LastSeenModel", "far", "[I", true)
  | 1 => ("LastSeenModel", "roads", "I", false)
  | 2 => ("LastSeenModel", "entryIs", "[I", true)
  | 3 => ("LastSeenModel", "entryA", "[I", true)
  | 4 => ("LastSeenModel", "entryB", "[I", true)
  | 5 => ("LastSeenModel", "entries", "I", false)
  | 6 => ("LastSeenModel", "tape", "[I", true)
  | 7 => ("LastSeenModel", "key", "[I", true)
  | 8 => ("LastSeenModel", "keySize", "[I", true)
  | 9 => ("LastSeenModel", "taped", "I", false)
  | 10 => ("LastSeenModel", "names", "I", false)
  | 11 => ("LastSeenModel", "spelled", "[I", true)
  | 12 => ("LastSeenModel", "spelledSize", "I", false)
  | 13 => ("LastSeenModel", "seenNames", "I", false)
  | 14 => ("LastSeenModel", "seenWords", "I", false)
  | 15 => ("LastSeenModel", "seenRule", "I", false)
  | 16 => ("LastSeenModel", "isLinked", "[Z", true)
  | 17 => ("LastSeenModel", "isParted", "[Z", true)
  | 18 => ("LastSeenModel", "isGone", "[Z", true)
  | 19 => ("LastSeenModel", "stands", "[Z", true)
  | 20 => ("LastSeenModel", "standsNow", "[Z", true)
  | 21 => ("LastSeenModel", "person", "[I", true)
  | 22 => ("LastSeenModel", "steps", "[I", true)
  | 23 => ("LastSeenModel", "way", "[I", true)
  | 24 => ("LastSeenModel", "witness", "[I", true)
  | 25 => ("LastSeenModel", "ofName", "[I", true)
  | 26 => ("LastSeenModel", "places", "[I", true)
  | 27 => ("LastSeenModel", "first", "[I", true)
  | 28 => ("LastSeenModel", "last", "[I", true)
  | 29 => ("LastSeenModel", "heardOf", "[I", true)
  | 30 => ("LastSeenModel", "rootOf", "[I", true)
  | 31 => ("LastSeenModel", "words", "I", false)
  | 32 => ("LastSeenModel", "root", "[I", true)
  | 33 => ("LastSeenModel", "roots", "I", false)
  | 34 => ("LastSeenModel", "earliest", "[I", true)
  | 35 => ("LastSeenModel", "itemPlaces", "[I", true)
  | 36 => ("LastSeenModel", "itemFirst", "[I", true)
  | 37 => ("LastSeenModel", "itemLast", "[I", true)
  | 38 => ("LastSeenModel", "items", "I", false)
  | 39 => ("LastSeenModel", "code", "[I", true)
  | 40 => ("LastSeenModel", "clauseEnd", "[I", true)
  | 41 => ("LastSeenModel", "clauseDigit", "[I", true)
  | 42 => ("LastSeenModel", "clauses", "[I", true)
  | 43 => ("LastSeenModel", "elseDigit", "[I", true)
  | 44 => ("LastSeenModel", "stack", "[I", true)
  | 45 => ("LastSeenModel", "rules", "I", false)
  | 46 => ("LastSeenModel", "at", "I", false)
  | 47 => ("LastSeenModel", "written", "I", false)
  | 48 => ("LastSeenModel", "deep", "I", false)
  | 49 => ("LastSeenModel", "top", "I", false)
  | 50 => ("LastSeenModel", "fact", "[I", true)
  | 51 => ("LastSeenModel", "foundName", "[I", true)
  | 52 => ("LastSeenModel", "foundBy", "[I", true)
  | 53 => ("LastSeenModel", "foundDigit", "[I", true)
  | 54 => ("LastSeenModel", "findings", "I", false)
  | 55 => ("LastSeenModel", "boneMany", "[I", true)
  | 56 => ("LastSeenModel", "boneSize", "[I", true)
  | 57 => ("LastSeenModel", "bound", "I", false)
  | 58 => ("LastSeenModel", "setGrave", "[I", true)
  | 59 => ("LastSeenModel", "low", "[I", true)
  | 60 => ("LastSeenModel", "high", "[I", true)
  | 61 => ("LastSeenModel", "has", "[I", true)
  | 62 => ("LastSeenModel", "hasNot", "[I", true)
  | 63 => ("LastSeenModel", "given", "[I", true)
  | 64 => ("LastSeenModel", "givenAt", "[I", true)
  | 65 => ("LastSeenModel", "missing", "[I", true)
  | 66 => ("LastSeenModel", "height", "[I", true)
  | 67 => ("LastSeenModel", "had", "[I", true)
  | 68 => ("LastSeenModel", "hadNot", "[I", true)
  | 69 => ("LastSeenModel", "sets", "I", false)
  | 70 => ("LastSeenModel", "missed", "I", false)
  | 71 => ("LastSeenModel", "giving", "I", false)
  | 72 => ("LastSeenModel", "first1", "[I", true)
  | 73 => ("LastSeenModel", "ways", "[I", true)
  | _ => ("LastSeenModel", "waysBefore", "[I", true)
def t_Md : Nat → FieldType := fun k => match k with
  | 0 => .array .int
  | 1 => .int
  | 2 => .array .int
  | 3 => .array .int
  | 4 => .array .int
  | 5 => .int
  | 6 => .array .int
  | 7 => .array .int
  | 8 => .array .int
  | 9 => .int
  | 10 => .int
  | 11 => .array .int
  | 12 => .int
  | 13 => .int
  | 14 => .int
  | 15 => .int
  | 16 => .array .boolean
  | 17 => .array .boolean
  | 18 => .array .boolean
  | 19 => .array .boolean
  | 20 => .array .boolean
  | 21 => .array .int
  | 22 => .array .int
  | 23 => .array .int
  | 24 => .array .int
  | 25 => .array .int
  | 26 => .array .int
  | 27 => .array .int
  | 28 => .array .int
  | 29 => .array .int
  | 30 => .array .int
  | 31 => .int
  | 32 => .array .int
  | 33 => .int
  | 34 => .array .int
  | 35 => .array .int
  | 36 => .array .int
  | 37 => .array .int
  | 38 => .int
  | 39 => .array .int
  | 40 => .array .int
  | 41 => .array .int
  | 42 => .array .int
  | 43 => .array .int
  | 44 => .array .int
  | 45 => .int
  | 46 => .int
  | 47 => .int
  | 48 => .int
  | 49 => .int
  | 50 => .array .int
  | 51 => .array .int
  | 52 => .array .int
  | 53 => .array .int
  | 54 => .int
  | 55 => .array .int
  | 56 => .array .int
  | 57 => .int
  | 58 => .array .int
  | 59 => .array .int
  | 60 => .array .int
  | 61 => .array .int
  | 62 => .array .int
  | 63 => .array .int
  | 64 => .array .int
  | 65 => .array .int
  | 66 => .array .int
  | 67 => .array .int
  | 68 => .array .int
  | 69 => .int
  | 70 => .int
  | 71 => .int
  | 72 => .array .int
  | 73 => .array .int
  | _ => .array .int
theorem n_Md : ∀ a, a < 75 → ∀ b, b < 75 → a ≠ b → (T_Md a).2.1 ≠ (T_Md b).2.1 := by decide +kernel
theorem to_Md : ∀ k, k < 75 → parseFieldDescriptor (T_Md k).2.2.1 = some (t_Md k) := by decide +kernel
theorem in_Md : ∀ w ∈ u_ws "LastSeenModel" T_Md 75, w ∈ lw_ok := by
  intro w hw
  have hg : (u_ws "LastSeenModel" T_Md 75).all goodWord = true := by decide +kernel
  have hgw := List.all_eq_true.mp hg w hw
  have e : u_ws "LastSeenModel" T_Md 75 = ([1242, 1244, 1246, 1248, 1250, 1252, 1254, 1256, 1258, 1260, 1262, 1264, 1266, 1268, 1270, 1272, 1274, 1276, 1278, 1280, 1282, 1284, 1286, 1288, 1290, 1292, 1294, 1296, 1298, 1300, 1302, 1304, 1306, 1308, 1310, 1312, 1314, 1316, 1318, 1320, 1322, 1324, 1326, 1328, 1330, 1332, 1334, 1336, 1338, 1340, 1342, 1344, 1346, 1348, 1350, 1352, 1354, 1356, 1358, 1360, 1362, 1364, 1366, 1368, 1370, 1372, 1374, 1376, 1378, 1380, 1382, 1384, 1386, 1388, 1390] : List Nat).filterMap (fun i => tables_1[i]?) := by decide +kernel
  rw [e] at hw
  obtain ⟨i, -, hi⟩ := List.mem_filterMap.mp hw
  exact lw_up (List.mem_of_getElem? hi) hgw
def classes : List vw_C := [("LastSeen", T_LS, 14), ("LastSeen$Land", T_La, 2), ("LastSeen$Tape", T_Ta, 2), ("LastSeen$Names", T_Na, 15), ("LastSeen$Words", T_Wo, 11), ("LastSeen$Walk", T_Wa, 7), ("LastSeen$Hearing", T_He, 15), ("LastSeen$Rules", T_Ru, 13), ("LastSeen$Bones", T_Bn, 3), ("LastSeen$Graves", T_Gr, 18), ("LastSeenModel", T_Md, 75)]
def gN : Nat := 113
def gLs : List Nat := [30, 30, 30, 30, 100, 200, 240, 20, 20, 200, 200, 200, 200, 400, 20, 20, 20, 12, 40, 40, 40, 40, 40, 40, 40, 40, 40, 40, 9, 9, 9, 5120, 10, 40, 40, 40, 4000, 20, 20, 20, 201, 201, 201, 384, 32, 8, 8, 8, 8, 8, 8, 8, 10, 10, 10, 10, 10, 8, 256, 100, 200, 200, 200, 200, 240, 20, 12, 400, 400, 40, 40, 40, 20, 20, 20, 40, 40, 40, 40, 40, 40, 40, 40, 46080, 9, 9, 9, 12000, 160, 160, 20, 20, 200, 128, 30, 30, 30, 32, 384, 8, 8, 8, 8, 8, 8, 8, 10, 10, 10, 10, 10, 1024, 1024]
def gKs : List Nat := [0, 0, 0, 0, 0, 1, 0, 0, 0, 0, 0, 0, 0, 0, 0, 0, 0, 0, 0, 0, 0, 0, 0, 0, 0, 0, 0, 2, 0, 0, 0, 0, 0, 2, 2, 0, 1, 0, 0, 0, 2, 2, 2, 0, 0, 0, 0, 0, 0, 0, 0, 0, 0, 0, 0, 0, 0, 0, 0, 0, 0, 0, 0, 0, 0, 0, 0, 2, 2, 2, 2, 2, 0, 0, 0, 0, 0, 0, 0, 0, 0, 0, 0, 0, 0, 0, 0, 0, 0, 0, 0, 0, 0, 0, 0, 0, 0, 0, 0, 0, 0, 0, 0, 0, 0, 0, 0, 0, 0, 0, 0, 0, 0]
def gL (k : Nat) : Nat := gLs.getD k 0
def gK (k : Nat) : Nat := gKs.getD k 0
theorem gL_le (k : Nat) : gL k ≤ 1000000 := by
  have h : ∀ x ∈ gLs, x ≤ 1000000 := by decide
  unfold gL
  rw [List.getD_eq_getElem?_getD]
  cases e : gLs[k]? with
  | none => exact Nat.zero_le _
  | some v => exact h v (List.mem_of_getElem? e)
def gObj (G : (Nat → Nat) × va_G × (Nat → ClassId)) (σ : SS) : va_W := [(G.1 0, .inr (0, [.ref (G.1 1), .ref (G.1 2), .ref (G.1 3), .ref (G.1 4), .ref (G.1 6), .ref (G.1 7), .ref (G.1 8), .ref (G.1 9), .ref (G.1 11), .ref (G.1 12), .ref (G.1 13), .ref (G.1 14), vI (σ.1 0), vI (σ.1 1)])),
  (G.1 1, .inr (1, [.ref (G.1 15), vI (σ.1 2)])),
  (G.1 2, .inr (2, [.ref (G.1 16), vI (σ.1 3)])),
  (G.1 3, .inr (3, [.ref (G.1 17), .ref (G.1 18), .ref (G.1 19), vI (σ.1 4), .ref (G.1 20), .ref (G.1 21), .ref (G.1 22), .ref (G.1 23), vI (σ.1 5), .ref (G.1 24), .ref (G.1 25), vI (σ.1 6), .ref (G.1 26), .ref (G.1 27), .ref (G.1 28)])),
  (G.1 4, .inr (4, [.ref (G.1 29), .ref (G.1 30), .ref (G.1 31), .ref (G.1 32), .ref (G.1 33), .ref (G.1 34), .ref (G.1 35), .ref (G.1 36), .ref (G.1 37), vI (σ.1 7), .ref (G.1 38)])),
  (G.1 5, .inr (5, [.ref (G.1 1), .ref (G.1 39), .ref (G.1 40), .ref (G.1 41), vI (σ.1 8), .ref (G.1 42), .ref (G.1 43)])),
  (G.1 6, .inr (6, [.ref (G.1 3), .ref (G.1 4), .ref (G.1 5), .ref (G.1 44), .ref (G.1 45), .ref (G.1 46), vI (σ.1 9), vI (σ.1 10), vI (σ.1 11), vI (σ.1 12), vI (σ.1 13), vI (σ.1 14), vI (σ.1 15), vI (σ.1 16), vI (σ.1 17)])),
  (G.1 7, .inr (7, [.ref (G.1 47), .ref (G.1 48), .ref (G.1 49), .ref (G.1 50), vI (σ.1 18), vI (σ.1 19), vI (σ.1 20), vI (σ.1 21), vI (σ.1 22), vI (σ.1 23), .ref (G.1 51), .ref (G.1 52), .ref (G.1 53)])),
  (G.1 8, .inr (8, [.ref (G.1 54), .ref (G.1 55), vI (σ.1 24)])),
  (G.1 9, .inr (9, [.ref (G.1 3), .ref (G.1 56), .ref (G.1 57), .ref (G.1 58), .ref (G.1 59), .ref (G.1 60), .ref (G.1 61), .ref (G.1 62), vI (σ.1 25), vI (σ.1 26), .ref (G.1 63), .ref (G.1 64), .ref (G.1 65), .ref (G.1 66), vI (σ.1 27), .ref (G.1 67), .ref (G.1 68), .ref (G.1 69)])),
  (G.1 10, .inr (10, [.ref (G.1 70), vI (σ.1 28), .ref (G.1 71), .ref (G.1 72), .ref (G.1 73), vI (σ.1 29), .ref (G.1 74), .ref (G.1 75), .ref (G.1 76), vI (σ.1 30), vI (σ.1 31), .ref (G.1 77), vI (σ.1 32), vI (σ.1 33), vI (σ.1 34), vI (σ.1 35), .ref (G.1 78), .ref (G.1 79), .ref (G.1 80), .ref (G.1 81), .ref (G.1 82), .ref (G.1 83), .ref (G.1 84), .ref (G.1 85), .ref (G.1 86), .ref (G.1 87), .ref (G.1 88), .ref (G.1 89), .ref (G.1 90), .ref (G.1 91), .ref (G.1 92), vI (σ.1 36), .ref (G.1 93), vI (σ.1 37), .ref (G.1 94), .ref (G.1 95), .ref (G.1 96), .ref (G.1 97), vI (σ.1 38), .ref (G.1 98), .ref (G.1 99), .ref (G.1 100), .ref (G.1 101), .ref (G.1 102), .ref (G.1 103), vI (σ.1 39), vI (σ.1 40), vI (σ.1 41), vI (σ.1 42), vI (σ.1 43), .ref (G.1 104), .ref (G.1 105), .ref (G.1 106), .ref (G.1 107), vI (σ.1 44), .ref (G.1 108), .ref (G.1 109), vI (σ.1 45), .ref (G.1 110), .ref (G.1 111), .ref (G.1 112), .ref (G.1 113), .ref (G.1 114), .ref (G.1 115), .ref (G.1 116), .ref (G.1 117), .ref (G.1 118), .ref (G.1 119), .ref (G.1 120), vI (σ.1 46), vI (σ.1 47), vI (σ.1 48), .ref (G.1 121), .ref (G.1 122), .ref (G.1 123)]))]
def gArr (G : (Nat → Nat) × va_G × (Nat → ClassId)) (σ : SS) : va_W := (List.range gN).map (fun k => (G.1 (11 + k), .inl (G.2.2 (gK k), gL k, .inl (fun j : Nat => iI (σ.2 k (j : Int))))))
def GW (G : (Nat → Nat) × va_G × (Nat → ClassId)) (σ : SS) : va_W := gObj G σ ++ gArr G σ
def tysG (G : (Nat → Nat) × va_G × (Nat → ClassId)) : List (ClassId × FieldType) := [(G.2.2 0, .int), (G.2.2 1, .byte), (G.2.2 2, .boolean)]
theorem gw_arr (G : (Nat → Nat) × va_G × (Nat → ClassId)) (σ : SS) {k : Nat} (hk : k < gN) : (GW G σ)[11 + k]? = some (G.1 (11 + k), .inl (G.2.2 (gK k), gL k, .inl (fun j : Nat => iI (σ.2 k (j : Int))))) := by
  unfold GW
  rw [List.getElem?_append_right (show (gObj G σ).length ≤ 11 + k from Nat.le_add_right 11 k)]
  show (gArr G σ)[11 + k - 11]? = _
  rw [Nat.add_sub_cancel_left]
  unfold gArr
  rw [List.getElem?_map, List.getElem?_range hk]
  rfl
theorem gw_len (G : (Nat → Nat) × va_G × (Nat → ClassId)) (σ : SS) : (GW G σ).length = 11 + gN := by
  unfold GW gArr
  rw [List.length_append, List.length_map, List.length_range]
  rfl
theorem gw_set (G : (Nat → Nat) × va_G × (Nat → ClassId)) (σ : SS) {k : Nat} {i : Int} (v : Int) (hk : k < gN) (h0 : 0 ≤ i) (h1 : i < (gL k : Int)) : (GW G σ).set (11 + k) (G.1 (11 + k), .inl (G.2.2 (gK k), gL k, .inl (upd (fun j : Nat => iI (σ.2 k (j : Int))) (iI i).toNatClampNeg (iI v)))) = GW G (sA σ k i v) := by
  apply List.ext_getElem?
  intro j
  rw [List.getElem?_set]
  split
  next e =>
    subst e
    rw [if_pos (by rw [gw_len]; omega), gw_arr G _ hk]
    congr 6
    funext x
    have hc := iI_cl h0 h1 (gL_le k)
    show (if x = (iI i).toNatClampNeg then iI v else iI (σ.2 k x)) = iI (if k = k ∧ (x : Int) = i then v else σ.2 k x)
    by_cases hx : (x : Int) = i
    · rw [if_pos (by omega), if_pos ⟨rfl, hx⟩]
    · rw [if_neg (by omega), if_neg (fun h => hx h.2)]
  next e =>
    by_cases hj : j < 11
    · unfold GW
      rw [List.getElem?_append_left (show j < (gObj G σ).length from hj), List.getElem?_append_left (show j < (gObj G (sA σ k i v)).length from hj)]
      rfl
    · obtain ⟨m, rfl⟩ : ∃ m, j = 11 + m := ⟨j - 11, by omega⟩
      by_cases hm : m < gN
      · rw [gw_arr G _ hm, gw_arr G _ hm]
        congr 6
        funext x
        show iI (σ.2 m x) = iI (if m = k ∧ (x : Int) = i then v else σ.2 m x)
        rw [if_neg (fun h => e (by omega))]
      · rw [List.getElem?_eq_none (by rw [gw_len]; omega), List.getElem?_eq_none (by rw [gw_len]; omega)]
theorem nar_b {v : Int} (h : -128 ≤ v ∧ v ≤ 127) : vp_nar .byte (iI v) = iI v := by
  rw [vp_nar_byte]
  have hr : rng v := ⟨by omega, by omega⟩
  have e : (iI v).toInt8.toInt32.toInt = v := by
    rw [Int8.toInt_toInt32, Int32.toInt_toInt8, ti_iI hr, Int.bmod_eq_of_le (by omega) (by omega)]
  rw [← iI_ti (iI v).toInt8.toInt32, e]
theorem i2b_rng (x : Int) : -128 ≤ i2b x ∧ i2b x ≤ 127 := by
  unfold i2b
  rw [Int8.toInt_toInt32]
  have h1 := Int8.le_toInt (iI x).toInt8
  have h2 := Int8.toInt_lt (iI x).toInt8
  omega
theorem nar_z {v : Int} (h : v = 0 ∨ v = 1) : vp_nar .boolean (iI v) = iI v := by
  rcases h with rfl | rfl <;> rfl
end
