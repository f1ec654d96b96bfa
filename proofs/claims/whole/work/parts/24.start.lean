section
def sg0 : SS := (fun k => if k = 24 then 2 else if k = 45 then 2 else 0, fun k j => if k = 4 then fLa j else if k = 59 then fMf j else if k = 104 then fMg j else 0)
/-- what is owed of the pure side -/
def PureMain : Prop := ∀ (L : Nat) (xs : Nat → Int32), L ≤ 3584 → ∀ X18 : Int → SS → Prop, (∀ (x3 : Int) (s : SS), B_Lw_18 L xs (fun x _ => x = 1) X18 x3 s → X18 x3 s) → X18 0 sg0
theorem c_newG {F : FT} {cc : ByteArray} {own : String} {rm : Room} {n k : Nat} {pc : Nat} {lv : List (Nat × Value)} {st : List Value} {ws : va_W} (ok : OkC F cc own rm) (o : Nat) {C : String} {TT : u_T} {N index : Nat} {ty0 : Nat → FieldType} (fs : List Value) (hin : ∀ w ∈ u_ws C TT N, w ∈ lw_ok) (hty : ∀ k, k < N → parseFieldDescriptor (TT k).2.2.1 = some (ty0 k)) (hc : classes[o]? = some (C, TT, N)) (w1 : Cond.classLink own index C ∈ lw_ok) (w2 : Cond.instantiable C N ∈ lw_ok) (w3 : Cond.initialized C ∈ lw_ok) (hfs : ∀ j, j < N → defaultValue (ty0 j) = vp_V fs j) (hcell : n + 1 ≤ rm.cells) (hslot : k + N ≤ rm.slots) (hd : decode cc pc = .ok (.new index, 3)) (kk : ∀ q : Nat, AtC F (n + 1) (k + N) (pc + 3) lv (.ref q :: st) (ws ++ [(q, .inr (o, fs))])) : AtC F n k pc lv st ws := by
  obtain ⟨l, G, A, p, e, R, s, m, args, below, meth, c, kc, ks, nL, Q⟩ := F
  obtain ⟨hx, hb, hml, hown, hts, hK, hA, hR, hN⟩ := ok
  intro H locs ls hP hD hS hl
  subst hR
  exact va_new (ci := o) (fs := fs) (C := C) (T := TT) (N := N) hx hb hts hin ty0 hty hown (hts _ w1) (hts _ w2) (hts _ w3) hK hP hD hS hA hc hfs hcell hslot hd (fun q H1 hP1 hD1 hS1 => kk q H1 locs ls hP1 hD1 hS1 hl)
theorem va_D_addr {A : Nat → Prop} {ws ws' : va_W} (h : va_D A ws) (e : ws.map Prod.fst = ws'.map Prod.fst) : va_D A ws' := by
  have g : ∀ (i : Nat) (p : Nat × va_E), ws'[i]? = some p → ∃ q, ws[i]? = some q ∧ q.1 = p.1 := by
    intro i p hp
    have h1 : (ws.map Prod.fst)[i]? = some p.1 := by rw [e, List.getElem?_map, hp]; rfl
    rw [List.getElem?_map] at h1
    cases hq : ws[i]? with
    | none => rw [hq] at h1; cases h1
    | some q => rw [hq] at h1; exact ⟨q, rfl, Option.some.inj h1⟩
  refine ⟨fun i j p q hp hq hpq => ?_, fun k q hq => ?_⟩
  · obtain ⟨p2, h1, h2⟩ := g i p hp
    obtain ⟨q2, h3, h4⟩ := g j q hq
    exact h.1 i j p2 q2 h1 h3 (by rw [h2, h4, hpq])
  · obtain ⟨q2, h3, h4⟩ := g k q hq
    rw [← h4]
    exact h.2 k q2 h3
theorem gw_fst (G : GE) (σ τ : SS) : (GW G σ).map Prod.fst = (GW G τ).map Prod.fst := by
  unfold GW gArr
  rw [List.map_append, List.map_append, List.map_map, List.map_map]
  rfl
theorem wz_ck_Lw_7 : Cond.classLink "LastSeenLaw" 7 "LastSeen" ∈ lw_ok := lw_up_1 (List.mem_of_getElem? (i := 14) rfl) rfl
theorem wz_ck_Lw_10 : Cond.classLink "LastSeenLaw" 10 "LastSeenModel" ∈ lw_ok := lw_up_5 (List.mem_of_getElem? (i := 199) rfl) rfl
theorem wl_Lw_9 : Cond.methodLink "LastSeenLaw" 9 y_LS_init ∈ lw_ok := lw_up_1 (List.mem_of_getElem? (i := 16) rfl) rfl
theorem wl_Lw_12 : Cond.methodLink "LastSeenLaw" 12 y_Md_init ∈ lw_ok := lw_up_5 (List.mem_of_getElem? (i := 201) rfl) rfl
theorem nw_0 : Cond.methodLinkNest "LastSeen" 18 y_Ta_init "LastSeen" ∈ lw_tbl := List.mem_append_right _ (List.mem_append_left _ (List.mem_of_getElem? (i := 39) rfl))
theorem nw_1 : Cond.methodLinkNest "LastSeen" 25 y_Na_init "LastSeen" ∈ lw_tbl := List.mem_append_right _ (List.mem_append_left _ (List.mem_of_getElem? (i := 53) rfl))
theorem nw_2 : Cond.methodLinkNest "LastSeen" 32 y_Wo_init "LastSeen" ∈ lw_tbl := List.mem_append_right _ (List.mem_append_left _ (List.mem_of_getElem? (i := 105) rfl))
theorem nw_3 : Cond.methodLinkNest "LastSeen" 53 y_Ru_init "LastSeen" ∈ lw_tbl := List.mem_append_right _ (List.mem_append_left _ (List.mem_of_getElem? (i := 226) rfl))
theorem nw_4 : Cond.methodLinkNest "LastSeen" 60 y_Bn_init "LastSeen" ∈ lw_tbl := List.mem_append_right _ (List.mem_append_right _ (List.mem_append_left _ (List.mem_of_getElem? (i := 32) rfl)))
def R_law : String := "LastSeenLaw"
def lw_Q (_ : Array Value) (s : State) (o : Outcome) (t : State) : Prop := o = .returned (some (.int 1)) ∧ Framed s o t [] 600000 7302250
def lw_Z (below : List Frame) (a : Array Value) (s : State) : State → Prop := fun t => ∃ o, t.status = .running ∧ Ended t below o ∧ lw_Q a s o t
/-- the law's own end, with 1 on the stack, nothing written that was there before, its room as the claim has it -/
theorem lw_ret {p : Program} {l : Launch} {e : Env} {s : State} {m : MethodId} {below : List Frame} {meth : Method} {c : Code} {b : Nat} (hx : p.tables.exec = Jvm.exec) (hb : c.code = code) (hr : meth.sig.returnType = ret) (hlocks : meth.locks = false) {pc : Nat} {H : Heap} {ls : Array Slot} (hdg : decode code pc = .ok (.ireturn, 1)) : W p l e room_1 s m #[Value.ref b] below meth c H [] 600000 7302250 (lw_Z below #[Value.ref b] s) (F0 m pc ls [.int 1]) := by
  intro T hT X
  obtain ⟨fs, hret, hrun, hended, hW, hframe⟩ := X.leave (v := some (.int 1)) (hlocks := hlocks) (fun h => by rw [hr] at h; cases h)
  have hmeth' : T.vm.method? m = some meth := X.method'
  refine ⟨T.setFrames fs, ?_, .returned (some (.int 1)), hrun, hended, rfl, ⟨_, rfl⟩, hW, hframe⟩
  jvm_step X.here [X.here.top, hx, hb, hdg, hmeth', hr, ret, narrow_b1]
  (try refine ⟨rfl, ?_⟩); (try refine ⟨rfl, ?_⟩)
  first | (intro acts; rw [hret _ acts rfl rfl rfl]) | rw [hret _ _ rfl rfl rfl]
  exact Steps.refl _
/-- what holds at the law's entry: the machine, the code, the tables' words (any of lw_tbl by 'hts w (by decide +kernel)'), the script of L ints xs at the cell b, what the Statement gives of the start (any of its parts by flat_of_before) -/
def lw_At (p : Program) (s : State) (m : MethodId) (meth : Method) (c : Code) (b L : Nat) (xs : Nat → Int32) : Prop :=
  p.tables.exec = Jvm.exec ∧ c.code = code ∧ meth.sig.returnType = ret ∧ c.maxLocals = 4 ∧ s.vm.findClass R_law = some m.cls ∧ (∀ w ∈ lw_tbl, w.before #[Value.ref b] s = true) ∧ va_X b L xs s s.heap ∧ b < s.heap.size ∧ meth.locks = false ∧ (Jvm.Cond.and given_1 narrow_1).before #[Value.ref b] s = true
set_option maxHeartbeats 4000000 in
set_option maxRecDepth 100000 in
theorem whole_start (hpure : PureMain) {p : Program} {e : Env} {s : State} {m : MethodId} {below : List Frame} {meth : Method} {c : Code} (l : Launch) {b L : Nat} {xs : Nat → Int32} (hL : L ≤ 3584) (C0 : lw_At p s m meth c b L xs) : W p l e room_1 s m #[Value.ref b] below meth c s.heap [] 0 0 (lw_Z below #[Value.ref b] s) (entryFrame m ([Value.ref b] : List Value).toArray 4) := by
  obtain ⟨hx, hb, hr, hml, hown, hts0, hX, hbl, hlocks, hgv⟩ := id C0
  have hts : ∀ w ∈ lw_ok, w.before #[Value.ref b] s = true := fun w h => hts0 w (lw_ok_in h)
  have hbA : ¬ (fun q : Nat => s.heap.size ≤ q) b := Nat.not_le.mpr hbl
  obtain ⟨c0, S0, hKn0⟩ := u_known (C := "LastSeen") (T := T_LS) (N := 14) (n := 14) hts in_LS (hts _ wz_cl_LS)
  obtain ⟨c1, S1, hKn1⟩ := u_known (C := "LastSeen$Land") (T := T_La) (N := 2) (n := 2) hts in_La (hts _ wz_cl_La)
  obtain ⟨c2, S2, hKn2⟩ := u_known (C := "LastSeen$Tape") (T := T_Ta) (N := 2) (n := 2) hts in_Ta (hts _ wz_cl_Ta)
  obtain ⟨c3, S3, hKn3⟩ := u_known (C := "LastSeen$Names") (T := T_Na) (N := 15) (n := 15) hts in_Na (hts _ wz_cl_Na)
  obtain ⟨c4, S4, hKn4⟩ := u_known (C := "LastSeen$Words") (T := T_Wo) (N := 11) (n := 11) hts in_Wo (hts _ wz_cl_Wo)
  obtain ⟨c5, S5, hKn5⟩ := u_known (C := "LastSeen$Walk") (T := T_Wa) (N := 7) (n := 7) hts in_Wa (hts _ wz_cl_Wa)
  obtain ⟨c6, S6, hKn6⟩ := u_known (C := "LastSeen$Hearing") (T := T_He) (N := 15) (n := 15) hts in_He (hts _ wz_cl_He)
  obtain ⟨c7, S7, hKn7⟩ := u_known (C := "LastSeen$Rules") (T := T_Ru) (N := 13) (n := 13) hts in_Ru (hts _ wz_cl_Ru)
  obtain ⟨c8, S8, hKn8⟩ := u_known (C := "LastSeen$Bones") (T := T_Bn) (N := 3) (n := 3) hts in_Bn (hts _ wz_cl_Bn)
  obtain ⟨c9, S9, hKn9⟩ := u_known (C := "LastSeen$Graves") (T := T_Gr) (N := 18) (n := 18) hts in_Gr (hts _ wz_cl_Gr)
  obtain ⟨c10, S10, hKn10⟩ := u_known (C := "LastSeenModel") (T := T_Md) (N := 75) (n := 75) hts in_Md (hts _ wz_cl_Md)
  obtain ⟨aI, kI, pI, fI, gI, jI⟩ := Cond.arrayClass_spec (hts _ wz_arr_I)
  obtain ⟨aB, kB, pB, fB, gB_, jB⟩ := Cond.arrayClass_spec (hts _ wz_arr_B)
  obtain ⟨aZ, kZ, pZ, fZ, gZ, jZ⟩ := Cond.arrayClass_spec (hts _ wz_arr_Z)
  obtain ⟨dC, dI, cA, hKc, hKa⟩ : ∃ (dC : Nat → ClassId) (dI : Nat → Nat → Nat) (cA : Nat → ClassId), (∀ (k : Nat) (q : vw_C), classes[k]? = some q → u_Kn s q.1 q.2.1 q.2.2 (dC k) (dI k)) ∧ (∀ (k : Nat) (q : ClassId × FieldType), ([(cA 0, FieldType.int), (cA 1, FieldType.byte), (cA 2, FieldType.boolean)] : List (ClassId × FieldType))[k]? = some q → ArrOfT s q.1 q.2 ∧ va_RA s q.1 q.2) := by
    refine ⟨fun k => match k with | 0 => c0 | 1 => c1 | 2 => c2 | 3 => c3 | 4 => c4 | 5 => c5 | 6 => c6 | 7 => c7 | 8 => c8 | 9 => c9 | _ => c10, fun k => match k with | 0 => S0 | 1 => S1 | 2 => S2 | 3 => S3 | 4 => S4 | 5 => S5 | 6 => S6 | 7 => S7 | 8 => S8 | 9 => S9 | _ => S10, fun k => match k with | 0 => aI | 1 => aB | _ => aZ, ?_, ?_⟩
    · intro k q hq
      match k, hq with
      | 0, hq => cases hq; exact hKn0
      | 1, hq => cases hq; exact hKn1
      | 2, hq => cases hq; exact hKn2
      | 3, hq => cases hq; exact hKn3
      | 4, hq => cases hq; exact hKn4
      | 5, hq => cases hq; exact hKn5
      | 6, hq => cases hq; exact hKn6
      | 7, hq => cases hq; exact hKn7
      | 8, hq => cases hq; exact hKn8
      | 9, hq => cases hq; exact hKn9
      | 10, hq => cases hq; exact hKn10
      | k + 11, hq => simp [classes] at hq
    · intro k q hq
      match k, hq with
      | 0, hq => cases hq; exact ⟨fun n z => ⟨fun k h => (by cases h), kI, gI, pI, jI⟩, fI⟩
      | 1, hq => cases hq; exact ⟨fun n z => ⟨fun k h => (by cases h), kB, gB_, pB, jB⟩, fB⟩
      | 2, hq => cases hq; exact ⟨fun n z => ⟨fun k h => (by cases h), kZ, gZ, pZ, jZ⟩, fZ⟩
      | k + 3, hq => simp at hq
  have hN : nwK s := ⟨va_Nw.of rfl (hts0 _ nw_0), va_Nw.of rfl (hts0 _ nw_1), va_Nw.of rfl (hts0 _ nw_2), va_Nw.of rfl (hts0 _ nw_3), va_Nw.of rfl (hts0 _ nw_4)⟩
  have hl := lv_entry ([.ref b]) (n := 4) (Nat.le_of_ble_eq_true rfl)
  rw [lg_entry_eq]
  have hK : va_K (dC, dI) classes (tysG ((fun _ => 0, (dC, dI), cA) : GE)) s := ⟨hKc, hKa⟩
  have ok : OkC (l, ((fun _ => 0, (dC, dI), cA) : GE), (fun q : Nat => s.heap.size ≤ q), p, e, room_1, s, m, #[Value.ref b], below, meth, c, 0, 0, 4, lw_Z below #[Value.ref b] s) code "LastSeenLaw" room_1 := ⟨hx, hb, hml, hown, hts, hK, fun _ h => h, rfl, hN⟩
  have hP : va_P (dC, dI) classes [] s.heap := fun k q h => by simp at h
  have hD : va_D (fun q : Nat => s.heap.size ≤ q) [] := ⟨fun i j p q h => by simp at h, fun k q h => by simp at h⟩
  have main : AtC (l, ((fun _ => 0, (dC, dI), cA) : GE), (fun q : Nat => s.heap.size ≤ q), p, e, room_1, s, m, #[Value.ref b], below, meth, c, 0, 0, 4, lw_Z below #[Value.ref b] s) 0 0 0 [(0, .ref b)] [] [] := by
    refine c_newG ok 0 (TT := T_LS) (N := 14) df_LS in_LS to_LS rfl wz_ck_Lw_7 wz_cl_LS wn_LS dfo_LS (Nat.le_of_ble_eq_true rfl) (Nat.le_of_ble_eq_true rfl) d_Lw_0 (fun q0 => ?_)
    refine c_dup ok d_Lw_3 rfl ?_
    refine c_callI (rmc := ({ frames := 2, cells := 68, slots := 13184, locals := 43 } : Room)) (As := []) (rest := [.ref q0]) (b := q0) (U0 := Nat → Nat) (post := fun u => u 0 = q0) (wN := fun u => w_LS ((fun _ => 0, (dC, dI), cA) : GE) u) ok [(q0, .inr (0, df_LS))] [] [0] [] wl_Lw_9 wi_y_LS_init wn_LS wc_y_LS_init rfl (by decide) ⟨rfl, rfl⟩ hh_LS_init (Nat.le_of_ble_eq_true rfl) rfl d_Lw_4 ⟨Nat.le_of_ble_eq_true rfl, Nat.le_of_ble_eq_true rfl⟩ rfl rfl (by decide) (by decide) (by decide) (C_LS l _ q0) (fun u hu => ?_)
    refine c_astore_n (nL' := 4) ok [(1, .ref q0), (0, .ref b)] d_Lw_7 rfl rfl (by decide) rfl ?_
    refine c_newG ok 10 (TT := T_Md) (N := 75) df_Md in_Md to_Md rfl wz_ck_Lw_10 wz_cl_Md wn_Md dfo_Md (Nat.le_of_ble_eq_true rfl) (Nat.le_of_ble_eq_true rfl) d_Lw_8 (fun q1 => ?_)
    refine c_dup ok d_Lw_11 rfl ?_
    refine c_callI (rmc := ({ frames := 1, cells := 54, slots := 63927, locals := 20 } : Room)) (As := []) (rest := [.ref q1]) (b := q1) (U0 := Nat → Nat) (post := fun _ => True) (wN := fun u => w_Md ((fun _ => 0, (dC, dI), cA) : GE) q1 fMf fMg u) ok [(q1, .inr (10, df_Md))] (w_LS ((fun _ => 0, (dC, dI), cA) : GE) u) [69] [0, 1, 2, 3, 4, 5, 6, 7, 8, 9, 10, 11, 12, 13, 14, 15, 16, 17, 18, 19, 20, 21, 22, 23, 24, 25, 26, 27, 28, 29, 30, 31, 32, 33, 34, 35, 36, 37, 38, 39, 40, 41, 42, 43, 44, 45, 46, 47, 48, 49, 50, 51, 52, 53, 54, 55, 56, 57, 58, 59, 60, 61, 62, 63, 64, 65, 66, 67, 68] wl_Lw_12 wi_y_Md_init wn_Md wc_y_Md_init rfl (by decide) ⟨rfl, rfl⟩ hh_Md_init (Nat.le_of_ble_eq_true rfl) rfl d_Lw_12 ⟨Nat.le_of_ble_eq_true rfl, Nat.le_of_ble_eq_true rfl⟩ rfl rfl (by decide) (by decide) (by decide) (C_Md l _ q1) (fun um _ => ?_)
    refine c_astore_n (nL' := 4) ok [(2, .ref q1), (1, .ref q0), (0, .ref b)] d_Lw_15 rfl rfl (by decide) rfl ?_
    refine c_iconst ok 0 d_Lw_16 rfl ?_
    refine c_istore_n (nL' := 4) ok [(3, vI 0), (2, .ref q1), (1, .ref q0), (0, .ref b)] d_Lw_17 rfl rfl (by decide) rfl ?_
    refine c_sub [3, 2, 1, 0] rfl ?_
    intro H locs ls hP hD hS hl
    have hP2 := hP.sub (ws' := GW ((fun k => if k = 10 then q1 else if k < 70 then u k else um (k - 70), (dC, dI), cA) : GE) sg0) [0, 1, 3, 5, 18, 29, 35, 39, 47, 50, 69, 65, 66, 67, 68, 2, 4, 6, 7, 8, 9, 10, 11, 12, 13, 14, 15, 16, 17, 19, 20, 21, 22, 23, 24, 25, 26, 27, 28, 30, 31, 32, 33, 34, 36, 37, 38, 40, 41, 42, 43, 44, 45, 46, 48, 49, 51, 52, 53, 54, 55, 56, 57, 58, 59, 60, 61, 62, 63, 64, 70, 71, 72, 73, 74, 75, 76, 77, 78, 79, 80, 81, 82, 83, 84, 85, 86, 87, 88, 89, 90, 91, 92, 93, 94, 95, 96, 97, 98, 99, 100, 101, 102, 103, 104, 105, 106, 107, 108, 109, 110, 111, 112, 113, 114, 115, 116, 117, 118, 119, 120, 121, 122, 123] rfl
    have hD2 := hD.sub (ws' := GW ((fun k => if k = 10 then q1 else if k < 70 then u k else um (k - 70), (dC, dI), cA) : GE) sg0) [0, 1, 3, 5, 18, 29, 35, 39, 47, 50, 69, 65, 66, 67, 68, 2, 4, 6, 7, 8, 9, 10, 11, 12, 13, 14, 15, 16, 17, 19, 20, 21, 22, 23, 24, 25, 26, 27, 28, 30, 31, 32, 33, 34, 36, 37, 38, 40, 41, 42, 43, 44, 45, 46, 48, 49, 51, 52, 53, 54, 55, 56, 57, 58, 59, 60, 61, 62, 63, 64, 70, 71, 72, 73, 74, 75, 76, 77, 78, 79, 80, 81, 82, 83, 84, 85, 86, 87, 88, 89, 90, 91, 92, 93, 94, 95, 96, 97, 98, 99, 100, 101, 102, 103, 104, 105, 106, 107, 108, 109, 110, 111, 112, 113, 114, 115, 116, 117, 118, 119, 120, 121, 122, 123] (by decide) rfl
    have hF := hpure L xs hL (fun x3 s2 => AtS (l, ((fun k => if k = 10 then q1 else if k < 70 then u k else um (k - 70), (dC, dI), cA) : GE), (fun q : Nat => s.heap.size ≤ q), p, e, room_1, s, m, #[Value.ref b], below, meth, c, 124, 77200, 4, lw_Z below #[Value.ref b] s) 18 [(0, .ref b), (1, .ref (u 0)), (2, .ref q1), (3, vI x3)] [] s2)
      (fun x3 s2 hB => K_Lw_18 (F := (l, ((fun k => if k = 10 then q1 else if k < 70 then u k else um (k - 70), (dC, dI), cA) : GE), (fun q : Nat => s.heap.size ≤ q), p, e, room_1, s, m, #[Value.ref b], below, meth, c, 124, 77200, 4, lw_Z below #[Value.ref b] s)) (fun σ => va_D_addr hD2 (gw_fst _ sg0 σ)) rfl ⟨hx, hb, hml, hown, hts, ⟨hKc, hKa⟩, fun σ => va_D_addr hD2 (gw_fst _ sg0 σ), rfl, Nat.le_of_ble_eq_true rfl, Nat.le_of_ble_eq_true rfl⟩ hL ⟨hX, hbl, hbA⟩ (fun pc2 lv2 x2 σ2 cc2 hcc hd2 hz hq H2 locs2 ls2 hP3 hS3 hl3 => by
        have hcc : c.code = cc2 := hcc
        rw [← hcc, hb] at hd2
        have hq : x2 = 1 := hq
        subst hq
        refine va_forget (fun q hq => hS3.2.2 q hq) ?_
        refine W.widen (k := 600000) (n := 7302250) (Nat.le_of_ble_eq_true rfl) (Nat.le_of_ble_eq_true rfl) ?_
        exact lw_ret hx hb hr hlocks hd2) hB)
    have hu : u 0 = q0 := hu
    subst hu
    exact hF H locs ls hP2 hS hl
  exact main s.heap [] _ hP hD va_S.rf hl
end
