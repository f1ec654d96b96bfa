section
theorem d_Md_finding_0 : decode prog_12_method_63_code 0 = .ok (.aload_n 0, 1) := by decide +kernel
theorem d_Md_finding_1 : decode prog_12_method_63_code 1 = .ok (.iload_n 1, 1) := by decide +kernel
theorem d_Md_finding_2 : decode prog_12_method_63_code 2 = .ok (.iload_n 2, 1) := by decide +kernel
theorem d_Md_finding_3 : decode prog_12_method_63_code 3 = .ok (.invokevirtual 269, 3) := by decide +kernel
theorem d_Md_finding_6 : decode prog_12_method_63_code 6 = .ok (.ifCond .ne 5, 3) := by decide +kernel
theorem d_Md_finding_9 : decode prog_12_method_63_code 9 = .ok (.iconst (-1), 1) := by decide +kernel
theorem d_Md_finding_10 : decode prog_12_method_63_code 10 = .ok (.ireturn, 1) := by decide +kernel
theorem d_Md_finding_11 : decode prog_12_method_63_code 11 = .ok (.aload_n 0, 1) := by decide +kernel
theorem d_Md_finding_12 : decode prog_12_method_63_code 12 = .ok (.getfield 250, 3) := by decide +kernel
theorem d_Md_finding_15 : decode prog_12_method_63_code 15 = .ok (.ifCond .ge 8, 3) := by decide +kernel
theorem d_Md_finding_18 : decode prog_12_method_63_code 18 = .ok (.bipush (-5), 2) := by decide +kernel
theorem d_Md_finding_20 : decode prog_12_method_63_code 20 = .ok (.goto 17, 3) := by decide +kernel
theorem d_Md_finding_23 : decode prog_12_method_63_code 23 = .ok (.aload_n 0, 1) := by decide +kernel
theorem d_Md_finding_24 : decode prog_12_method_63_code 24 = .ok (.aload_n 0, 1) := by decide +kernel
theorem d_Md_finding_25 : decode prog_12_method_63_code 25 = .ok (.getfield 250, 3) := by decide +kernel
theorem d_Md_finding_28 : decode prog_12_method_63_code 28 = .ok (.aload_n 0, 1) := by decide +kernel
theorem d_Md_finding_29 : decode prog_12_method_63_code 29 = .ok (.getfield 50, 3) := by decide +kernel
theorem d_Md_finding_32 : decode prog_12_method_63_code 32 = .ok (.iload_n 1, 1) := by decide +kernel
theorem d_Md_finding_33 : decode prog_12_method_63_code 33 = .ok (.iaload, 1) := by decide +kernel
theorem d_Md_finding_34 : decode prog_12_method_63_code 34 = .ok (.invokevirtual 379, 3) := by decide +kernel
theorem d_Md_finding_37 : decode prog_12_method_63_code 37 = .ok (.ireturn, 1) := by decide +kernel
set_option maxHeartbeats 4000000 in
set_option maxRecDepth 100000 in
theorem K_Md_finding_e {F : FT} (hD : ∀ σ, va_D F.2.2.1 (GW F.2.1 σ)) (hm : F.2.2.2.2.2.2.2.2.2.2.2.2.2.2.1 = 3) (ok : OkF F prog_12_method_63_code "LastSeenModel" ({ frames := 5, cells := 0, slots := 0, locals := 118 } : Room)) {Q : Int → SS → Prop} (hQ : RetI F Q) {x1 x2 : Int} {s : SS} (h : Sp_Md_finding x1 x2 s Q) : AtS F 0 [(0, .ref (F.2.1.1 10)), (1, vI x1), (2, vI x2)] [] s := by
  unfold Sp_Md_finding at h
  refine r_aload_n ok 0 d_Md_finding_0 rfl rfl ?_
  refine r_iload_n ok 1 d_Md_finding_1 rfl rfl ?_
  refine r_iload_n ok 2 d_Md_finding_2 rfl rfl ?_
  refine r_callVi (As := [vI x1, vI x2]) (rest := []) ok 10 rfl rfl rfl wl_Md_269 wi_y_Md_isThere ws_y_Md_isThere wn_Md wc_y_Md_isThere (by decide) (by decide) hh_Md_isThere (Nat.le_of_ble_eq_true rfl) rfl d_Md_finding_3 (L_Md_isThere F.1 F.2.1 F.2.2.1 hD h) (fun r2 s1 h => ?_)
  refine r_if_ne ok 11 d_Md_finding_6 (by decide) h.1 (fun c => ?_) (fun c => ?_)
  · replace h := h.2.1 c
    refine r_aload_n ok 0 d_Md_finding_11 rfl rfl ?_
    refine g_Md_seenRule ok d_Md_finding_12 ?_
    refine r_if_ge ok 23 d_Md_finding_15 (by decide) h.1 (fun c => ?_) (fun c => ?_)
    · replace h := h.2.1 c
      refine r_aload_n ok 0 d_Md_finding_23 rfl rfl ?_
      refine r_aload_n ok 0 d_Md_finding_24 rfl rfl ?_
      refine g_Md_seenRule ok d_Md_finding_25 ?_
      refine r_aload_n ok 0 d_Md_finding_28 rfl rfl ?_
      refine g_Md_person ok d_Md_finding_29 ?_
      refine r_iload_n ok 1 d_Md_finding_32 rfl rfl ?_
      refine r_iald ok 72 d_Md_finding_33 (by decide) rfl h.1 ?_
      replace h := h.2
      refine r_callVi (As := [vI (s1.1 35), vI (s1.2 72 x1)]) (rest := []) ok 10 rfl rfl rfl wl_Md_379 wi_y_Md_digitOf ws_y_Md_digitOf wn_Md wc_y_Md_digitOf (by decide) (by decide) hh_Md_digitOf (Nat.le_of_ble_eq_true rfl) rfl d_Md_finding_34 (L_Md_digitOf F.1 F.2.1 F.2.2.1 hD h) (fun r4 s3 h => ?_)
      exact hQ _ _ _ _ _ (ok_code ok) d_Md_finding_37 h
    · replace h := h.2.2 c
      refine r_bipush ok (-5) d_Md_finding_18 (by decide) ?_
      refine r_goto ok 37 d_Md_finding_20 (by decide) ?_
      exact hQ _ _ _ _ _ (ok_code ok) d_Md_finding_37 h
  · replace h := h.2.2 c
    refine r_iconst ok (-1) d_Md_finding_9 rfl ?_
    exact hQ _ _ _ _ _ (ok_code ok) d_Md_finding_10 h
theorem L_Md_finding (l : Launch) (G : GE) (A : Nat → Prop) (hD : ∀ σ, va_D A (GW G σ)) {x1 x2 : Int} {s : SS} {Q : Int → SS → Prop} (h : Sp_Md_finding x1 x2 s Q) : Met l y_Md_finding (Cond.code y_Md_finding prog_12_method_63_code 3 (some .int) :: lw_ok) ({ frames := 5, cells := 0, slots := 0, locals := 118 } : Room) (va_Pc [.ref (G.1 10), vI x1, vI x2] (gB G s)) (va_Qi (fun (r : Int32) (s2 : SS) => ∃ x : Int, r = iI x ∧ Q x s2) (fun s2 t => gB G s2 t) A) 0 0 A := by
  refine met_i hD (by decide) ⟨rfl, rfl⟩ (Nat.le_of_ble_eq_true rfl) (lv := [(0, .ref (G.1 10)), (1, vI x1), (2, vI x2)]) rfl (fun F h1 h2 h3 hm ok hQ => ?_)
  subst h1 h2 h3
  have hDF := hD
  exact K_Md_finding_e hDF hm ok hQ h
theorem d_Md_find_0 : decode prog_12_method_64_code 0 = .ok (.aload_n 0, 1) := by decide +kernel
theorem d_Md_find_1 : decode prog_12_method_64_code 1 = .ok (.iload_n 1, 1) := by decide +kernel
theorem d_Md_find_2 : decode prog_12_method_64_code 2 = .ok (.iconst (-1), 1) := by decide +kernel
theorem d_Md_find_3 : decode prog_12_method_64_code 3 = .ok (.invokevirtual 269, 3) := by decide +kernel
theorem d_Md_find_6 : decode prog_12_method_64_code 6 = .ok (.ifCond .ne 5, 3) := by decide +kernel
theorem d_Md_find_9 : decode prog_12_method_64_code 9 = .ok (.iconst (-1), 1) := by decide +kernel
theorem d_Md_find_10 : decode prog_12_method_64_code 10 = .ok (.ireturn, 1) := by decide +kernel
theorem d_Md_find_11 : decode prog_12_method_64_code 11 = .ok (.aload_n 0, 1) := by decide +kernel
theorem d_Md_find_12 : decode prog_12_method_64_code 12 = .ok (.getfield 250, 3) := by decide +kernel
theorem d_Md_find_15 : decode prog_12_method_64_code 15 = .ok (.ifCond .ge 6, 3) := by decide +kernel
theorem d_Md_find_18 : decode prog_12_method_64_code 18 = .ok (.bipush (-3), 2) := by decide +kernel
theorem d_Md_find_20 : decode prog_12_method_64_code 20 = .ok (.ireturn, 1) := by decide +kernel
theorem d_Md_find_21 : decode prog_12_method_64_code 21 = .ok (.aload_n 0, 1) := by decide +kernel
theorem d_Md_find_22 : decode prog_12_method_64_code 22 = .ok (.getfield 383, 3) := by decide +kernel
theorem d_Md_find_25 : decode prog_12_method_64_code 25 = .ok (.bipush 30, 2) := by decide +kernel
theorem d_Md_find_27 : decode prog_12_method_64_code 27 = .ok (.if_icmp .ne 6, 3) := by decide +kernel
theorem d_Md_find_30 : decode prog_12_method_64_code 30 = .ok (.bipush (-4), 2) := by decide +kernel
theorem d_Md_find_32 : decode prog_12_method_64_code 32 = .ok (.ireturn, 1) := by decide +kernel
theorem d_Md_find_33 : decode prog_12_method_64_code 33 = .ok (.aload_n 0, 1) := by decide +kernel
theorem d_Md_find_34 : decode prog_12_method_64_code 34 = .ok (.getfield 117, 3) := by decide +kernel
theorem d_Md_find_37 : decode prog_12_method_64_code 37 = .ok (.aload_n 0, 1) := by decide +kernel
theorem d_Md_find_38 : decode prog_12_method_64_code 38 = .ok (.getfield 383, 3) := by decide +kernel
theorem d_Md_find_41 : decode prog_12_method_64_code 41 = .ok (.iload_n 1, 1) := by decide +kernel
theorem d_Md_find_42 : decode prog_12_method_64_code 42 = .ok (.iastore, 1) := by decide +kernel
theorem d_Md_find_43 : decode prog_12_method_64_code 43 = .ok (.aload_n 0, 1) := by decide +kernel
theorem d_Md_find_44 : decode prog_12_method_64_code 44 = .ok (.getfield 120, 3) := by decide +kernel
theorem d_Md_find_47 : decode prog_12_method_64_code 47 = .ok (.aload_n 0, 1) := by decide +kernel
theorem d_Md_find_48 : decode prog_12_method_64_code 48 = .ok (.getfield 383, 3) := by decide +kernel
theorem d_Md_find_51 : decode prog_12_method_64_code 51 = .ok (.aload_n 0, 1) := by decide +kernel
theorem d_Md_find_52 : decode prog_12_method_64_code 52 = .ok (.getfield 198, 3) := by decide +kernel
theorem d_Md_find_55 : decode prog_12_method_64_code 55 = .ok (.iastore, 1) := by decide +kernel
theorem d_Md_find_56 : decode prog_12_method_64_code 56 = .ok (.aload_n 0, 1) := by decide +kernel
theorem d_Md_find_57 : decode prog_12_method_64_code 57 = .ok (.getfield 123, 3) := by decide +kernel
theorem d_Md_find_60 : decode prog_12_method_64_code 60 = .ok (.aload_n 0, 1) := by decide +kernel
theorem d_Md_find_61 : decode prog_12_method_64_code 61 = .ok (.getfield 383, 3) := by decide +kernel
theorem d_Md_find_64 : decode prog_12_method_64_code 64 = .ok (.aload_n 0, 1) := by decide +kernel
theorem d_Md_find_65 : decode prog_12_method_64_code 65 = .ok (.aload_n 0, 1) := by decide +kernel
theorem d_Md_find_66 : decode prog_12_method_64_code 66 = .ok (.getfield 250, 3) := by decide +kernel
theorem d_Md_find_69 : decode prog_12_method_64_code 69 = .ok (.aload_n 0, 1) := by decide +kernel
theorem d_Md_find_70 : decode prog_12_method_64_code 70 = .ok (.getfield 50, 3) := by decide +kernel
theorem d_Md_find_73 : decode prog_12_method_64_code 73 = .ok (.iload_n 1, 1) := by decide +kernel
theorem d_Md_find_74 : decode prog_12_method_64_code 74 = .ok (.iaload, 1) := by decide +kernel
theorem d_Md_find_75 : decode prog_12_method_64_code 75 = .ok (.invokevirtual 379, 3) := by decide +kernel
theorem d_Md_find_78 : decode prog_12_method_64_code 78 = .ok (.iastore, 1) := by decide +kernel
theorem d_Md_find_79 : decode prog_12_method_64_code 79 = .ok (.aload_n 0, 1) := by decide +kernel
theorem d_Md_find_80 : decode prog_12_method_64_code 80 = .ok (.dup, 1) := by decide +kernel
theorem d_Md_find_81 : decode prog_12_method_64_code 81 = .ok (.getfield 383, 3) := by decide +kernel
theorem d_Md_find_84 : decode prog_12_method_64_code 84 = .ok (.iconst 1, 1) := by decide +kernel
theorem d_Md_find_85 : decode prog_12_method_64_code 85 = .ok (.iadd, 1) := by decide +kernel
theorem d_Md_find_86 : decode prog_12_method_64_code 86 = .ok (.putfield 383, 3) := by decide +kernel
theorem d_Md_find_89 : decode prog_12_method_64_code 89 = .ok (.aload_n 0, 1) := by decide +kernel
theorem d_Md_find_90 : decode prog_12_method_64_code 90 = .ok (.getfield 383, 3) := by decide +kernel
theorem d_Md_find_93 : decode prog_12_method_64_code 93 = .ok (.iconst 1, 1) := by decide +kernel
theorem d_Md_find_94 : decode prog_12_method_64_code 94 = .ok (.isub, 1) := by decide +kernel
theorem d_Md_find_95 : decode prog_12_method_64_code 95 = .ok (.ireturn, 1) := by decide +kernel
set_option maxHeartbeats 4000000 in
set_option maxRecDepth 100000 in
theorem K_Md_find_e {F : FT} (hD : ∀ σ, va_D F.2.2.1 (GW F.2.1 σ)) (hm : F.2.2.2.2.2.2.2.2.2.2.2.2.2.2.1 = 2) (ok : OkF F prog_12_method_64_code "LastSeenModel" ({ frames := 5, cells := 0, slots := 0, locals := 118 } : Room)) {Q : Int → SS → Prop} (hQ : RetI F Q) {x1 : Int} {s : SS} (h : Sp_Md_find x1 s Q) : AtS F 0 [(0, .ref (F.2.1.1 10)), (1, vI x1)] [] s := by
  unfold Sp_Md_find at h
  refine r_aload_n ok 0 d_Md_find_0 rfl rfl ?_
  refine r_iload_n ok 1 d_Md_find_1 rfl rfl ?_
  refine r_iconst ok (-1) d_Md_find_2 rfl ?_
  refine r_callVi (As := [vI x1, vI (-1)]) (rest := []) ok 10 rfl rfl rfl wl_Md_269 wi_y_Md_isThere ws_y_Md_isThere wn_Md wc_y_Md_isThere (by decide) (by decide) hh_Md_isThere (Nat.le_of_ble_eq_true rfl) rfl d_Md_find_3 (L_Md_isThere F.1 F.2.1 F.2.2.1 hD h) (fun r2 s1 h => ?_)
  refine r_if_ne ok 11 d_Md_find_6 (by decide) h.1 (fun c => ?_) (fun c => ?_)
  · replace h := h.2.1 c
    refine r_aload_n ok 0 d_Md_find_11 rfl rfl ?_
    refine g_Md_seenRule ok d_Md_find_12 ?_
    refine r_if_ge ok 21 d_Md_find_15 (by decide) h.1 (fun c => ?_) (fun c => ?_)
    · replace h := h.2.1 c
      refine r_aload_n ok 0 d_Md_find_21 rfl rfl ?_
      refine g_Md_findings ok d_Md_find_22 ?_
      refine r_bipush ok 30 d_Md_find_25 (by decide) ?_
      refine r_icmp_ne ok 33 d_Md_find_27 (by decide) h.1 (by decide) (fun c => ?_) (fun c => ?_)
      · replace h := h.2.1 c
        refine r_aload_n ok 0 d_Md_find_33 rfl rfl ?_
        refine g_Md_foundName ok d_Md_find_34 ?_
        refine r_aload_n ok 0 d_Md_find_37 rfl rfl ?_
        refine g_Md_findings ok d_Md_find_38 ?_
        refine r_iload_n ok 1 d_Md_find_41 rfl rfl ?_
        refine r_iast ok 94 d_Md_find_42 (by decide) rfl h.1 ?_
        replace h := h.2 _ rfl
        generalize sA s1 94 (s1.1 44) x1 = s3 at h ⊢
        refine r_aload_n ok 0 d_Md_find_43 rfl rfl ?_
        refine g_Md_foundBy ok d_Md_find_44 ?_
        refine r_aload_n ok 0 d_Md_find_47 rfl rfl ?_
        refine g_Md_findings ok d_Md_find_48 ?_
        refine r_aload_n ok 0 d_Md_find_51 rfl rfl ?_
        refine g_Md_entries ok d_Md_find_52 ?_
        refine r_iast ok 95 d_Md_find_55 (by decide) rfl h.1 ?_
        replace h := h.2 _ rfl
        generalize sA s3 95 (s3.1 44) (s3.1 29) = s4 at h ⊢
        refine r_aload_n ok 0 d_Md_find_56 rfl rfl ?_
        refine g_Md_foundDigit ok d_Md_find_57 ?_
        refine r_aload_n ok 0 d_Md_find_60 rfl rfl ?_
        refine g_Md_findings ok d_Md_find_61 ?_
        refine r_aload_n ok 0 d_Md_find_64 rfl rfl ?_
        refine r_aload_n ok 0 d_Md_find_65 rfl rfl ?_
        refine g_Md_seenRule ok d_Md_find_66 ?_
        refine r_aload_n ok 0 d_Md_find_69 rfl rfl ?_
        refine g_Md_person ok d_Md_find_70 ?_
        refine r_iload_n ok 1 d_Md_find_73 rfl rfl ?_
        refine r_iald ok 72 d_Md_find_74 (by decide) rfl h.1 ?_
        replace h := h.2
        refine r_callVi (As := [vI (s4.1 35), vI (s4.2 72 x1)]) (rest := [vI (s4.1 44), .ref (F.2.1.1 107)]) ok 10 rfl rfl rfl wl_Md_379 wi_y_Md_digitOf ws_y_Md_digitOf wn_Md wc_y_Md_digitOf (by decide) (by decide) hh_Md_digitOf (Nat.le_of_ble_eq_true rfl) rfl d_Md_find_75 (L_Md_digitOf F.1 F.2.1 F.2.2.1 hD h) (fun r6 s5 h => ?_)
        refine r_iast ok 96 d_Md_find_78 (by decide) rfl h.1 ?_
        replace h := h.2 _ rfl
        generalize sA s5 96 (s4.1 44) r6 = s7 at h ⊢
        refine r_aload_n ok 0 d_Md_find_79 rfl rfl ?_
        refine r_dup ok d_Md_find_80 rfl ?_
        refine g_Md_findings ok d_Md_find_81 ?_
        refine r_iconst ok 1 d_Md_find_84 rfl ?_
        refine r_iadd ok d_Md_find_85 ?_
        refine p_Md_findings ok d_Md_find_86 ?_
        replace h := h _ rfl
        generalize sF s7 44 ((s7.1 44) + 1) = s8 at h ⊢
        refine r_aload_n ok 0 d_Md_find_89 rfl rfl ?_
        refine g_Md_findings ok d_Md_find_90 ?_
        refine r_iconst ok 1 d_Md_find_93 rfl ?_
        refine r_isub ok d_Md_find_94 ?_
        exact hQ _ _ _ _ _ (ok_code ok) d_Md_find_95 h
      · replace h := h.2.2 c
        refine r_bipush ok (-4) d_Md_find_30 (by decide) ?_
        exact hQ _ _ _ _ _ (ok_code ok) d_Md_find_32 h
    · replace h := h.2.2 c
      refine r_bipush ok (-3) d_Md_find_18 (by decide) ?_
      exact hQ _ _ _ _ _ (ok_code ok) d_Md_find_20 h
  · replace h := h.2.2 c
    refine r_iconst ok (-1) d_Md_find_9 rfl ?_
    exact hQ _ _ _ _ _ (ok_code ok) d_Md_find_10 h
theorem L_Md_find (l : Launch) (G : GE) (A : Nat → Prop) (hD : ∀ σ, va_D A (GW G σ)) {x1 : Int} {s : SS} {Q : Int → SS → Prop} (h : Sp_Md_find x1 s Q) : Met l y_Md_find (Cond.code y_Md_find prog_12_method_64_code 2 (some .int) :: lw_ok) ({ frames := 5, cells := 0, slots := 0, locals := 118 } : Room) (va_Pc [.ref (G.1 10), vI x1] (gB G s)) (va_Qi (fun (r : Int32) (s2 : SS) => ∃ x : Int, r = iI x ∧ Q x s2) (fun s2 t => gB G s2 t) A) 0 0 A := by
  refine met_i hD (by decide) ⟨rfl, rfl⟩ (Nat.le_of_ble_eq_true rfl) (lv := [(0, .ref (G.1 10)), (1, vI x1)]) rfl (fun F h1 h2 h3 hm ok hQ => ?_)
  subst h1 h2 h3
  have hDF := hD
  exact K_Md_find_e hDF hm ok hQ h
theorem d_Md_isHeld_0 : decode prog_12_method_65_code 0 = .ok (.aload_n 0, 1) := by decide +kernel
theorem d_Md_isHeld_1 : decode prog_12_method_65_code 1 = .ok (.aload_n 0, 1) := by decide +kernel
theorem d_Md_isHeld_2 : decode prog_12_method_65_code 2 = .ok (.getfield 198, 3) := by decide +kernel
theorem d_Md_isHeld_5 : decode prog_12_method_65_code 5 = .ok (.invokevirtual 266, 3) := by decide +kernel
theorem d_Md_isHeld_8 : decode prog_12_method_65_code 8 = .ok (.iconst 0, 1) := by decide +kernel
theorem d_Md_isHeld_9 : decode prog_12_method_65_code 9 = .ok (.istore_n 2, 1) := by decide +kernel
theorem d_Md_isHeld_10 : decode prog_12_method_65_code 10 = .ok (.iload_n 2, 1) := by decide +kernel
theorem d_Md_isHeld_11 : decode prog_12_method_65_code 11 = .ok (.bipush 40, 2) := by decide +kernel
theorem d_Md_isHeld_13 : decode prog_12_method_65_code 13 = .ok (.if_icmp .ge 21, 3) := by decide +kernel
theorem d_Md_isHeld_16 : decode prog_12_method_65_code 16 = .ok (.aload_n 0, 1) := by decide +kernel
theorem d_Md_isHeld_17 : decode prog_12_method_65_code 17 = .ok (.getfield 47, 3) := by decide +kernel
theorem d_Md_isHeld_20 : decode prog_12_method_65_code 20 = .ok (.iload_n 2, 1) := by decide +kernel
theorem d_Md_isHeld_21 : decode prog_12_method_65_code 21 = .ok (.aload_n 0, 1) := by decide +kernel
theorem d_Md_isHeld_22 : decode prog_12_method_65_code 22 = .ok (.getfield 44, 3) := by decide +kernel
theorem d_Md_isHeld_25 : decode prog_12_method_65_code 25 = .ok (.iload_n 2, 1) := by decide +kernel
theorem d_Md_isHeld_26 : decode prog_12_method_65_code 26 = .ok (.baload, 1) := by decide +kernel
theorem d_Md_isHeld_27 : decode prog_12_method_65_code 27 = .ok (.bastore, 1) := by decide +kernel
theorem d_Md_isHeld_28 : decode prog_12_method_65_code 28 = .ok (.iinc 2 1, 3) := by decide +kernel
theorem d_Md_isHeld_31 : decode prog_12_method_65_code 31 = .ok (.goto (-21), 3) := by decide +kernel
theorem d_Md_isHeld_34 : decode prog_12_method_65_code 34 = .ok (.aload_n 0, 1) := by decide +kernel
theorem d_Md_isHeld_35 : decode prog_12_method_65_code 35 = .ok (.aload_n 0, 1) := by decide +kernel
theorem d_Md_isHeld_36 : decode prog_12_method_65_code 36 = .ok (.getfield 120, 3) := by decide +kernel
theorem d_Md_isHeld_39 : decode prog_12_method_65_code 39 = .ok (.iload_n 1, 1) := by decide +kernel
theorem d_Md_isHeld_40 : decode prog_12_method_65_code 40 = .ok (.iaload, 1) := by decide +kernel
theorem d_Md_isHeld_41 : decode prog_12_method_65_code 41 = .ok (.invokevirtual 266, 3) := by decide +kernel
theorem d_Md_isHeld_44 : decode prog_12_method_65_code 44 = .ok (.iconst 0, 1) := by decide +kernel
theorem d_Md_isHeld_45 : decode prog_12_method_65_code 45 = .ok (.istore_n 2, 1) := by decide +kernel
theorem d_Md_isHeld_46 : decode prog_12_method_65_code 46 = .ok (.iload_n 2, 1) := by decide +kernel
theorem d_Md_isHeld_47 : decode prog_12_method_65_code 47 = .ok (.bipush 40, 2) := by decide +kernel
theorem d_Md_isHeld_49 : decode prog_12_method_65_code 49 = .ok (.if_icmp .ge 38, 3) := by decide +kernel
theorem d_Md_isHeld_52 : decode prog_12_method_65_code 52 = .ok (.aload_n 0, 1) := by decide +kernel
theorem d_Md_isHeld_53 : decode prog_12_method_65_code 53 = .ok (.getfield 44, 3) := by decide +kernel
theorem d_Md_isHeld_56 : decode prog_12_method_65_code 56 = .ok (.iload_n 2, 1) := by decide +kernel
theorem d_Md_isHeld_57 : decode prog_12_method_65_code 57 = .ok (.aload_n 0, 1) := by decide +kernel
theorem d_Md_isHeld_58 : decode prog_12_method_65_code 58 = .ok (.getfield 44, 3) := by decide +kernel
theorem d_Md_isHeld_61 : decode prog_12_method_65_code 61 = .ok (.iload_n 2, 1) := by decide +kernel
theorem d_Md_isHeld_62 : decode prog_12_method_65_code 62 = .ok (.baload, 1) := by decide +kernel
theorem d_Md_isHeld_63 : decode prog_12_method_65_code 63 = .ok (.ifCond .eq 16, 3) := by decide +kernel
theorem d_Md_isHeld_66 : decode prog_12_method_65_code 66 = .ok (.aload_n 0, 1) := by decide +kernel
theorem d_Md_isHeld_67 : decode prog_12_method_65_code 67 = .ok (.getfield 47, 3) := by decide +kernel
theorem d_Md_isHeld_70 : decode prog_12_method_65_code 70 = .ok (.iload_n 2, 1) := by decide +kernel
theorem d_Md_isHeld_71 : decode prog_12_method_65_code 71 = .ok (.baload, 1) := by decide +kernel
theorem d_Md_isHeld_72 : decode prog_12_method_65_code 72 = .ok (.ifCond .eq 7, 3) := by decide +kernel
theorem d_Md_isHeld_75 : decode prog_12_method_65_code 75 = .ok (.iconst 1, 1) := by decide +kernel
theorem d_Md_isHeld_76 : decode prog_12_method_65_code 76 = .ok (.goto 4, 3) := by decide +kernel
theorem d_Md_isHeld_79 : decode prog_12_method_65_code 79 = .ok (.iconst 0, 1) := by decide +kernel
theorem d_Md_isHeld_80 : decode prog_12_method_65_code 80 = .ok (.bastore, 1) := by decide +kernel
theorem d_Md_isHeld_81 : decode prog_12_method_65_code 81 = .ok (.iinc 2 1, 3) := by decide +kernel
theorem d_Md_isHeld_84 : decode prog_12_method_65_code 84 = .ok (.goto (-38), 3) := by decide +kernel
theorem d_Md_isHeld_87 : decode prog_12_method_65_code 87 = .ok (.aload_n 0, 1) := by decide +kernel
theorem d_Md_isHeld_88 : decode prog_12_method_65_code 88 = .ok (.aload_n 0, 1) := by decide +kernel
theorem d_Md_isHeld_89 : decode prog_12_method_65_code 89 = .ok (.getfield 250, 3) := by decide +kernel
theorem d_Md_isHeld_92 : decode prog_12_method_65_code 92 = .ok (.aload_n 0, 1) := by decide +kernel
theorem d_Md_isHeld_93 : decode prog_12_method_65_code 93 = .ok (.getfield 50, 3) := by decide +kernel
theorem d_Md_isHeld_96 : decode prog_12_method_65_code 96 = .ok (.aload_n 0, 1) := by decide +kernel
theorem d_Md_isHeld_97 : decode prog_12_method_65_code 97 = .ok (.getfield 117, 3) := by decide +kernel
theorem d_Md_isHeld_100 : decode prog_12_method_65_code 100 = .ok (.iload_n 1, 1) := by decide +kernel
theorem d_Md_isHeld_101 : decode prog_12_method_65_code 101 = .ok (.iaload, 1) := by decide +kernel
theorem d_Md_isHeld_102 : decode prog_12_method_65_code 102 = .ok (.iaload, 1) := by decide +kernel
theorem d_Md_isHeld_103 : decode prog_12_method_65_code 103 = .ok (.invokevirtual 379, 3) := by decide +kernel
theorem d_Md_isHeld_106 : decode prog_12_method_65_code 106 = .ok (.aload_n 0, 1) := by decide +kernel
theorem d_Md_isHeld_107 : decode prog_12_method_65_code 107 = .ok (.getfield 123, 3) := by decide +kernel
theorem d_Md_isHeld_110 : decode prog_12_method_65_code 110 = .ok (.iload_n 1, 1) := by decide +kernel
theorem d_Md_isHeld_111 : decode prog_12_method_65_code 111 = .ok (.iaload, 1) := by decide +kernel
theorem d_Md_isHeld_112 : decode prog_12_method_65_code 112 = .ok (.if_icmp .ne 7, 3) := by decide +kernel
theorem d_Md_isHeld_115 : decode prog_12_method_65_code 115 = .ok (.iconst 1, 1) := by decide +kernel
theorem d_Md_isHeld_116 : decode prog_12_method_65_code 116 = .ok (.goto 4, 3) := by decide +kernel
theorem d_Md_isHeld_119 : decode prog_12_method_65_code 119 = .ok (.iconst 0, 1) := by decide +kernel
theorem d_Md_isHeld_120 : decode prog_12_method_65_code 120 = .ok (.ireturn, 1) := by decide +kernel
set_option maxHeartbeats 4000000 in
set_option maxRecDepth 100000 in
theorem K_Md_isHeld_10 {F : FT} (hD : ∀ σ, va_D F.2.2.1 (GW F.2.1 σ)) (hm : F.2.2.2.2.2.2.2.2.2.2.2.2.2.2.1 = 3) (ok : OkF F prog_12_method_65_code "LastSeenModel" ({ frames := 5, cells := 0, slots := 0, locals := 118 } : Room)) {Q : Int → SS → Prop} (hQ : RetZ F Q) {x1 x2 : Int} {s : SS} (h : B_Md_isHeld_10 Q (fun x1 x2 s => AtS F 10 [(0, .ref (F.2.1.1 10)), (1, vI x1), (2, vI x2)] [] s) (fun x1 x2 s => AtS F 46 [(0, .ref (F.2.1.1 10)), (1, vI x1), (2, vI x2)] [] s) x1 x2 s) : AtS F 10 [(0, .ref (F.2.1.1 10)), (1, vI x1), (2, vI x2)] [] s := by
  unfold B_Md_isHeld_10 at h
  refine r_iload_n ok 2 d_Md_isHeld_10 rfl rfl ?_
  refine r_bipush ok 40 d_Md_isHeld_11 (by decide) ?_
  refine r_icmp_ge ok 34 d_Md_isHeld_13 (by decide) h.1 (by decide) (fun c => ?_) (fun c => ?_)
  · replace h := h.2.1 c
    refine r_aload_n ok 0 d_Md_isHeld_34 rfl rfl ?_
    refine r_aload_n ok 0 d_Md_isHeld_35 rfl rfl ?_
    refine g_Md_foundBy ok d_Md_isHeld_36 ?_
    refine r_iload_n ok 1 d_Md_isHeld_39 rfl rfl ?_
    refine r_iald ok 95 d_Md_isHeld_40 (by decide) rfl h.1 ?_
    replace h := h.2
    refine r_callVv (As := [vI (s.2 95 x1)]) (rest := []) ok 10 rfl rfl rfl wl_Md_266 wi_y_Md_looks ws_y_Md_looks wn_Md wc_y_Md_looks (by decide) (by decide) hh_Md_looks (Nat.le_of_ble_eq_true rfl) rfl d_Md_isHeld_41 (L_Md_looks F.1 F.2.1 F.2.2.1 hD h) (fun s2 h => ?_)
    refine r_iconst ok 0 d_Md_isHeld_44 rfl ?_
    refine r_istore_n ok [(2, vI 0), (0, .ref (F.2.1.1 10)), (1, vI x1)] d_Md_isHeld_45 rfl hm (by decide) rfl ?_
    exact r_sub [1, 2, 0] rfl h
  · replace h := h.2.2 c
    refine r_aload_n ok 0 d_Md_isHeld_16 rfl rfl ?_
    refine g_Md_standsNow ok d_Md_isHeld_17 ?_
    refine r_iload_n ok 2 d_Md_isHeld_20 rfl rfl ?_
    refine r_aload_n ok 0 d_Md_isHeld_21 rfl rfl ?_
    refine g_Md_stands ok d_Md_isHeld_22 ?_
    refine r_iload_n ok 2 d_Md_isHeld_25 rfl rfl ?_
    refine r_zald ok 70 d_Md_isHeld_26 (by decide) rfl h.1 ?_
    replace h := h.2
    refine r_zast ok 71 d_Md_isHeld_27 (by decide) rfl h.1 h.2.1 ?_
    replace h := h.2.2 _ rfl
    generalize sA s 71 x2 (s.2 70 x2) = s3 at h ⊢
    refine r_iinc ok 2 (x2 + 1) [(2, vI (x2 + 1)), (0, .ref (F.2.1.1 10)), (1, vI x1)] d_Md_isHeld_28 rfl rfl hm (by decide) rfl ?_
    refine r_goto ok 10 d_Md_isHeld_31 (by decide) ?_
    exact r_sub [1, 2, 0] rfl h
set_option maxHeartbeats 4000000 in
set_option maxRecDepth 100000 in
theorem K_Md_isHeld_46 {F : FT} (hD : ∀ σ, va_D F.2.2.1 (GW F.2.1 σ)) (hm : F.2.2.2.2.2.2.2.2.2.2.2.2.2.2.1 = 3) (ok : OkF F prog_12_method_65_code "LastSeenModel" ({ frames := 5, cells := 0, slots := 0, locals := 118 } : Room)) {Q : Int → SS → Prop} (hQ : RetZ F Q) {x1 x2 : Int} {s : SS} (h : B_Md_isHeld_46 Q (fun x1 x2 s => AtS F 10 [(0, .ref (F.2.1.1 10)), (1, vI x1), (2, vI x2)] [] s) (fun x1 x2 s => AtS F 46 [(0, .ref (F.2.1.1 10)), (1, vI x1), (2, vI x2)] [] s) x1 x2 s) : AtS F 46 [(0, .ref (F.2.1.1 10)), (1, vI x1), (2, vI x2)] [] s := by
  unfold B_Md_isHeld_46 at h
  refine r_iload_n ok 2 d_Md_isHeld_46 rfl rfl ?_
  refine r_bipush ok 40 d_Md_isHeld_47 (by decide) ?_
  refine r_icmp_ge ok 87 d_Md_isHeld_49 (by decide) h.1 (by decide) (fun c => ?_) (fun c => ?_)
  · replace h := h.2.1 c
    refine r_aload_n ok 0 d_Md_isHeld_87 rfl rfl ?_
    refine r_aload_n ok 0 d_Md_isHeld_88 rfl rfl ?_
    refine g_Md_seenRule ok d_Md_isHeld_89 ?_
    refine r_aload_n ok 0 d_Md_isHeld_92 rfl rfl ?_
    refine g_Md_person ok d_Md_isHeld_93 ?_
    refine r_aload_n ok 0 d_Md_isHeld_96 rfl rfl ?_
    refine g_Md_foundName ok d_Md_isHeld_97 ?_
    refine r_iload_n ok 1 d_Md_isHeld_100 rfl rfl ?_
    refine r_iald ok 94 d_Md_isHeld_101 (by decide) rfl h.1 ?_
    replace h := h.2
    refine r_iald ok 72 d_Md_isHeld_102 (by decide) rfl h.1 ?_
    replace h := h.2
    refine r_callVi (As := [vI (s.1 35), vI (s.2 72 (s.2 94 x1))]) (rest := []) ok 10 rfl rfl rfl wl_Md_379 wi_y_Md_digitOf ws_y_Md_digitOf wn_Md wc_y_Md_digitOf (by decide) (by decide) hh_Md_digitOf (Nat.le_of_ble_eq_true rfl) rfl d_Md_isHeld_103 (L_Md_digitOf F.1 F.2.1 F.2.2.1 hD h) (fun r5 s4 h => ?_)
    refine r_aload_n ok 0 d_Md_isHeld_106 rfl rfl ?_
    refine g_Md_foundDigit ok d_Md_isHeld_107 ?_
    refine r_iload_n ok 1 d_Md_isHeld_110 rfl rfl ?_
    refine r_iald ok 96 d_Md_isHeld_111 (by decide) rfl h.1 ?_
    replace h := h.2
    refine r_icmp_ne ok 119 d_Md_isHeld_112 (by decide) h.1 h.2.1 (fun c => ?_) (fun c => ?_)
    · replace h := h.2.2.1 c
      refine r_iconst ok 0 d_Md_isHeld_119 rfl ?_
      exact hQ _ _ _ _ _ (ok_code ok) d_Md_isHeld_120 (by decide) h
    · replace h := h.2.2.2 c
      refine r_iconst ok 1 d_Md_isHeld_115 rfl ?_
      refine r_goto ok 120 d_Md_isHeld_116 (by decide) ?_
      exact hQ _ _ _ _ _ (ok_code ok) d_Md_isHeld_120 (by decide) h
  · replace h := h.2.2 c
    refine r_aload_n ok 0 d_Md_isHeld_52 rfl rfl ?_
    refine g_Md_stands ok d_Md_isHeld_53 ?_
    refine r_iload_n ok 2 d_Md_isHeld_56 rfl rfl ?_
    refine r_aload_n ok 0 d_Md_isHeld_57 rfl rfl ?_
    refine g_Md_stands ok d_Md_isHeld_58 ?_
    refine r_iload_n ok 2 d_Md_isHeld_61 rfl rfl ?_
    refine r_zald ok 70 d_Md_isHeld_62 (by decide) rfl h.1 ?_
    replace h := h.2
    refine r_if_eq ok 79 d_Md_isHeld_63 (by decide) h.1 (fun c => ?_) (fun c => ?_)
    · replace h := h.2.1 c
      refine r_iconst ok 0 d_Md_isHeld_79 rfl ?_
      refine r_zast ok 70 d_Md_isHeld_80 (by decide) rfl h.1 (by decide) ?_
      replace h := h.2 _ rfl
      generalize sA s 70 x2 0 = s6 at h ⊢
      refine r_iinc ok 2 (x2 + 1) [(2, vI (x2 + 1)), (0, .ref (F.2.1.1 10)), (1, vI x1)] d_Md_isHeld_81 rfl rfl hm (by decide) rfl ?_
      refine r_goto ok 46 d_Md_isHeld_84 (by decide) ?_
      exact r_sub [1, 2, 0] rfl h
    · replace h := h.2.2 c
      refine r_aload_n ok 0 d_Md_isHeld_66 rfl rfl ?_
      refine g_Md_standsNow ok d_Md_isHeld_67 ?_
      refine r_iload_n ok 2 d_Md_isHeld_70 rfl rfl ?_
      refine r_zald ok 71 d_Md_isHeld_71 (by decide) rfl h.1 ?_
      replace h := h.2
      refine r_if_eq ok 79 d_Md_isHeld_72 (by decide) h.1 (fun c => ?_) (fun c => ?_)
      · replace h := h.2.1 c
        refine r_iconst ok 0 d_Md_isHeld_79 rfl ?_
        refine r_zast ok 70 d_Md_isHeld_80 (by decide) rfl h.1 (by decide) ?_
        replace h := h.2 _ rfl
        generalize sA s 70 x2 0 = s7 at h ⊢
        refine r_iinc ok 2 (x2 + 1) [(2, vI (x2 + 1)), (0, .ref (F.2.1.1 10)), (1, vI x1)] d_Md_isHeld_81 rfl rfl hm (by decide) rfl ?_
        refine r_goto ok 46 d_Md_isHeld_84 (by decide) ?_
        exact r_sub [1, 2, 0] rfl h
      · replace h := h.2.2 c
        refine r_iconst ok 1 d_Md_isHeld_75 rfl ?_
        refine r_goto ok 80 d_Md_isHeld_76 (by decide) ?_
        refine r_zast ok 70 d_Md_isHeld_80 (by decide) rfl h.1 (by decide) ?_
        replace h := h.2 _ rfl
        generalize sA s 70 x2 1 = s8 at h ⊢
        refine r_iinc ok 2 (x2 + 1) [(2, vI (x2 + 1)), (0, .ref (F.2.1.1 10)), (1, vI x1)] d_Md_isHeld_81 rfl rfl hm (by decide) rfl ?_
        refine r_goto ok 46 d_Md_isHeld_84 (by decide) ?_
        exact r_sub [1, 2, 0] rfl h
set_option maxHeartbeats 4000000 in
set_option maxRecDepth 100000 in
theorem K_Md_isHeld_e {F : FT} (hD : ∀ σ, va_D F.2.2.1 (GW F.2.1 σ)) (hm : F.2.2.2.2.2.2.2.2.2.2.2.2.2.2.1 = 3) (ok : OkF F prog_12_method_65_code "LastSeenModel" ({ frames := 5, cells := 0, slots := 0, locals := 118 } : Room)) {Q : Int → SS → Prop} (hQ : RetZ F Q) {x1 : Int} {s : SS} (h : B_Md_isHeld_e Q (fun x1 x2 s => AtS F 10 [(0, .ref (F.2.1.1 10)), (1, vI x1), (2, vI x2)] [] s) (fun x1 x2 s => AtS F 46 [(0, .ref (F.2.1.1 10)), (1, vI x1), (2, vI x2)] [] s) x1 s) : AtS F 0 [(0, .ref (F.2.1.1 10)), (1, vI x1)] [] s := by
  unfold B_Md_isHeld_e at h
  refine r_aload_n ok 0 d_Md_isHeld_0 rfl rfl ?_
  refine r_aload_n ok 0 d_Md_isHeld_1 rfl rfl ?_
  refine g_Md_entries ok d_Md_isHeld_2 ?_
  refine r_callVv (As := [vI (s.1 29)]) (rest := []) ok 10 rfl rfl rfl wl_Md_266 wi_y_Md_looks ws_y_Md_looks wn_Md wc_y_Md_looks (by decide) (by decide) hh_Md_looks (Nat.le_of_ble_eq_true rfl) rfl d_Md_isHeld_5 (L_Md_looks F.1 F.2.1 F.2.2.1 hD h) (fun s1 h => ?_)
  refine r_iconst ok 0 d_Md_isHeld_8 rfl ?_
  refine r_istore_n ok [(2, vI 0), (0, .ref (F.2.1.1 10)), (1, vI x1)] d_Md_isHeld_9 rfl hm (by decide) rfl ?_
  exact r_sub [1, 2, 0] rfl h
theorem L_Md_isHeld (l : Launch) (G : GE) (A : Nat → Prop) (hD : ∀ σ, va_D A (GW G σ)) {x1 : Int} {s : SS} {Q : Int → SS → Prop} (h : Sp_Md_isHeld x1 s Q) : Met l y_Md_isHeld (Cond.code y_Md_isHeld prog_12_method_65_code 3 (some .boolean) :: lw_ok) ({ frames := 5, cells := 0, slots := 0, locals := 118 } : Room) (va_Pc [.ref (G.1 10), vI x1] (gB G s)) (va_Qi (fun (r : Int32) (s2 : SS) => ∃ x : Int, r = iI x ∧ Q x s2) (fun s2 t => gB G s2 t) A) 0 0 A := by
  refine met_z hD (by decide) ⟨rfl, rfl⟩ (Nat.le_of_ble_eq_true rfl) (lv := [(0, .ref (G.1 10)), (1, vI x1)]) rfl (fun F h1 h2 h3 hm ok hQ => ?_)
  subst h1 h2 h3
  have hDF := hD
  exact K_Md_isHeld_e hDF hm ok hQ (h _ _ (fun _ _ _ hb => K_Md_isHeld_10 hDF hm ok hQ hb) (fun _ _ _ hb => K_Md_isHeld_46 hDF hm ok hQ hb))
theorem d_Md_leans_0 : decode prog_12_method_66_code 0 = .ok (.aload_n 0, 1) := by decide +kernel
theorem d_Md_leans_1 : decode prog_12_method_66_code 1 = .ok (.aload_n 0, 1) := by decide +kernel
theorem d_Md_leans_2 : decode prog_12_method_66_code 2 = .ok (.getfield 120, 3) := by decide +kernel
theorem d_Md_leans_5 : decode prog_12_method_66_code 5 = .ok (.iload_n 1, 1) := by decide +kernel
theorem d_Md_leans_6 : decode prog_12_method_66_code 6 = .ok (.iaload, 1) := by decide +kernel
theorem d_Md_leans_7 : decode prog_12_method_66_code 7 = .ok (.invokevirtual 266, 3) := by decide +kernel
theorem d_Md_leans_10 : decode prog_12_method_66_code 10 = .ok (.aload_n 0, 1) := by decide +kernel
theorem d_Md_leans_11 : decode prog_12_method_66_code 11 = .ok (.getfield 50, 3) := by decide +kernel
theorem d_Md_leans_14 : decode prog_12_method_66_code 14 = .ok (.aload_n 0, 1) := by decide +kernel
theorem d_Md_leans_15 : decode prog_12_method_66_code 15 = .ok (.getfield 117, 3) := by decide +kernel
theorem d_Md_leans_18 : decode prog_12_method_66_code 18 = .ok (.iload_n 1, 1) := by decide +kernel
theorem d_Md_leans_19 : decode prog_12_method_66_code 19 = .ok (.iaload, 1) := by decide +kernel
theorem d_Md_leans_20 : decode prog_12_method_66_code 20 = .ok (.iaload, 1) := by decide +kernel
theorem d_Md_leans_21 : decode prog_12_method_66_code 21 = .ok (.istore_n 3, 1) := by decide +kernel
theorem d_Md_leans_22 : decode prog_12_method_66_code 22 = .ok (.aload_n 0, 1) := by decide +kernel
theorem d_Md_leans_23 : decode prog_12_method_66_code 23 = .ok (.iload_n 3, 1) := by decide +kernel
theorem d_Md_leans_24 : decode prog_12_method_66_code 24 = .ok (.invokevirtual 290, 3) := by decide +kernel
theorem d_Md_leans_27 : decode prog_12_method_66_code 27 = .ok (.iconst 0, 1) := by decide +kernel
theorem d_Md_leans_28 : decode prog_12_method_66_code 28 = .ok (.istore 4, 2) := by decide +kernel
theorem d_Md_leans_30 : decode prog_12_method_66_code 30 = .ok (.iconst 0, 1) := by decide +kernel
theorem d_Md_leans_31 : decode prog_12_method_66_code 31 = .ok (.istore 5, 2) := by decide +kernel
theorem d_Md_leans_33 : decode prog_12_method_66_code 33 = .ok (.iload 5, 2) := by decide +kernel
theorem d_Md_leans_35 : decode prog_12_method_66_code 35 = .ok (.aload_n 0, 1) := by decide +kernel
theorem d_Md_leans_36 : decode prog_12_method_66_code 36 = .ok (.getfield 247, 3) := by decide +kernel
theorem d_Md_leans_39 : decode prog_12_method_66_code 39 = .ok (.if_icmp .ge 104, 3) := by decide +kernel
theorem d_Md_leans_42 : decode prog_12_method_66_code 42 = .ok (.aload_n 0, 1) := by decide +kernel
theorem d_Md_leans_43 : decode prog_12_method_66_code 43 = .ok (.getfield 44, 3) := by decide +kernel
theorem d_Md_leans_46 : decode prog_12_method_66_code 46 = .ok (.iload 5, 2) := by decide +kernel
theorem d_Md_leans_48 : decode prog_12_method_66_code 48 = .ok (.baload, 1) := by decide +kernel
theorem d_Md_leans_49 : decode prog_12_method_66_code 49 = .ok (.ifCond .eq 23, 3) := by decide +kernel
theorem d_Md_leans_52 : decode prog_12_method_66_code 52 = .ok (.aload_n 0, 1) := by decide +kernel
theorem d_Md_leans_53 : decode prog_12_method_66_code 53 = .ok (.getfield 50, 3) := by decide +kernel
theorem d_Md_leans_56 : decode prog_12_method_66_code 56 = .ok (.aload_n 0, 1) := by decide +kernel
theorem d_Md_leans_57 : decode prog_12_method_66_code 57 = .ok (.getfield 62, 3) := by decide +kernel
theorem d_Md_leans_60 : decode prog_12_method_66_code 60 = .ok (.iload 5, 2) := by decide +kernel
theorem d_Md_leans_62 : decode prog_12_method_66_code 62 = .ok (.iaload, 1) := by decide +kernel
theorem d_Md_leans_63 : decode prog_12_method_66_code 63 = .ok (.iaload, 1) := by decide +kernel
theorem d_Md_leans_64 : decode prog_12_method_66_code 64 = .ok (.iload_n 3, 1) := by decide +kernel
theorem d_Md_leans_65 : decode prog_12_method_66_code 65 = .ok (.if_icmp .ne 7, 3) := by decide +kernel
theorem d_Md_leans_68 : decode prog_12_method_66_code 68 = .ok (.iconst 1, 1) := by decide +kernel
theorem d_Md_leans_69 : decode prog_12_method_66_code 69 = .ok (.goto 4, 3) := by decide +kernel
theorem d_Md_leans_72 : decode prog_12_method_66_code 72 = .ok (.iconst 0, 1) := by decide +kernel
theorem d_Md_leans_73 : decode prog_12_method_66_code 73 = .ok (.istore 6, 2) := by decide +kernel
theorem d_Md_leans_75 : decode prog_12_method_66_code 75 = .ok (.iconst 0, 1) := by decide +kernel
theorem d_Md_leans_76 : decode prog_12_method_66_code 76 = .ok (.istore 7, 2) := by decide +kernel
theorem d_Md_leans_78 : decode prog_12_method_66_code 78 = .ok (.iload 7, 2) := by decide +kernel
theorem d_Md_leans_80 : decode prog_12_method_66_code 80 = .ok (.aload_n 0, 1) := by decide +kernel
theorem d_Md_leans_81 : decode prog_12_method_66_code 81 = .ok (.getfield 287, 3) := by decide +kernel
theorem d_Md_leans_84 : decode prog_12_method_66_code 84 = .ok (.if_icmp .ge 33, 3) := by decide +kernel
theorem d_Md_leans_87 : decode prog_12_method_66_code 87 = .ok (.iload 6, 2) := by decide +kernel
theorem d_Md_leans_89 : decode prog_12_method_66_code 89 = .ok (.ifCond .ne 15, 3) := by decide +kernel
theorem d_Md_leans_92 : decode prog_12_method_66_code 92 = .ok (.aload_n 0, 1) := by decide +kernel
theorem d_Md_leans_93 : decode prog_12_method_66_code 93 = .ok (.getfield 80, 3) := by decide +kernel
theorem d_Md_leans_96 : decode prog_12_method_66_code 96 = .ok (.iload 7, 2) := by decide +kernel
theorem d_Md_leans_98 : decode prog_12_method_66_code 98 = .ok (.iaload, 1) := by decide +kernel
theorem d_Md_leans_99 : decode prog_12_method_66_code 99 = .ok (.iload 5, 2) := by decide +kernel
theorem d_Md_leans_101 : decode prog_12_method_66_code 101 = .ok (.if_icmp .ne 7, 3) := by decide +kernel
theorem d_Md_leans_104 : decode prog_12_method_66_code 104 = .ok (.iconst 1, 1) := by decide +kernel
theorem d_Md_leans_105 : decode prog_12_method_66_code 105 = .ok (.goto 4, 3) := by decide +kernel
theorem d_Md_leans_108 : decode prog_12_method_66_code 108 = .ok (.iconst 0, 1) := by decide +kernel
theorem d_Md_leans_109 : decode prog_12_method_66_code 109 = .ok (.istore 6, 2) := by decide +kernel
theorem d_Md_leans_111 : decode prog_12_method_66_code 111 = .ok (.iinc 7 1, 3) := by decide +kernel
theorem d_Md_leans_114 : decode prog_12_method_66_code 114 = .ok (.goto (-36), 3) := by decide +kernel
theorem d_Md_leans_117 : decode prog_12_method_66_code 117 = .ok (.iload 6, 2) := by decide +kernel
theorem d_Md_leans_119 : decode prog_12_method_66_code 119 = .ok (.ifCond .ne 6, 3) := by decide +kernel
theorem d_Md_leans_122 : decode prog_12_method_66_code 122 = .ok (.goto 15, 3) := by decide +kernel
theorem d_Md_leans_125 : decode prog_12_method_66_code 125 = .ok (.iload 4, 2) := by decide +kernel
theorem d_Md_leans_127 : decode prog_12_method_66_code 127 = .ok (.iload_n 2, 1) := by decide +kernel
theorem d_Md_leans_128 : decode prog_12_method_66_code 128 = .ok (.if_icmp .ne 6, 3) := by decide +kernel
theorem d_Md_leans_131 : decode prog_12_method_66_code 131 = .ok (.iload 5, 2) := by decide +kernel
theorem d_Md_leans_133 : decode prog_12_method_66_code 133 = .ok (.ireturn, 1) := by decide +kernel
theorem d_Md_leans_134 : decode prog_12_method_66_code 134 = .ok (.iinc 4 1, 3) := by decide +kernel
theorem d_Md_leans_137 : decode prog_12_method_66_code 137 = .ok (.iinc 5 1, 3) := by decide +kernel
theorem d_Md_leans_140 : decode prog_12_method_66_code 140 = .ok (.goto (-107), 3) := by decide +kernel
theorem d_Md_leans_143 : decode prog_12_method_66_code 143 = .ok (.iload_n 2, 1) := by decide +kernel
theorem d_Md_leans_144 : decode prog_12_method_66_code 144 = .ok (.ifCond .ge 8, 3) := by decide +kernel
theorem d_Md_leans_147 : decode prog_12_method_66_code 147 = .ok (.iload 4, 2) := by decide +kernel
theorem d_Md_leans_149 : decode prog_12_method_66_code 149 = .ok (.goto 4, 3) := by decide +kernel
theorem d_Md_leans_152 : decode prog_12_method_66_code 152 = .ok (.iconst (-1), 1) := by decide +kernel
theorem d_Md_leans_153 : decode prog_12_method_66_code 153 = .ok (.ireturn, 1) := by decide +kernel
set_option maxHeartbeats 4000000 in
set_option maxRecDepth 100000 in
theorem K_Md_leans_33 {F : FT} (hD : ∀ σ, va_D F.2.2.1 (GW F.2.1 σ)) (hm : F.2.2.2.2.2.2.2.2.2.2.2.2.2.2.1 = 8) (ok : OkF F prog_12_method_66_code "LastSeenModel" ({ frames := 2, cells := 0, slots := 0, locals := 49 } : Room)) {Q : Int → SS → Prop} (hQ : RetI F Q) {x2 x3 x4 x5 : Int} {s : SS} (h : B_Md_leans_33 Q (fun x2 x3 x4 x5 s => AtS F 33 [(0, .ref (F.2.1.1 10)), (2, vI x2), (3, vI x3), (4, vI x4), (5, vI x5)] [] s) (fun x2 x3 x4 x5 x6 x7 s => AtS F 78 [(0, .ref (F.2.1.1 10)), (2, vI x2), (3, vI x3), (4, vI x4), (5, vI x5), (6, vI x6), (7, vI x7)] [] s) x2 x3 x4 x5 s) : AtS F 33 [(0, .ref (F.2.1.1 10)), (2, vI x2), (3, vI x3), (4, vI x4), (5, vI x5)] [] s := by
  unfold B_Md_leans_33 at h
  refine r_iload ok 4 d_Md_leans_33 rfl ?_
  refine r_aload_n ok 0 d_Md_leans_35 rfl rfl ?_
  refine g_Md_seenWords ok d_Md_leans_36 ?_
  refine r_icmp_ge ok 143 d_Md_leans_39 (by decide) h.1 h.2.1 (fun c => ?_) (fun c => ?_)
  · replace h := h.2.2.1 c
    refine r_iload_n ok 1 d_Md_leans_143 rfl rfl ?_
    refine r_if_ge ok 152 d_Md_leans_144 (by decide) h.1 (fun c => ?_) (fun c => ?_)
    · replace h := h.2.1 c
      refine r_iconst ok (-1) d_Md_leans_152 rfl ?_
      exact hQ _ _ _ _ _ (ok_code ok) d_Md_leans_153 h
    · replace h := h.2.2 c
      refine r_iload ok 3 d_Md_leans_147 rfl ?_
      refine r_goto ok 153 d_Md_leans_149 (by decide) ?_
      exact hQ _ _ _ _ _ (ok_code ok) d_Md_leans_153 h
  · replace h := h.2.2.2 c
    refine r_aload_n ok 0 d_Md_leans_42 rfl rfl ?_
    refine g_Md_stands ok d_Md_leans_43 ?_
    refine r_iload ok 4 d_Md_leans_46 rfl ?_
    refine r_zald ok 70 d_Md_leans_48 (by decide) rfl h.1 ?_
    replace h := h.2
    refine r_if_eq ok 72 d_Md_leans_49 (by decide) h.1 (fun c => ?_) (fun c => ?_)
    · replace h := h.2.1 c
      refine r_iconst ok 0 d_Md_leans_72 rfl ?_
      refine r_istore ok [(6, vI 0), (0, .ref (F.2.1.1 10)), (2, vI x2), (3, vI x3), (4, vI x4), (5, vI x5)] d_Md_leans_73 hm (by decide) rfl ?_
      refine r_iconst ok 0 d_Md_leans_75 rfl ?_
      refine r_istore ok [(7, vI 0), (6, vI 0), (0, .ref (F.2.1.1 10)), (2, vI x2), (3, vI x3), (4, vI x4), (5, vI x5)] d_Md_leans_76 hm (by decide) rfl ?_
      exact r_sub [2, 3, 4, 5, 6, 1, 0] rfl h
    · replace h := h.2.2 c
      refine r_aload_n ok 0 d_Md_leans_52 rfl rfl ?_
      refine g_Md_person ok d_Md_leans_53 ?_
      refine r_aload_n ok 0 d_Md_leans_56 rfl rfl ?_
      refine g_Md_ofName ok d_Md_leans_57 ?_
      refine r_iload ok 4 d_Md_leans_60 rfl ?_
      refine r_iald ok 76 d_Md_leans_62 (by decide) rfl h.1 ?_
      replace h := h.2
      refine r_iald ok 72 d_Md_leans_63 (by decide) rfl h.1 ?_
      replace h := h.2
      refine r_iload_n ok 2 d_Md_leans_64 rfl rfl ?_
      refine r_icmp_ne ok 72 d_Md_leans_65 (by decide) h.1 h.2.1 (fun c => ?_) (fun c => ?_)
      · replace h := h.2.2.1 c
        refine r_iconst ok 0 d_Md_leans_72 rfl ?_
        refine r_istore ok [(6, vI 0), (0, .ref (F.2.1.1 10)), (2, vI x2), (3, vI x3), (4, vI x4), (5, vI x5)] d_Md_leans_73 hm (by decide) rfl ?_
        refine r_iconst ok 0 d_Md_leans_75 rfl ?_
        refine r_istore ok [(7, vI 0), (6, vI 0), (0, .ref (F.2.1.1 10)), (2, vI x2), (3, vI x3), (4, vI x4), (5, vI x5)] d_Md_leans_76 hm (by decide) rfl ?_
        exact r_sub [2, 3, 4, 5, 6, 1, 0] rfl h
      · replace h := h.2.2.2 c
        refine r_iconst ok 1 d_Md_leans_68 rfl ?_
        refine r_goto ok 73 d_Md_leans_69 (by decide) ?_
        refine r_istore ok [(6, vI 1), (0, .ref (F.2.1.1 10)), (2, vI x2), (3, vI x3), (4, vI x4), (5, vI x5)] d_Md_leans_73 hm (by decide) rfl ?_
        refine r_iconst ok 0 d_Md_leans_75 rfl ?_
        refine r_istore ok [(7, vI 0), (6, vI 1), (0, .ref (F.2.1.1 10)), (2, vI x2), (3, vI x3), (4, vI x4), (5, vI x5)] d_Md_leans_76 hm (by decide) rfl ?_
        exact r_sub [2, 3, 4, 5, 6, 1, 0] rfl h
set_option maxHeartbeats 4000000 in
set_option maxRecDepth 100000 in
theorem K_Md_leans_78 {F : FT} (hD : ∀ σ, va_D F.2.2.1 (GW F.2.1 σ)) (hm : F.2.2.2.2.2.2.2.2.2.2.2.2.2.2.1 = 8) (ok : OkF F prog_12_method_66_code "LastSeenModel" ({ frames := 2, cells := 0, slots := 0, locals := 49 } : Room)) {Q : Int → SS → Prop} (hQ : RetI F Q) {x2 x3 x4 x5 x6 x7 : Int} {s : SS} (h : B_Md_leans_78 Q (fun x2 x3 x4 x5 s => AtS F 33 [(0, .ref (F.2.1.1 10)), (2, vI x2), (3, vI x3), (4, vI x4), (5, vI x5)] [] s) (fun x2 x3 x4 x5 x6 x7 s => AtS F 78 [(0, .ref (F.2.1.1 10)), (2, vI x2), (3, vI x3), (4, vI x4), (5, vI x5), (6, vI x6), (7, vI x7)] [] s) x2 x3 x4 x5 x6 x7 s) : AtS F 78 [(0, .ref (F.2.1.1 10)), (2, vI x2), (3, vI x3), (4, vI x4), (5, vI x5), (6, vI x6), (7, vI x7)] [] s := by
  unfold B_Md_leans_78 at h
  refine r_iload ok 6 d_Md_leans_78 rfl ?_
  refine r_aload_n ok 0 d_Md_leans_80 rfl rfl ?_
  refine g_Md_roots ok d_Md_leans_81 ?_
  refine r_icmp_ge ok 117 d_Md_leans_84 (by decide) h.1 h.2.1 (fun c => ?_) (fun c => ?_)
  · replace h := h.2.2.1 c
    refine r_iload ok 5 d_Md_leans_117 rfl ?_
    refine r_if_ne ok 125 d_Md_leans_119 (by decide) h.1 (fun c => ?_) (fun c => ?_)
    · replace h := h.2.1 c
      refine r_iload ok 3 d_Md_leans_125 rfl ?_
      refine r_iload_n ok 1 d_Md_leans_127 rfl rfl ?_
      refine r_icmp_ne ok 134 d_Md_leans_128 (by decide) h.1 h.2.1 (fun c => ?_) (fun c => ?_)
      · replace h := h.2.2.1 c
        refine r_iinc ok 3 (x4 + 1) [(4, vI (x4 + 1)), (0, .ref (F.2.1.1 10)), (2, vI x2), (3, vI x3), (5, vI x5), (6, vI x6), (7, vI x7)] d_Md_leans_134 rfl rfl hm (by decide) rfl ?_
        refine r_iinc ok 4 (x5 + 1) [(5, vI (x5 + 1)), (4, vI (x4 + 1)), (0, .ref (F.2.1.1 10)), (2, vI x2), (3, vI x3), (6, vI x6), (7, vI x7)] d_Md_leans_137 rfl rfl hm (by decide) rfl ?_
        refine r_goto ok 33 d_Md_leans_140 (by decide) ?_
        exact r_sub [2, 3, 4, 1, 0] rfl h
      · replace h := h.2.2.2 c
        refine r_iload ok 4 d_Md_leans_131 rfl ?_
        exact hQ _ _ _ _ _ (ok_code ok) d_Md_leans_133 h
    · replace h := h.2.2 c
      refine r_goto ok 137 d_Md_leans_122 (by decide) ?_
      refine r_iinc ok 4 (x5 + 1) [(5, vI (x5 + 1)), (0, .ref (F.2.1.1 10)), (2, vI x2), (3, vI x3), (4, vI x4), (6, vI x6), (7, vI x7)] d_Md_leans_137 rfl rfl hm (by decide) rfl ?_
      refine r_goto ok 33 d_Md_leans_140 (by decide) ?_
      exact r_sub [1, 2, 3, 4, 0] rfl h
  · replace h := h.2.2.2 c
    refine r_iload ok 5 d_Md_leans_87 rfl ?_
    refine r_if_ne ok 104 d_Md_leans_89 (by decide) h.1 (fun c => ?_) (fun c => ?_)
    · replace h := h.2.1 c
      refine r_iconst ok 1 d_Md_leans_104 rfl ?_
      refine r_goto ok 109 d_Md_leans_105 (by decide) ?_
      refine r_istore ok [(6, vI 1), (0, .ref (F.2.1.1 10)), (2, vI x2), (3, vI x3), (4, vI x4), (5, vI x5), (7, vI x7)] d_Md_leans_109 hm (by decide) rfl ?_
      refine r_iinc ok 6 (x7 + 1) [(7, vI (x7 + 1)), (6, vI 1), (0, .ref (F.2.1.1 10)), (2, vI x2), (3, vI x3), (4, vI x4), (5, vI x5)] d_Md_leans_111 rfl rfl hm (by decide) rfl ?_
      refine r_goto ok 78 d_Md_leans_114 (by decide) ?_
      exact r_sub [2, 3, 4, 5, 6, 1, 0] rfl h
    · replace h := h.2.2 c
      refine r_aload_n ok 0 d_Md_leans_92 rfl rfl ?_
      refine g_Md_root ok d_Md_leans_93 ?_
      refine r_iload ok 6 d_Md_leans_96 rfl ?_
      refine r_iald ok 82 d_Md_leans_98 (by decide) rfl h.1 ?_
      replace h := h.2
      refine r_iload ok 4 d_Md_leans_99 rfl ?_
      refine r_icmp_ne ok 108 d_Md_leans_101 (by decide) h.1 h.2.1 (fun c => ?_) (fun c => ?_)
      · replace h := h.2.2.1 c
        refine r_iconst ok 0 d_Md_leans_108 rfl ?_
        refine r_istore ok [(6, vI 0), (0, .ref (F.2.1.1 10)), (2, vI x2), (3, vI x3), (4, vI x4), (5, vI x5), (7, vI x7)] d_Md_leans_109 hm (by decide) rfl ?_
        refine r_iinc ok 6 (x7 + 1) [(7, vI (x7 + 1)), (6, vI 0), (0, .ref (F.2.1.1 10)), (2, vI x2), (3, vI x3), (4, vI x4), (5, vI x5)] d_Md_leans_111 rfl rfl hm (by decide) rfl ?_
        refine r_goto ok 78 d_Md_leans_114 (by decide) ?_
        exact r_sub [2, 3, 4, 5, 6, 1, 0] rfl h
      · replace h := h.2.2.2 c
        refine r_iconst ok 1 d_Md_leans_104 rfl ?_
        refine r_goto ok 109 d_Md_leans_105 (by decide) ?_
        refine r_istore ok [(6, vI 1), (0, .ref (F.2.1.1 10)), (2, vI x2), (3, vI x3), (4, vI x4), (5, vI x5), (7, vI x7)] d_Md_leans_109 hm (by decide) rfl ?_
        refine r_iinc ok 6 (x7 + 1) [(7, vI (x7 + 1)), (6, vI 1), (0, .ref (F.2.1.1 10)), (2, vI x2), (3, vI x3), (4, vI x4), (5, vI x5)] d_Md_leans_111 rfl rfl hm (by decide) rfl ?_
        refine r_goto ok 78 d_Md_leans_114 (by decide) ?_
        exact r_sub [2, 3, 4, 5, 6, 1, 0] rfl h
set_option maxHeartbeats 4000000 in
set_option maxRecDepth 100000 in
theorem K_Md_leans_e {F : FT} (hD : ∀ σ, va_D F.2.2.1 (GW F.2.1 σ)) (hm : F.2.2.2.2.2.2.2.2.2.2.2.2.2.2.1 = 8) (ok : OkF F prog_12_method_66_code "LastSeenModel" ({ frames := 2, cells := 0, slots := 0, locals := 49 } : Room)) {Q : Int → SS → Prop} (hQ : RetI F Q) {x1 x2 : Int} {s : SS} (h : B_Md_leans_e Q (fun x2 x3 x4 x5 s => AtS F 33 [(0, .ref (F.2.1.1 10)), (2, vI x2), (3, vI x3), (4, vI x4), (5, vI x5)] [] s) (fun x2 x3 x4 x5 x6 x7 s => AtS F 78 [(0, .ref (F.2.1.1 10)), (2, vI x2), (3, vI x3), (4, vI x4), (5, vI x5), (6, vI x6), (7, vI x7)] [] s) x1 x2 s) : AtS F 0 [(0, .ref (F.2.1.1 10)), (1, vI x1), (2, vI x2)] [] s := by
  unfold B_Md_leans_e at h
  refine r_aload_n ok 0 d_Md_leans_0 rfl rfl ?_
  refine r_aload_n ok 0 d_Md_leans_1 rfl rfl ?_
  refine g_Md_foundBy ok d_Md_leans_2 ?_
  refine r_iload_n ok 1 d_Md_leans_5 rfl rfl ?_
  refine r_iald ok 95 d_Md_leans_6 (by decide) rfl h.1 ?_
  replace h := h.2
  refine r_callVv (As := [vI (s.2 95 x1)]) (rest := []) ok 10 rfl rfl rfl wl_Md_266 wi_y_Md_looks ws_y_Md_looks wn_Md wc_y_Md_looks (by decide) (by decide) hh_Md_looks (Nat.le_of_ble_eq_true rfl) rfl d_Md_leans_7 (L_Md_looks F.1 F.2.1 F.2.2.1 hD h) (fun s1 h => ?_)
  refine r_aload_n ok 0 d_Md_leans_10 rfl rfl ?_
  refine g_Md_person ok d_Md_leans_11 ?_
  refine r_aload_n ok 0 d_Md_leans_14 rfl rfl ?_
  refine g_Md_foundName ok d_Md_leans_15 ?_
  refine r_iload_n ok 1 d_Md_leans_18 rfl rfl ?_
  refine r_iald ok 94 d_Md_leans_19 (by decide) rfl h.1 ?_
  replace h := h.2
  refine r_iald ok 72 d_Md_leans_20 (by decide) rfl h.1 ?_
  replace h := h.2
  refine r_istore_n ok [(3, vI (s1.2 72 (s1.2 94 x1))), (0, .ref (F.2.1.1 10)), (1, vI x1), (2, vI x2)] d_Md_leans_21 rfl hm (by decide) rfl ?_
  refine r_aload_n ok 1 d_Md_leans_22 rfl rfl ?_
  refine r_iload_n ok 0 d_Md_leans_23 rfl rfl ?_
  refine r_callVv (As := [vI (s1.2 72 (s1.2 94 x1))]) (rest := []) ok 10 rfl rfl rfl wl_Md_290 wi_y_Md_findRoots ws_y_Md_findRoots wn_Md wc_y_Md_findRoots (by decide) (by decide) hh_Md_findRoots (Nat.le_of_ble_eq_true rfl) rfl d_Md_leans_24 (L_Md_findRoots F.1 F.2.1 F.2.2.1 hD h) (fun s2 h => ?_)
  refine r_iconst ok 0 d_Md_leans_27 rfl ?_
  refine r_istore ok [(4, vI 0), (3, vI (s1.2 72 (s1.2 94 x1))), (0, .ref (F.2.1.1 10)), (1, vI x1), (2, vI x2)] d_Md_leans_28 hm (by decide) rfl ?_
  refine r_iconst ok 0 d_Md_leans_30 rfl ?_
  refine r_istore ok [(5, vI 0), (4, vI 0), (3, vI (s1.2 72 (s1.2 94 x1))), (0, .ref (F.2.1.1 10)), (1, vI x1), (2, vI x2)] d_Md_leans_31 hm (by decide) rfl ?_
  exact r_sub [3, 5, 2, 1, 0] rfl h
theorem L_Md_leans (l : Launch) (G : GE) (A : Nat → Prop) (hD : ∀ σ, va_D A (GW G σ)) {x1 x2 : Int} {s : SS} {Q : Int → SS → Prop} (h : Sp_Md_leans x1 x2 s Q) : Met l y_Md_leans (Cond.code y_Md_leans prog_12_method_66_code 8 (some .int) :: lw_ok) ({ frames := 2, cells := 0, slots := 0, locals := 49 } : Room) (va_Pc [.ref (G.1 10), vI x1, vI x2] (gB G s)) (va_Qi (fun (r : Int32) (s2 : SS) => ∃ x : Int, r = iI x ∧ Q x s2) (fun s2 t => gB G s2 t) A) 0 0 A := by
  refine met_i hD (by decide) ⟨rfl, rfl⟩ (Nat.le_of_ble_eq_true rfl) (lv := [(0, .ref (G.1 10)), (1, vI x1), (2, vI x2)]) rfl (fun F h1 h2 h3 hm ok hQ => ?_)
  subst h1 h2 h3
  have hDF := hD
  exact K_Md_leans_e hDF hm ok hQ (h _ _ (fun _ _ _ _ _ hb => K_Md_leans_33 hDF hm ok hQ hb) (fun _ _ _ _ _ _ _ hb => K_Md_leans_78 hDF hm ok hQ hb))
theorem d_Md_found_0 : decode prog_12_method_67_code 0 = .ok (.iload_n 1, 1) := by decide +kernel
theorem d_Md_found_1 : decode prog_12_method_67_code 1 = .ok (.i2l, 1) := by decide +kernel
theorem d_Md_found_2 : decode prog_12_method_67_code 2 = .ok (.lconst 0, 1) := by decide +kernel
theorem d_Md_found_3 : decode prog_12_method_67_code 3 = .ok (.aload_n 0, 1) := by decide +kernel
theorem d_Md_found_4 : decode prog_12_method_67_code 4 = .ok (.getfield 383, 3) := by decide +kernel
theorem d_Md_found_7 : decode prog_12_method_67_code 7 = .ok (.iconst 1, 1) := by decide +kernel
theorem d_Md_found_8 : decode prog_12_method_67_code 8 = .ok (.isub, 1) := by decide +kernel
theorem d_Md_found_9 : decode prog_12_method_67_code 9 = .ok (.i2l, 1) := by decide +kernel
theorem d_Md_found_10 : decode prog_12_method_67_code 10 = .ok (.invokestatic 191, 3) := by decide +kernel
theorem d_Md_found_13 : decode prog_12_method_67_code 13 = .ok (.ifCond .ne 5, 3) := by decide +kernel
theorem d_Md_found_16 : decode prog_12_method_67_code 16 = .ok (.iconst (-1), 1) := by decide +kernel
theorem d_Md_found_17 : decode prog_12_method_67_code 17 = .ok (.ireturn, 1) := by decide +kernel
theorem d_Md_found_18 : decode prog_12_method_67_code 18 = .ok (.iload_n 2, 1) := by decide +kernel
theorem d_Md_found_19 : decode prog_12_method_67_code 19 = .ok (.tableswitch 75 0 4 #[33, 40, 47, 54, 68], 33) := by decide +kernel
theorem d_Md_found_52 : decode prog_12_method_67_code 52 = .ok (.aload_n 0, 1) := by decide +kernel
theorem d_Md_found_53 : decode prog_12_method_67_code 53 = .ok (.getfield 117, 3) := by decide +kernel
theorem d_Md_found_56 : decode prog_12_method_67_code 56 = .ok (.iload_n 1, 1) := by decide +kernel
theorem d_Md_found_57 : decode prog_12_method_67_code 57 = .ok (.iaload, 1) := by decide +kernel
theorem d_Md_found_58 : decode prog_12_method_67_code 58 = .ok (.ireturn, 1) := by decide +kernel
theorem d_Md_found_59 : decode prog_12_method_67_code 59 = .ok (.aload_n 0, 1) := by decide +kernel
theorem d_Md_found_60 : decode prog_12_method_67_code 60 = .ok (.getfield 120, 3) := by decide +kernel
theorem d_Md_found_63 : decode prog_12_method_67_code 63 = .ok (.iload_n 1, 1) := by decide +kernel
theorem d_Md_found_64 : decode prog_12_method_67_code 64 = .ok (.iaload, 1) := by decide +kernel
theorem d_Md_found_65 : decode prog_12_method_67_code 65 = .ok (.ireturn, 1) := by decide +kernel
theorem d_Md_found_66 : decode prog_12_method_67_code 66 = .ok (.aload_n 0, 1) := by decide +kernel
theorem d_Md_found_67 : decode prog_12_method_67_code 67 = .ok (.getfield 123, 3) := by decide +kernel
theorem d_Md_found_70 : decode prog_12_method_67_code 70 = .ok (.iload_n 1, 1) := by decide +kernel
theorem d_Md_found_71 : decode prog_12_method_67_code 71 = .ok (.iaload, 1) := by decide +kernel
theorem d_Md_found_72 : decode prog_12_method_67_code 72 = .ok (.ireturn, 1) := by decide +kernel
theorem d_Md_found_73 : decode prog_12_method_67_code 73 = .ok (.aload_n 0, 1) := by decide +kernel
theorem d_Md_found_74 : decode prog_12_method_67_code 74 = .ok (.iload_n 1, 1) := by decide +kernel
theorem d_Md_found_75 : decode prog_12_method_67_code 75 = .ok (.invokevirtual 386, 3) := by decide +kernel
theorem d_Md_found_78 : decode prog_12_method_67_code 78 = .ok (.ifCond .eq 7, 3) := by decide +kernel
theorem d_Md_found_81 : decode prog_12_method_67_code 81 = .ok (.iconst 1, 1) := by decide +kernel
theorem d_Md_found_82 : decode prog_12_method_67_code 82 = .ok (.goto 4, 3) := by decide +kernel
theorem d_Md_found_85 : decode prog_12_method_67_code 85 = .ok (.iconst 0, 1) := by decide +kernel
theorem d_Md_found_86 : decode prog_12_method_67_code 86 = .ok (.ireturn, 1) := by decide +kernel
theorem d_Md_found_87 : decode prog_12_method_67_code 87 = .ok (.aload_n 0, 1) := by decide +kernel
theorem d_Md_found_88 : decode prog_12_method_67_code 88 = .ok (.iload_n 1, 1) := by decide +kernel
theorem d_Md_found_89 : decode prog_12_method_67_code 89 = .ok (.iconst (-1), 1) := by decide +kernel
theorem d_Md_found_90 : decode prog_12_method_67_code 90 = .ok (.invokevirtual 389, 3) := by decide +kernel
theorem d_Md_found_93 : decode prog_12_method_67_code 93 = .ok (.ireturn, 1) := by decide +kernel
theorem d_Md_found_94 : decode prog_12_method_67_code 94 = .ok (.iload_n 2, 1) := by decide +kernel
theorem d_Md_found_95 : decode prog_12_method_67_code 95 = .ok (.bipush 10, 2) := by decide +kernel
theorem d_Md_found_97 : decode prog_12_method_67_code 97 = .ok (.if_icmp .ge 7, 3) := by decide +kernel
theorem d_Md_found_100 : decode prog_12_method_67_code 100 = .ok (.iconst (-1), 1) := by decide +kernel
theorem d_Md_found_101 : decode prog_12_method_67_code 101 = .ok (.goto 12, 3) := by decide +kernel
theorem d_Md_found_104 : decode prog_12_method_67_code 104 = .ok (.aload_n 0, 1) := by decide +kernel
theorem d_Md_found_105 : decode prog_12_method_67_code 105 = .ok (.iload_n 1, 1) := by decide +kernel
theorem d_Md_found_106 : decode prog_12_method_67_code 106 = .ok (.iload_n 2, 1) := by decide +kernel
theorem d_Md_found_107 : decode prog_12_method_67_code 107 = .ok (.bipush 10, 2) := by decide +kernel
theorem d_Md_found_109 : decode prog_12_method_67_code 109 = .ok (.isub, 1) := by decide +kernel
theorem d_Md_found_110 : decode prog_12_method_67_code 110 = .ok (.invokevirtual 389, 3) := by decide +kernel
theorem d_Md_found_113 : decode prog_12_method_67_code 113 = .ok (.ireturn, 1) := by decide +kernel
set_option maxHeartbeats 4000000 in
set_option maxRecDepth 100000 in
theorem K_Md_found_e {F : FT} (hD : ∀ σ, va_D F.2.2.1 (GW F.2.1 σ)) (hm : F.2.2.2.2.2.2.2.2.2.2.2.2.2.2.1 = 3) (ok : OkF F prog_12_method_67_code "LastSeenModel" ({ frames := 6, cells := 0, slots := 0, locals := 140 } : Room)) {Q : Int → SS → Prop} (hQ : RetI F Q) {x1 x2 : Int} {s : SS} (h : Sp_Md_found x1 x2 s Q) : AtS F 0 [(0, .ref (F.2.1.1 10)), (1, vI x1), (2, vI x2)] [] s := by
  unfold Sp_Md_found at h
  refine r_iload_n ok 1 d_Md_found_0 rfl rfl ?_
  refine r_i2l ok d_Md_found_1 h.1 ?_
  replace h := h.2
  refine r_lconst ok 0 d_Md_found_2 (by decide) ?_
  refine r_aload_n ok 0 d_Md_found_3 rfl rfl ?_
  refine g_Md_findings ok d_Md_found_4 ?_
  refine r_iconst ok 1 d_Md_found_7 rfl ?_
  refine r_isub ok d_Md_found_8 ?_
  refine r_i2l ok d_Md_found_9 h.1 ?_
  replace h := h.2
  refine r_callSi (As := [vJ x1, vJ 0, vJ ((s.1 44) - 1)]) (rest := []) ok wl_Md_191 wt_y_Md_isIn wn_Md wc_y_Md_isIn (by decide) (by decide) hh_Md_isIn (Nat.le_of_ble_eq_true rfl) rfl d_Md_found_10 (L_Md_isIn F.1 F.2.1 F.2.2.1 hD h) (fun r2 s1 h => ?_)
  refine r_if_ne ok 18 d_Md_found_13 (by decide) h.1 (fun c => ?_) (fun c => ?_)
  · replace h := h.2.1 c
    refine r_iload_n ok 2 d_Md_found_18 rfl rfl ?_
    have hx := h.1
    replace h := h.2
    rcases Decidable.em (x2 = 0) with c0 | c0
    · replace h := h.1 c0
      refine r_tblIn ok 0 52 d_Md_found_19 hx c0 (by decide) rfl (by decide) ?_
      refine r_aload_n ok 0 d_Md_found_52 rfl rfl ?_
      refine g_Md_foundName ok d_Md_found_53 ?_
      refine r_iload_n ok 1 d_Md_found_56 rfl rfl ?_
      refine r_iald ok 94 d_Md_found_57 (by decide) rfl h.1 ?_
      replace h := h.2
      exact hQ _ _ _ _ _ (ok_code ok) d_Md_found_58 h
    replace h := h.2
    rcases Decidable.em (x2 = 1) with c1 | c1
    · replace h := h.1 c1
      refine r_tblIn ok 1 59 d_Md_found_19 hx c1 (by decide) rfl (by decide) ?_
      refine r_aload_n ok 0 d_Md_found_59 rfl rfl ?_
      refine g_Md_foundBy ok d_Md_found_60 ?_
      refine r_iload_n ok 1 d_Md_found_63 rfl rfl ?_
      refine r_iald ok 95 d_Md_found_64 (by decide) rfl h.1 ?_
      replace h := h.2
      exact hQ _ _ _ _ _ (ok_code ok) d_Md_found_65 h
    replace h := h.2
    rcases Decidable.em (x2 = 2) with c2 | c2
    · replace h := h.1 c2
      refine r_tblIn ok 2 66 d_Md_found_19 hx c2 (by decide) rfl (by decide) ?_
      refine r_aload_n ok 0 d_Md_found_66 rfl rfl ?_
      refine g_Md_foundDigit ok d_Md_found_67 ?_
      refine r_iload_n ok 1 d_Md_found_70 rfl rfl ?_
      refine r_iald ok 96 d_Md_found_71 (by decide) rfl h.1 ?_
      replace h := h.2
      exact hQ _ _ _ _ _ (ok_code ok) d_Md_found_72 h
    replace h := h.2
    rcases Decidable.em (x2 = 3) with c3 | c3
    · replace h := h.1 c3
      refine r_tblIn ok 3 73 d_Md_found_19 hx c3 (by decide) rfl (by decide) ?_
      refine r_aload_n ok 0 d_Md_found_73 rfl rfl ?_
      refine r_iload_n ok 1 d_Md_found_74 rfl rfl ?_
      refine r_callVi (As := [vI x1]) (rest := []) ok 10 rfl rfl rfl wl_Md_386 wi_y_Md_isHeld ws_y_Md_isHeld wn_Md wc_y_Md_isHeld (by decide) (by decide) hh_Md_isHeld (Nat.le_of_ble_eq_true rfl) rfl d_Md_found_75 (L_Md_isHeld F.1 F.2.1 F.2.2.1 hD h) (fun r4 s3 h => ?_)
      refine r_if_eq ok 85 d_Md_found_78 (by decide) h.1 (fun c => ?_) (fun c => ?_)
      · replace h := h.2.1 c
        refine r_iconst ok 0 d_Md_found_85 rfl ?_
        exact hQ _ _ _ _ _ (ok_code ok) d_Md_found_86 h
      · replace h := h.2.2 c
        refine r_iconst ok 1 d_Md_found_81 rfl ?_
        refine r_goto ok 86 d_Md_found_82 (by decide) ?_
        exact hQ _ _ _ _ _ (ok_code ok) d_Md_found_86 h
    replace h := h.2
    rcases Decidable.em (x2 = 4) with c4 | c4
    · replace h := h.1 c4
      refine r_tblIn ok 4 87 d_Md_found_19 hx c4 (by decide) rfl (by decide) ?_
      refine r_aload_n ok 0 d_Md_found_87 rfl rfl ?_
      refine r_iload_n ok 1 d_Md_found_88 rfl rfl ?_
      refine r_iconst ok (-1) d_Md_found_89 rfl ?_
      refine r_callVi (As := [vI x1, vI (-1)]) (rest := []) ok 10 rfl rfl rfl wl_Md_389 wi_y_Md_leans ws_y_Md_leans wn_Md wc_y_Md_leans (by decide) (by decide) hh_Md_leans (Nat.le_of_ble_eq_true rfl) rfl d_Md_found_90 (L_Md_leans F.1 F.2.1 F.2.2.1 hD h) (fun r6 s5 h => ?_)
      exact hQ _ _ _ _ _ (ok_code ok) d_Md_found_93 h
    replace h := h.2
    replace h := h c0 c1 c2 c3 c4
    refine r_tblOut ok 94 d_Md_found_19 hx (by omega) (by decide) ?_
    refine r_iload_n ok 2 d_Md_found_94 rfl rfl ?_
    refine r_bipush ok 10 d_Md_found_95 (by decide) ?_
    refine r_icmp_ge ok 104 d_Md_found_97 (by decide) h.1 (by decide) (fun c => ?_) (fun c => ?_)
    · replace h := h.2.1 c
      refine r_aload_n ok 0 d_Md_found_104 rfl rfl ?_
      refine r_iload_n ok 1 d_Md_found_105 rfl rfl ?_
      refine r_iload_n ok 2 d_Md_found_106 rfl rfl ?_
      refine r_bipush ok 10 d_Md_found_107 (by decide) ?_
      refine r_isub ok d_Md_found_109 ?_
      refine r_callVi (As := [vI x1, vI (x2 - 10)]) (rest := []) ok 10 rfl rfl rfl wl_Md_389 wi_y_Md_leans ws_y_Md_leans wn_Md wc_y_Md_leans (by decide) (by decide) hh_Md_leans (Nat.le_of_ble_eq_true rfl) rfl d_Md_found_110 (L_Md_leans F.1 F.2.1 F.2.2.1 hD h) (fun r8 s7 h => ?_)
      exact hQ _ _ _ _ _ (ok_code ok) d_Md_found_113 h
    · replace h := h.2.2 c
      refine r_iconst ok (-1) d_Md_found_100 rfl ?_
      refine r_goto ok 113 d_Md_found_101 (by decide) ?_
      exact hQ _ _ _ _ _ (ok_code ok) d_Md_found_113 h
  · replace h := h.2.2 c
    refine r_iconst ok (-1) d_Md_found_16 rfl ?_
    exact hQ _ _ _ _ _ (ok_code ok) d_Md_found_17 h
theorem L_Md_found (l : Launch) (G : GE) (A : Nat → Prop) (hD : ∀ σ, va_D A (GW G σ)) {x1 x2 : Int} {s : SS} {Q : Int → SS → Prop} (h : Sp_Md_found x1 x2 s Q) : Met l y_Md_found (Cond.code y_Md_found prog_12_method_67_code 3 (some .int) :: lw_ok) ({ frames := 6, cells := 0, slots := 0, locals := 140 } : Room) (va_Pc [.ref (G.1 10), vI x1, vI x2] (gB G s)) (va_Qi (fun (r : Int32) (s2 : SS) => ∃ x : Int, r = iI x ∧ Q x s2) (fun s2 t => gB G s2 t) A) 0 0 A := by
  refine met_i hD (by decide) ⟨rfl, rfl⟩ (Nat.le_of_ble_eq_true rfl) (lv := [(0, .ref (G.1 10)), (1, vI x1), (2, vI x2)]) rfl (fun F h1 h2 h3 hm ok hQ => ?_)
  subst h1 h2 h3
  have hDF := hD
  exact K_Md_found_e hDF hm ok hQ h
theorem d_Md_bone_0 : decode prog_12_method_68_code 0 = .ok (.iload_n 1, 1) := by decide +kernel
theorem d_Md_bone_1 : decode prog_12_method_68_code 1 = .ok (.i2l, 1) := by decide +kernel
theorem d_Md_bone_2 : decode prog_12_method_68_code 2 = .ok (.lconst 0, 1) := by decide +kernel
theorem d_Md_bone_3 : decode prog_12_method_68_code 3 = .ok (.ldc2_w 392, 3) := by decide +kernel
theorem d_Md_bone_6 : decode prog_12_method_68_code 6 = .ok (.invokestatic 191, 3) := by decide +kernel
theorem d_Md_bone_9 : decode prog_12_method_68_code 9 = .ok (.ifCond .ne 5, 3) := by decide +kernel
theorem d_Md_bone_12 : decode prog_12_method_68_code 12 = .ok (.iconst (-1), 1) := by decide +kernel
theorem d_Md_bone_13 : decode prog_12_method_68_code 13 = .ok (.ireturn, 1) := by decide +kernel
theorem d_Md_bone_14 : decode prog_12_method_68_code 14 = .ok (.iload_n 2, 1) := by decide +kernel
theorem d_Md_bone_15 : decode prog_12_method_68_code 15 = .ok (.i2l, 1) := by decide +kernel
theorem d_Md_bone_16 : decode prog_12_method_68_code 16 = .ok (.lconst 0, 1) := by decide +kernel
theorem d_Md_bone_17 : decode prog_12_method_68_code 17 = .ok (.ldc2_w 392, 3) := by decide +kernel
theorem d_Md_bone_20 : decode prog_12_method_68_code 20 = .ok (.invokestatic 191, 3) := by decide +kernel
theorem d_Md_bone_23 : decode prog_12_method_68_code 23 = .ok (.ifCond .eq 26, 3) := by decide +kernel
theorem d_Md_bone_26 : decode prog_12_method_68_code 26 = .ok (.iload_n 3, 1) := by decide +kernel
theorem d_Md_bone_27 : decode prog_12_method_68_code 27 = .ok (.i2l, 1) := by decide +kernel
theorem d_Md_bone_28 : decode prog_12_method_68_code 28 = .ok (.lconst 0, 1) := by decide +kernel
theorem d_Md_bone_29 : decode prog_12_method_68_code 29 = .ok (.lconst 1, 1) := by decide +kernel
theorem d_Md_bone_30 : decode prog_12_method_68_code 30 = .ok (.invokestatic 191, 3) := by decide +kernel
theorem d_Md_bone_33 : decode prog_12_method_68_code 33 = .ok (.ifCond .eq 16, 3) := by decide +kernel
theorem d_Md_bone_36 : decode prog_12_method_68_code 36 = .ok (.iload 4, 2) := by decide +kernel
theorem d_Md_bone_38 : decode prog_12_method_68_code 38 = .ok (.i2l, 1) := by decide +kernel
theorem d_Md_bone_39 : decode prog_12_method_68_code 39 = .ok (.lconst 0, 1) := by decide +kernel
theorem d_Md_bone_40 : decode prog_12_method_68_code 40 = .ok (.ldc2_w 394, 3) := by decide +kernel
theorem d_Md_bone_43 : decode prog_12_method_68_code 43 = .ok (.invokestatic 191, 3) := by decide +kernel
theorem d_Md_bone_46 : decode prog_12_method_68_code 46 = .ok (.ifCond .ne 6, 3) := by decide +kernel
theorem d_Md_bone_49 : decode prog_12_method_68_code 49 = .ok (.bipush (-2), 2) := by decide +kernel
theorem d_Md_bone_51 : decode prog_12_method_68_code 51 = .ok (.ireturn, 1) := by decide +kernel
theorem d_Md_bone_52 : decode prog_12_method_68_code 52 = .ok (.bipush 8, 2) := by decide +kernel
theorem d_Md_bone_54 : decode prog_12_method_68_code 54 = .ok (.iload_n 1, 1) := by decide +kernel
theorem d_Md_bone_55 : decode prog_12_method_68_code 55 = .ok (.imul, 1) := by decide +kernel
theorem d_Md_bone_56 : decode prog_12_method_68_code 56 = .ok (.iconst 2, 1) := by decide +kernel
theorem d_Md_bone_57 : decode prog_12_method_68_code 57 = .ok (.iload_n 2, 1) := by decide +kernel
theorem d_Md_bone_58 : decode prog_12_method_68_code 58 = .ok (.imul, 1) := by decide +kernel
theorem d_Md_bone_59 : decode prog_12_method_68_code 59 = .ok (.iadd, 1) := by decide +kernel
theorem d_Md_bone_60 : decode prog_12_method_68_code 60 = .ok (.iload_n 3, 1) := by decide +kernel
theorem d_Md_bone_61 : decode prog_12_method_68_code 61 = .ok (.iadd, 1) := by decide +kernel
theorem d_Md_bone_62 : decode prog_12_method_68_code 62 = .ok (.istore 5, 2) := by decide +kernel
theorem d_Md_bone_64 : decode prog_12_method_68_code 64 = .ok (.aload_n 0, 1) := by decide +kernel
theorem d_Md_bone_65 : decode prog_12_method_68_code 65 = .ok (.getfield 126, 3) := by decide +kernel
theorem d_Md_bone_68 : decode prog_12_method_68_code 68 = .ok (.iload 5, 2) := by decide +kernel
theorem d_Md_bone_70 : decode prog_12_method_68_code 70 = .ok (.iaload, 1) := by decide +kernel
theorem d_Md_bone_71 : decode prog_12_method_68_code 71 = .ok (.bipush 12, 2) := by decide +kernel
theorem d_Md_bone_73 : decode prog_12_method_68_code 73 = .ok (.if_icmp .ne 6, 3) := by decide +kernel
theorem d_Md_bone_76 : decode prog_12_method_68_code 76 = .ok (.bipush (-4), 2) := by decide +kernel
theorem d_Md_bone_78 : decode prog_12_method_68_code 78 = .ok (.ireturn, 1) := by decide +kernel
theorem d_Md_bone_79 : decode prog_12_method_68_code 79 = .ok (.aload_n 0, 1) := by decide +kernel
theorem d_Md_bone_80 : decode prog_12_method_68_code 80 = .ok (.getfield 126, 3) := by decide +kernel
theorem d_Md_bone_83 : decode prog_12_method_68_code 83 = .ok (.iload 5, 2) := by decide +kernel
theorem d_Md_bone_85 : decode prog_12_method_68_code 85 = .ok (.iaload, 1) := by decide +kernel
theorem d_Md_bone_86 : decode prog_12_method_68_code 86 = .ok (.istore 6, 2) := by decide +kernel
theorem d_Md_bone_88 : decode prog_12_method_68_code 88 = .ok (.iload 6, 2) := by decide +kernel
theorem d_Md_bone_90 : decode prog_12_method_68_code 90 = .ok (.ifCond .le 57, 3) := by decide +kernel
theorem d_Md_bone_93 : decode prog_12_method_68_code 93 = .ok (.aload_n 0, 1) := by decide +kernel
theorem d_Md_bone_94 : decode prog_12_method_68_code 94 = .ok (.getfield 129, 3) := by decide +kernel
theorem d_Md_bone_97 : decode prog_12_method_68_code 97 = .ok (.bipush 12, 2) := by decide +kernel
theorem d_Md_bone_99 : decode prog_12_method_68_code 99 = .ok (.iload 5, 2) := by decide +kernel
theorem d_Md_bone_101 : decode prog_12_method_68_code 101 = .ok (.imul, 1) := by decide +kernel
theorem d_Md_bone_102 : decode prog_12_method_68_code 102 = .ok (.iload 6, 2) := by decide +kernel
theorem d_Md_bone_104 : decode prog_12_method_68_code 104 = .ok (.iadd, 1) := by decide +kernel
theorem d_Md_bone_105 : decode prog_12_method_68_code 105 = .ok (.iconst 1, 1) := by decide +kernel
theorem d_Md_bone_106 : decode prog_12_method_68_code 106 = .ok (.isub, 1) := by decide +kernel
theorem d_Md_bone_107 : decode prog_12_method_68_code 107 = .ok (.iaload, 1) := by decide +kernel
theorem d_Md_bone_108 : decode prog_12_method_68_code 108 = .ok (.iload 4, 2) := by decide +kernel
theorem d_Md_bone_110 : decode prog_12_method_68_code 110 = .ok (.if_icmp .le 37, 3) := by decide +kernel
theorem d_Md_bone_113 : decode prog_12_method_68_code 113 = .ok (.aload_n 0, 1) := by decide +kernel
theorem d_Md_bone_114 : decode prog_12_method_68_code 114 = .ok (.getfield 129, 3) := by decide +kernel
theorem d_Md_bone_117 : decode prog_12_method_68_code 117 = .ok (.bipush 12, 2) := by decide +kernel
theorem d_Md_bone_119 : decode prog_12_method_68_code 119 = .ok (.iload 5, 2) := by decide +kernel
theorem d_Md_bone_121 : decode prog_12_method_68_code 121 = .ok (.imul, 1) := by decide +kernel
theorem d_Md_bone_122 : decode prog_12_method_68_code 122 = .ok (.iload 6, 2) := by decide +kernel
theorem d_Md_bone_124 : decode prog_12_method_68_code 124 = .ok (.iadd, 1) := by decide +kernel
theorem d_Md_bone_125 : decode prog_12_method_68_code 125 = .ok (.aload_n 0, 1) := by decide +kernel
theorem d_Md_bone_126 : decode prog_12_method_68_code 126 = .ok (.getfield 129, 3) := by decide +kernel
theorem d_Md_bone_129 : decode prog_12_method_68_code 129 = .ok (.bipush 12, 2) := by decide +kernel
theorem d_Md_bone_131 : decode prog_12_method_68_code 131 = .ok (.iload 5, 2) := by decide +kernel
theorem d_Md_bone_133 : decode prog_12_method_68_code 133 = .ok (.imul, 1) := by decide +kernel
theorem d_Md_bone_134 : decode prog_12_method_68_code 134 = .ok (.iload 6, 2) := by decide +kernel
theorem d_Md_bone_136 : decode prog_12_method_68_code 136 = .ok (.iadd, 1) := by decide +kernel
theorem d_Md_bone_137 : decode prog_12_method_68_code 137 = .ok (.iconst 1, 1) := by decide +kernel
theorem d_Md_bone_138 : decode prog_12_method_68_code 138 = .ok (.isub, 1) := by decide +kernel
theorem d_Md_bone_139 : decode prog_12_method_68_code 139 = .ok (.iaload, 1) := by decide +kernel
theorem d_Md_bone_140 : decode prog_12_method_68_code 140 = .ok (.iastore, 1) := by decide +kernel
theorem d_Md_bone_141 : decode prog_12_method_68_code 141 = .ok (.iinc 6 (-1), 3) := by decide +kernel
theorem d_Md_bone_144 : decode prog_12_method_68_code 144 = .ok (.goto (-56), 3) := by decide +kernel
theorem d_Md_bone_147 : decode prog_12_method_68_code 147 = .ok (.aload_n 0, 1) := by decide +kernel
theorem d_Md_bone_148 : decode prog_12_method_68_code 148 = .ok (.getfield 129, 3) := by decide +kernel
theorem d_Md_bone_151 : decode prog_12_method_68_code 151 = .ok (.bipush 12, 2) := by decide +kernel
theorem d_Md_bone_153 : decode prog_12_method_68_code 153 = .ok (.iload 5, 2) := by decide +kernel
theorem d_Md_bone_155 : decode prog_12_method_68_code 155 = .ok (.imul, 1) := by decide +kernel
theorem d_Md_bone_156 : decode prog_12_method_68_code 156 = .ok (.iload 6, 2) := by decide +kernel
theorem d_Md_bone_158 : decode prog_12_method_68_code 158 = .ok (.iadd, 1) := by decide +kernel
theorem d_Md_bone_159 : decode prog_12_method_68_code 159 = .ok (.iload 4, 2) := by decide +kernel
theorem d_Md_bone_161 : decode prog_12_method_68_code 161 = .ok (.iastore, 1) := by decide +kernel
theorem d_Md_bone_162 : decode prog_12_method_68_code 162 = .ok (.aload_n 0, 1) := by decide +kernel
theorem d_Md_bone_163 : decode prog_12_method_68_code 163 = .ok (.getfield 126, 3) := by decide +kernel
theorem d_Md_bone_166 : decode prog_12_method_68_code 166 = .ok (.iload 5, 2) := by decide +kernel
theorem d_Md_bone_168 : decode prog_12_method_68_code 168 = .ok (.dup2, 1) := by decide +kernel
theorem d_Md_bone_169 : decode prog_12_method_68_code 169 = .ok (.iaload, 1) := by decide +kernel
theorem d_Md_bone_170 : decode prog_12_method_68_code 170 = .ok (.iconst 1, 1) := by decide +kernel
theorem d_Md_bone_171 : decode prog_12_method_68_code 171 = .ok (.iadd, 1) := by decide +kernel
theorem d_Md_bone_172 : decode prog_12_method_68_code 172 = .ok (.iastore, 1) := by decide +kernel
theorem d_Md_bone_173 : decode prog_12_method_68_code 173 = .ok (.aload_n 0, 1) := by decide +kernel
theorem d_Md_bone_174 : decode prog_12_method_68_code 174 = .ok (.getfield 126, 3) := by decide +kernel
theorem d_Md_bone_177 : decode prog_12_method_68_code 177 = .ok (.iload 5, 2) := by decide +kernel
theorem d_Md_bone_179 : decode prog_12_method_68_code 179 = .ok (.iaload, 1) := by decide +kernel
theorem d_Md_bone_180 : decode prog_12_method_68_code 180 = .ok (.ireturn, 1) := by decide +kernel
set_option maxHeartbeats 4000000 in
set_option maxRecDepth 100000 in
theorem K_Md_bone_88 {F : FT} (hD : ∀ σ, va_D F.2.2.1 (GW F.2.1 σ)) (hm : F.2.2.2.2.2.2.2.2.2.2.2.2.2.2.1 = 7) (ok : OkF F prog_12_method_68_code "LastSeenModel" ({ frames := 1, cells := 0, slots := 0, locals := 25 } : Room)) {Q : Int → SS → Prop} (hQ : RetI F Q) {x4 x5 x6 : Int} {s : SS} (h : B_Md_bone_88 Q (fun x4 x5 x6 s => AtS F 88 [(0, .ref (F.2.1.1 10)), (4, vI x4), (5, vI x5), (6, vI x6)] [] s) (fun x4 x5 x6 s => AtS F 147 [(0, .ref (F.2.1.1 10)), (4, vI x4), (5, vI x5), (6, vI x6)] [] s) x4 x5 x6 s) : AtS F 88 [(0, .ref (F.2.1.1 10)), (4, vI x4), (5, vI x5), (6, vI x6)] [] s := by
  unfold B_Md_bone_88 at h
  refine r_iload ok 3 d_Md_bone_88 rfl ?_
  refine r_if_le ok 147 d_Md_bone_90 (by decide) h.1 (fun c => ?_) (fun c => ?_)
  · replace h := h.2.1 c
    exact r_sub [0, 1, 2, 3] rfl h
  · replace h := h.2.2 c
    refine r_aload_n ok 0 d_Md_bone_93 rfl rfl ?_
    refine g_Md_boneSize ok d_Md_bone_94 ?_
    refine r_bipush ok 12 d_Md_bone_97 (by decide) ?_
    refine r_iload ok 2 d_Md_bone_99 rfl ?_
    refine r_imul ok d_Md_bone_101 ?_
    refine r_iload ok 3 d_Md_bone_102 rfl ?_
    refine r_iadd ok d_Md_bone_104 ?_
    refine r_iconst ok 1 d_Md_bone_105 rfl ?_
    refine r_isub ok d_Md_bone_106 ?_
    refine r_iald ok 98 d_Md_bone_107 (by decide) rfl h.1 ?_
    replace h := h.2
    refine r_iload ok 1 d_Md_bone_108 rfl ?_
    refine r_icmp_le ok 147 d_Md_bone_110 (by decide) h.1 h.2.1 (fun c => ?_) (fun c => ?_)
    · replace h := h.2.2.1 c
      exact r_sub [0, 1, 2, 3] rfl h
    · replace h := h.2.2.2 c
      refine r_aload_n ok 0 d_Md_bone_113 rfl rfl ?_
      refine g_Md_boneSize ok d_Md_bone_114 ?_
      refine r_bipush ok 12 d_Md_bone_117 (by decide) ?_
      refine r_iload ok 2 d_Md_bone_119 rfl ?_
      refine r_imul ok d_Md_bone_121 ?_
      refine r_iload ok 3 d_Md_bone_122 rfl ?_
      refine r_iadd ok d_Md_bone_124 ?_
      refine r_aload_n ok 0 d_Md_bone_125 rfl rfl ?_
      refine g_Md_boneSize ok d_Md_bone_126 ?_
      refine r_bipush ok 12 d_Md_bone_129 (by decide) ?_
      refine r_iload ok 2 d_Md_bone_131 rfl ?_
      refine r_imul ok d_Md_bone_133 ?_
      refine r_iload ok 3 d_Md_bone_134 rfl ?_
      refine r_iadd ok d_Md_bone_136 ?_
      refine r_iconst ok 1 d_Md_bone_137 rfl ?_
      refine r_isub ok d_Md_bone_138 ?_
      refine r_iald ok 98 d_Md_bone_139 (by decide) rfl h.1 ?_
      replace h := h.2
      refine r_iast ok 98 d_Md_bone_140 (by decide) rfl h.1 ?_
      replace h := h.2 _ rfl
      generalize sA s 98 ((12 * x5) + x6) (s.2 98 (((12 * x5) + x6) - 1)) = s9 at h ⊢
      refine r_iinc ok 3 (x6 + (-1)) [(6, vI (x6 + (-1))), (0, .ref (F.2.1.1 10)), (4, vI x4), (5, vI x5)] d_Md_bone_141 rfl rfl hm (by decide) rfl ?_
      refine r_goto ok 88 d_Md_bone_144 (by decide) ?_
      exact r_sub [1, 2, 3, 0] rfl h
set_option maxHeartbeats 4000000 in
set_option maxRecDepth 100000 in
theorem K_Md_bone_147 {F : FT} (hD : ∀ σ, va_D F.2.2.1 (GW F.2.1 σ)) (hm : F.2.2.2.2.2.2.2.2.2.2.2.2.2.2.1 = 7) (ok : OkF F prog_12_method_68_code "LastSeenModel" ({ frames := 1, cells := 0, slots := 0, locals := 25 } : Room)) {Q : Int → SS → Prop} (hQ : RetI F Q) {x4 x5 x6 : Int} {s : SS} (h : B_Md_bone_147 Q (fun x4 x5 x6 s => AtS F 88 [(0, .ref (F.2.1.1 10)), (4, vI x4), (5, vI x5), (6, vI x6)] [] s) (fun x4 x5 x6 s => AtS F 147 [(0, .ref (F.2.1.1 10)), (4, vI x4), (5, vI x5), (6, vI x6)] [] s) x4 x5 x6 s) : AtS F 147 [(0, .ref (F.2.1.1 10)), (4, vI x4), (5, vI x5), (6, vI x6)] [] s := by
  unfold B_Md_bone_147 at h
  refine r_aload_n ok 0 d_Md_bone_147 rfl rfl ?_
  refine g_Md_boneSize ok d_Md_bone_148 ?_
  refine r_bipush ok 12 d_Md_bone_151 (by decide) ?_
  refine r_iload ok 2 d_Md_bone_153 rfl ?_
  refine r_imul ok d_Md_bone_155 ?_
  refine r_iload ok 3 d_Md_bone_156 rfl ?_
  refine r_iadd ok d_Md_bone_158 ?_
  refine r_iload ok 1 d_Md_bone_159 rfl ?_
  refine r_iast ok 98 d_Md_bone_161 (by decide) rfl h.1 ?_
  replace h := h.2 _ rfl
  generalize sA s 98 ((12 * x5) + x6) x4 = s10 at h ⊢
  refine r_aload_n ok 0 d_Md_bone_162 rfl rfl ?_
  refine g_Md_boneMany ok d_Md_bone_163 ?_
  refine r_iload ok 2 d_Md_bone_166 rfl ?_
  refine r_dup2 ok d_Md_bone_168 rfl rfl ?_
  refine r_iald ok 97 d_Md_bone_169 (by decide) rfl h.1 ?_
  replace h := h.2
  refine r_iconst ok 1 d_Md_bone_170 rfl ?_
  refine r_iadd ok d_Md_bone_171 ?_
  refine r_iast ok 97 d_Md_bone_172 (by decide) rfl h.1 ?_
  replace h := h.2 _ rfl
  generalize sA s10 97 x5 ((s10.2 97 x5) + 1) = s11 at h ⊢
  refine r_aload_n ok 0 d_Md_bone_173 rfl rfl ?_
  refine g_Md_boneMany ok d_Md_bone_174 ?_
  refine r_iload ok 2 d_Md_bone_177 rfl ?_
  refine r_iald ok 97 d_Md_bone_179 (by decide) rfl h.1 ?_
  replace h := h.2
  exact hQ _ _ _ _ _ (ok_code ok) d_Md_bone_180 h
set_option maxHeartbeats 4000000 in
set_option maxRecDepth 100000 in
theorem K_Md_bone_e {F : FT} (hD : ∀ σ, va_D F.2.2.1 (GW F.2.1 σ)) (hm : F.2.2.2.2.2.2.2.2.2.2.2.2.2.2.1 = 7) (ok : OkF F prog_12_method_68_code "LastSeenModel" ({ frames := 1, cells := 0, slots := 0, locals := 25 } : Room)) {Q : Int → SS → Prop} (hQ : RetI F Q) {x1 x2 x3 x4 : Int} {s : SS} (h : B_Md_bone_e Q (fun x4 x5 x6 s => AtS F 88 [(0, .ref (F.2.1.1 10)), (4, vI x4), (5, vI x5), (6, vI x6)] [] s) (fun x4 x5 x6 s => AtS F 147 [(0, .ref (F.2.1.1 10)), (4, vI x4), (5, vI x5), (6, vI x6)] [] s) x1 x2 x3 x4 s) : AtS F 0 [(0, .ref (F.2.1.1 10)), (1, vI x1), (2, vI x2), (3, vI x3), (4, vI x4)] [] s := by
  unfold B_Md_bone_e at h
  refine r_iload_n ok 1 d_Md_bone_0 rfl rfl ?_
  refine r_i2l ok d_Md_bone_1 h.1 ?_
  replace h := h.2
  refine r_lconst ok 0 d_Md_bone_2 (by decide) ?_
  refine r_ldc2 ok 3 wk_Md_392 d_Md_bone_3 (by decide) ?_
  refine r_callSi (As := [vJ x1, vJ 0, vJ 3]) (rest := []) ok wl_Md_191 wt_y_Md_isIn wn_Md wc_y_Md_isIn (by decide) (by decide) hh_Md_isIn (Nat.le_of_ble_eq_true rfl) rfl d_Md_bone_6 (L_Md_isIn F.1 F.2.1 F.2.2.1 hD h) (fun r2 s1 h => ?_)
  refine r_if_ne ok 14 d_Md_bone_9 (by decide) h.1 (fun c => ?_) (fun c => ?_)
  · replace h := h.2.1 c
    refine r_iload_n ok 2 d_Md_bone_14 rfl rfl ?_
    refine r_i2l ok d_Md_bone_15 h.1 ?_
    replace h := h.2
    refine r_lconst ok 0 d_Md_bone_16 (by decide) ?_
    refine r_ldc2 ok 3 wk_Md_392 d_Md_bone_17 (by decide) ?_
    refine r_callSi (As := [vJ x2, vJ 0, vJ 3]) (rest := []) ok wl_Md_191 wt_y_Md_isIn wn_Md wc_y_Md_isIn (by decide) (by decide) hh_Md_isIn (Nat.le_of_ble_eq_true rfl) rfl d_Md_bone_20 (L_Md_isIn F.1 F.2.1 F.2.2.1 hD h) (fun r4 s3 h => ?_)
    refine r_if_eq ok 49 d_Md_bone_23 (by decide) h.1 (fun c => ?_) (fun c => ?_)
    · replace h := h.2.1 c
      refine r_bipush ok (-2) d_Md_bone_49 (by decide) ?_
      exact hQ _ _ _ _ _ (ok_code ok) d_Md_bone_51 h
    · replace h := h.2.2 c
      refine r_iload_n ok 3 d_Md_bone_26 rfl rfl ?_
      refine r_i2l ok d_Md_bone_27 h.1 ?_
      replace h := h.2
      refine r_lconst ok 0 d_Md_bone_28 (by decide) ?_
      refine r_lconst ok 1 d_Md_bone_29 (by decide) ?_
      refine r_callSi (As := [vJ x3, vJ 0, vJ 1]) (rest := []) ok wl_Md_191 wt_y_Md_isIn wn_Md wc_y_Md_isIn (by decide) (by decide) hh_Md_isIn (Nat.le_of_ble_eq_true rfl) rfl d_Md_bone_30 (L_Md_isIn F.1 F.2.1 F.2.2.1 hD h) (fun r6 s5 h => ?_)
      refine r_if_eq ok 49 d_Md_bone_33 (by decide) h.1 (fun c => ?_) (fun c => ?_)
      · replace h := h.2.1 c
        refine r_bipush ok (-2) d_Md_bone_49 (by decide) ?_
        exact hQ _ _ _ _ _ (ok_code ok) d_Md_bone_51 h
      · replace h := h.2.2 c
        refine r_iload ok 4 d_Md_bone_36 rfl ?_
        refine r_i2l ok d_Md_bone_38 h.1 ?_
        replace h := h.2
        refine r_lconst ok 0 d_Md_bone_39 (by decide) ?_
        refine r_ldc2 ok 99 wk_Md_394 d_Md_bone_40 (by decide) ?_
        refine r_callSi (As := [vJ x4, vJ 0, vJ 99]) (rest := []) ok wl_Md_191 wt_y_Md_isIn wn_Md wc_y_Md_isIn (by decide) (by decide) hh_Md_isIn (Nat.le_of_ble_eq_true rfl) rfl d_Md_bone_43 (L_Md_isIn F.1 F.2.1 F.2.2.1 hD h) (fun r8 s7 h => ?_)
        refine r_if_ne ok 52 d_Md_bone_46 (by decide) h.1 (fun c => ?_) (fun c => ?_)
        · replace h := h.2.1 c
          refine r_bipush ok 8 d_Md_bone_52 (by decide) ?_
          refine r_iload_n ok 1 d_Md_bone_54 rfl rfl ?_
          refine r_imul ok d_Md_bone_55 ?_
          refine r_iconst ok 2 d_Md_bone_56 rfl ?_
          refine r_iload_n ok 2 d_Md_bone_57 rfl rfl ?_
          refine r_imul ok d_Md_bone_58 ?_
          refine r_iadd ok d_Md_bone_59 ?_
          refine r_iload_n ok 3 d_Md_bone_60 rfl rfl ?_
          refine r_iadd ok d_Md_bone_61 ?_
          refine r_istore ok [(5, vI (((8 * x1) + (2 * x2)) + x3)), (0, .ref (F.2.1.1 10)), (1, vI x1), (2, vI x2), (3, vI x3), (4, vI x4)] d_Md_bone_62 hm (by decide) rfl ?_
          refine r_aload_n ok 1 d_Md_bone_64 rfl rfl ?_
          refine g_Md_boneMany ok d_Md_bone_65 ?_
          refine r_iload ok 0 d_Md_bone_68 rfl ?_
          refine r_iald ok 97 d_Md_bone_70 (by decide) rfl h.1 ?_
          replace h := h.2
          refine r_bipush ok 12 d_Md_bone_71 (by decide) ?_
          refine r_icmp_ne ok 79 d_Md_bone_73 (by decide) h.1 (by decide) (fun c => ?_) (fun c => ?_)
          · replace h := h.2.1 c
            refine r_aload_n ok 1 d_Md_bone_79 rfl rfl ?_
            refine g_Md_boneMany ok d_Md_bone_80 ?_
            refine r_iload ok 0 d_Md_bone_83 rfl ?_
            refine r_iald ok 97 d_Md_bone_85 (by decide) rfl h.1 ?_
            replace h := h.2
            refine r_istore ok [(6, vI (s7.2 97 (((8 * x1) + (2 * x2)) + x3))), (5, vI (((8 * x1) + (2 * x2)) + x3)), (0, .ref (F.2.1.1 10)), (1, vI x1), (2, vI x2), (3, vI x3), (4, vI x4)] d_Md_bone_86 hm (by decide) rfl ?_
            exact r_sub [2, 6, 1, 0] rfl h
          · replace h := h.2.2 c
            refine r_bipush ok (-4) d_Md_bone_76 (by decide) ?_
            exact hQ _ _ _ _ _ (ok_code ok) d_Md_bone_78 h
        · replace h := h.2.2 c
          refine r_bipush ok (-2) d_Md_bone_49 (by decide) ?_
          exact hQ _ _ _ _ _ (ok_code ok) d_Md_bone_51 h
  · replace h := h.2.2 c
    refine r_iconst ok (-1) d_Md_bone_12 rfl ?_
    exact hQ _ _ _ _ _ (ok_code ok) d_Md_bone_13 h
theorem L_Md_bone (l : Launch) (G : GE) (A : Nat → Prop) (hD : ∀ σ, va_D A (GW G σ)) {x1 x2 x3 x4 : Int} {s : SS} {Q : Int → SS → Prop} (h : Sp_Md_bone x1 x2 x3 x4 s Q) : Met l y_Md_bone (Cond.code y_Md_bone prog_12_method_68_code 7 (some .int) :: lw_ok) ({ frames := 1, cells := 0, slots := 0, locals := 25 } : Room) (va_Pc [.ref (G.1 10), vI x1, vI x2, vI x3, vI x4] (gB G s)) (va_Qi (fun (r : Int32) (s2 : SS) => ∃ x : Int, r = iI x ∧ Q x s2) (fun s2 t => gB G s2 t) A) 0 0 A := by
  refine met_i hD (by decide) ⟨rfl, rfl⟩ (Nat.le_of_ble_eq_true rfl) (lv := [(0, .ref (G.1 10)), (1, vI x1), (2, vI x2), (3, vI x3), (4, vI x4)]) rfl (fun F h1 h2 h3 hm ok hQ => ?_)
  subst h1 h2 h3
  have hDF := hD
  exact K_Md_bone_e hDF hm ok hQ (h _ _ (fun _ _ _ _ hb => K_Md_bone_88 hDF hm ok hQ hb) (fun _ _ _ _ hb => K_Md_bone_147 hDF hm ok hQ hb))
theorem d_Md_bound_0 : decode prog_12_method_69_code 0 = .ok (.iload_n 1, 1) := by decide +kernel
theorem d_Md_bound_1 : decode prog_12_method_69_code 1 = .ok (.i2l, 1) := by decide +kernel
theorem d_Md_bound_2 : decode prog_12_method_69_code 2 = .ok (.lconst 0, 1) := by decide +kernel
theorem d_Md_bound_3 : decode prog_12_method_69_code 3 = .ok (.ldc2_w 396, 3) := by decide +kernel
theorem d_Md_bound_6 : decode prog_12_method_69_code 6 = .ok (.invokestatic 191, 3) := by decide +kernel
theorem d_Md_bound_9 : decode prog_12_method_69_code 9 = .ok (.ifCond .ne 6, 3) := by decide +kernel
theorem d_Md_bound_12 : decode prog_12_method_69_code 12 = .ok (.bipush (-2), 2) := by decide +kernel
theorem d_Md_bound_14 : decode prog_12_method_69_code 14 = .ok (.ireturn, 1) := by decide +kernel
theorem d_Md_bound_15 : decode prog_12_method_69_code 15 = .ok (.aload_n 0, 1) := by decide +kernel
theorem d_Md_bound_16 : decode prog_12_method_69_code 16 = .ok (.getfield 132, 3) := by decide +kernel
theorem d_Md_bound_19 : decode prog_12_method_69_code 19 = .ok (.istore_n 2, 1) := by decide +kernel
theorem d_Md_bound_20 : decode prog_12_method_69_code 20 = .ok (.aload_n 0, 1) := by decide +kernel
theorem d_Md_bound_21 : decode prog_12_method_69_code 21 = .ok (.iload_n 1, 1) := by decide +kernel
theorem d_Md_bound_22 : decode prog_12_method_69_code 22 = .ok (.putfield 132, 3) := by decide +kernel
theorem d_Md_bound_25 : decode prog_12_method_69_code 25 = .ok (.iload_n 2, 1) := by decide +kernel
theorem d_Md_bound_26 : decode prog_12_method_69_code 26 = .ok (.ireturn, 1) := by decide +kernel
set_option maxHeartbeats 4000000 in
set_option maxRecDepth 100000 in
theorem K_Md_bound_e {F : FT} (hD : ∀ σ, va_D F.2.2.1 (GW F.2.1 σ)) (hm : F.2.2.2.2.2.2.2.2.2.2.2.2.2.2.1 = 3) (ok : OkF F prog_12_method_69_code "LastSeenModel" ({ frames := 1, cells := 0, slots := 0, locals := 25 } : Room)) {Q : Int → SS → Prop} (hQ : RetI F Q) {x1 : Int} {s : SS} (h : Sp_Md_bound x1 s Q) : AtS F 0 [(0, .ref (F.2.1.1 10)), (1, vI x1)] [] s := by
  unfold Sp_Md_bound at h
  refine r_iload_n ok 1 d_Md_bound_0 rfl rfl ?_
  refine r_i2l ok d_Md_bound_1 h.1 ?_
  replace h := h.2
  refine r_lconst ok 0 d_Md_bound_2 (by decide) ?_
  refine r_ldc2 ok 20 wk_Md_396 d_Md_bound_3 (by decide) ?_
  refine r_callSi (As := [vJ x1, vJ 0, vJ 20]) (rest := []) ok wl_Md_191 wt_y_Md_isIn wn_Md wc_y_Md_isIn (by decide) (by decide) hh_Md_isIn (Nat.le_of_ble_eq_true rfl) rfl d_Md_bound_6 (L_Md_isIn F.1 F.2.1 F.2.2.1 hD h) (fun r2 s1 h => ?_)
  refine r_if_ne ok 15 d_Md_bound_9 (by decide) h.1 (fun c => ?_) (fun c => ?_)
  · replace h := h.2.1 c
    refine r_aload_n ok 0 d_Md_bound_15 rfl rfl ?_
    refine g_Md_bound ok d_Md_bound_16 ?_
    refine r_istore_n ok [(2, vI (s1.1 45)), (0, .ref (F.2.1.1 10)), (1, vI x1)] d_Md_bound_19 rfl hm (by decide) rfl ?_
    refine r_aload_n ok 1 d_Md_bound_20 rfl rfl ?_
    refine r_iload_n ok 2 d_Md_bound_21 rfl rfl ?_
    refine p_Md_bound ok d_Md_bound_22 ?_
    replace h := h _ rfl
    generalize sF s1 45 x1 = s3 at h ⊢
    refine r_iload_n ok 0 d_Md_bound_25 rfl rfl ?_
    exact hQ _ _ _ _ _ (ok_code ok) d_Md_bound_26 h
  · replace h := h.2.2 c
    refine r_bipush ok (-2) d_Md_bound_12 (by decide) ?_
    exact hQ _ _ _ _ _ (ok_code ok) d_Md_bound_14 h
theorem L_Md_bound (l : Launch) (G : GE) (A : Nat → Prop) (hD : ∀ σ, va_D A (GW G σ)) {x1 : Int} {s : SS} {Q : Int → SS → Prop} (h : Sp_Md_bound x1 s Q) : Met l y_Md_bound (Cond.code y_Md_bound prog_12_method_69_code 3 (some .int) :: lw_ok) ({ frames := 1, cells := 0, slots := 0, locals := 25 } : Room) (va_Pc [.ref (G.1 10), vI x1] (gB G s)) (va_Qi (fun (r : Int32) (s2 : SS) => ∃ x : Int, r = iI x ∧ Q x s2) (fun s2 t => gB G s2 t) A) 0 0 A := by
  refine met_i hD (by decide) ⟨rfl, rfl⟩ (Nat.le_of_ble_eq_true rfl) (lv := [(0, .ref (G.1 10)), (1, vI x1)]) rfl (fun F h1 h2 h3 hm ok hQ => ?_)
  subst h1 h2 h3
  have hDF := hD
  exact K_Md_bound_e hDF hm ok hQ h
theorem d_Md_couples_0 : decode prog_12_method_70_code 0 = .ok (.iconst 0, 1) := by decide +kernel
theorem d_Md_couples_1 : decode prog_12_method_70_code 1 = .ok (.istore_n 3, 1) := by decide +kernel
theorem d_Md_couples_2 : decode prog_12_method_70_code 2 = .ok (.iconst 0, 1) := by decide +kernel
theorem d_Md_couples_3 : decode prog_12_method_70_code 3 = .ok (.istore 4, 2) := by decide +kernel
theorem d_Md_couples_5 : decode prog_12_method_70_code 5 = .ok (.iconst 0, 1) := by decide +kernel
theorem d_Md_couples_6 : decode prog_12_method_70_code 6 = .ok (.istore 5, 2) := by decide +kernel
theorem d_Md_couples_8 : decode prog_12_method_70_code 8 = .ok (.iload_n 3, 1) := by decide +kernel
theorem d_Md_couples_9 : decode prog_12_method_70_code 9 = .ok (.aload_n 0, 1) := by decide +kernel
theorem d_Md_couples_10 : decode prog_12_method_70_code 10 = .ok (.getfield 126, 3) := by decide +kernel
theorem d_Md_couples_13 : decode prog_12_method_70_code 13 = .ok (.iload_n 1, 1) := by decide +kernel
theorem d_Md_couples_14 : decode prog_12_method_70_code 14 = .ok (.iaload, 1) := by decide +kernel
theorem d_Md_couples_15 : decode prog_12_method_70_code 15 = .ok (.if_icmp .ge 88, 3) := by decide +kernel
theorem d_Md_couples_18 : decode prog_12_method_70_code 18 = .ok (.iload 4, 2) := by decide +kernel
theorem d_Md_couples_20 : decode prog_12_method_70_code 20 = .ok (.aload_n 0, 1) := by decide +kernel
theorem d_Md_couples_21 : decode prog_12_method_70_code 21 = .ok (.getfield 126, 3) := by decide +kernel
theorem d_Md_couples_24 : decode prog_12_method_70_code 24 = .ok (.iload_n 2, 1) := by decide +kernel
theorem d_Md_couples_25 : decode prog_12_method_70_code 25 = .ok (.iaload, 1) := by decide +kernel
theorem d_Md_couples_26 : decode prog_12_method_70_code 26 = .ok (.if_icmp .ge 77, 3) := by decide +kernel
theorem d_Md_couples_29 : decode prog_12_method_70_code 29 = .ok (.aload_n 0, 1) := by decide +kernel
theorem d_Md_couples_30 : decode prog_12_method_70_code 30 = .ok (.getfield 129, 3) := by decide +kernel
theorem d_Md_couples_33 : decode prog_12_method_70_code 33 = .ok (.bipush 12, 2) := by decide +kernel
theorem d_Md_couples_35 : decode prog_12_method_70_code 35 = .ok (.iload_n 1, 1) := by decide +kernel
theorem d_Md_couples_36 : decode prog_12_method_70_code 36 = .ok (.imul, 1) := by decide +kernel
theorem d_Md_couples_37 : decode prog_12_method_70_code 37 = .ok (.iload_n 3, 1) := by decide +kernel
theorem d_Md_couples_38 : decode prog_12_method_70_code 38 = .ok (.iadd, 1) := by decide +kernel
theorem d_Md_couples_39 : decode prog_12_method_70_code 39 = .ok (.iaload, 1) := by decide +kernel
theorem d_Md_couples_40 : decode prog_12_method_70_code 40 = .ok (.aload_n 0, 1) := by decide +kernel
theorem d_Md_couples_41 : decode prog_12_method_70_code 41 = .ok (.getfield 129, 3) := by decide +kernel
theorem d_Md_couples_44 : decode prog_12_method_70_code 44 = .ok (.bipush 12, 2) := by decide +kernel
theorem d_Md_couples_46 : decode prog_12_method_70_code 46 = .ok (.iload_n 2, 1) := by decide +kernel
theorem d_Md_couples_47 : decode prog_12_method_70_code 47 = .ok (.imul, 1) := by decide +kernel
theorem d_Md_couples_48 : decode prog_12_method_70_code 48 = .ok (.iload 4, 2) := by decide +kernel
theorem d_Md_couples_50 : decode prog_12_method_70_code 50 = .ok (.iadd, 1) := by decide +kernel
theorem d_Md_couples_51 : decode prog_12_method_70_code 51 = .ok (.iaload, 1) := by decide +kernel
theorem d_Md_couples_52 : decode prog_12_method_70_code 52 = .ok (.isub, 1) := by decide +kernel
theorem d_Md_couples_53 : decode prog_12_method_70_code 53 = .ok (.istore 6, 2) := by decide +kernel
theorem d_Md_couples_55 : decode prog_12_method_70_code 55 = .ok (.iload 6, 2) := by decide +kernel
theorem d_Md_couples_57 : decode prog_12_method_70_code 57 = .ok (.aload_n 0, 1) := by decide +kernel
theorem d_Md_couples_58 : decode prog_12_method_70_code 58 = .ok (.getfield 132, 3) := by decide +kernel
theorem d_Md_couples_61 : decode prog_12_method_70_code 61 = .ok (.ineg, 1) := by decide +kernel
theorem d_Md_couples_62 : decode prog_12_method_70_code 62 = .ok (.if_icmp .lt 24, 3) := by decide +kernel
theorem d_Md_couples_65 : decode prog_12_method_70_code 65 = .ok (.iload 6, 2) := by decide +kernel
theorem d_Md_couples_67 : decode prog_12_method_70_code 67 = .ok (.aload_n 0, 1) := by decide +kernel
theorem d_Md_couples_68 : decode prog_12_method_70_code 68 = .ok (.getfield 132, 3) := by decide +kernel
theorem d_Md_couples_71 : decode prog_12_method_70_code 71 = .ok (.if_icmp .gt 15, 3) := by decide +kernel
theorem d_Md_couples_74 : decode prog_12_method_70_code 74 = .ok (.iinc 5 1, 3) := by decide +kernel
theorem d_Md_couples_77 : decode prog_12_method_70_code 77 = .ok (.iinc 3 1, 3) := by decide +kernel
theorem d_Md_couples_80 : decode prog_12_method_70_code 80 = .ok (.iinc 4 1, 3) := by decide +kernel
theorem d_Md_couples_83 : decode prog_12_method_70_code 83 = .ok (.goto 17, 3) := by decide +kernel
theorem d_Md_couples_86 : decode prog_12_method_70_code 86 = .ok (.iload 6, 2) := by decide +kernel
theorem d_Md_couples_88 : decode prog_12_method_70_code 88 = .ok (.ifCond .ge 9, 3) := by decide +kernel
theorem d_Md_couples_91 : decode prog_12_method_70_code 91 = .ok (.iinc 3 1, 3) := by decide +kernel
theorem d_Md_couples_94 : decode prog_12_method_70_code 94 = .ok (.goto 6, 3) := by decide +kernel
theorem d_Md_couples_97 : decode prog_12_method_70_code 97 = .ok (.iinc 4 1, 3) := by decide +kernel
theorem d_Md_couples_100 : decode prog_12_method_70_code 100 = .ok (.goto (-92), 3) := by decide +kernel
theorem d_Md_couples_103 : decode prog_12_method_70_code 103 = .ok (.iload 5, 2) := by decide +kernel
theorem d_Md_couples_105 : decode prog_12_method_70_code 105 = .ok (.ireturn, 1) := by decide +kernel
set_option maxHeartbeats 4000000 in
set_option maxRecDepth 100000 in
theorem K_Md_couples_8 {F : FT} (hD : ∀ σ, va_D F.2.2.1 (GW F.2.1 σ)) (hm : F.2.2.2.2.2.2.2.2.2.2.2.2.2.2.1 = 7) (ok : OkF F prog_12_method_70_code "LastSeenModel" ({ frames := 0, cells := 0, slots := 0, locals := 0 } : Room)) {Q : Int → SS → Prop} (hQ : RetI F Q) {x1 x2 x3 x4 x5 : Int} {s : SS} (h : B_Md_couples_8 Q (fun x1 x2 x3 x4 x5 s => AtS F 8 [(0, .ref (F.2.1.1 10)), (1, vI x1), (2, vI x2), (3, vI x3), (4, vI x4), (5, vI x5)] [] s) x1 x2 x3 x4 x5 s) : AtS F 8 [(0, .ref (F.2.1.1 10)), (1, vI x1), (2, vI x2), (3, vI x3), (4, vI x4), (5, vI x5)] [] s := by
  unfold B_Md_couples_8 at h
  refine r_iload_n ok 3 d_Md_couples_8 rfl rfl ?_
  refine r_aload_n ok 0 d_Md_couples_9 rfl rfl ?_
  refine g_Md_boneMany ok d_Md_couples_10 ?_
  refine r_iload_n ok 1 d_Md_couples_13 rfl rfl ?_
  refine r_iald ok 97 d_Md_couples_14 (by decide) rfl h.1 ?_
  replace h := h.2
  refine r_icmp_ge ok 103 d_Md_couples_15 (by decide) h.1 h.2.1 (fun c => ?_) (fun c => ?_)
  · replace h := h.2.2.1 c
    refine r_iload ok 5 d_Md_couples_103 rfl ?_
    exact hQ _ _ _ _ _ (ok_code ok) d_Md_couples_105 h
  · replace h := h.2.2.2 c
    refine r_iload ok 4 d_Md_couples_18 rfl ?_
    refine r_aload_n ok 0 d_Md_couples_20 rfl rfl ?_
    refine g_Md_boneMany ok d_Md_couples_21 ?_
    refine r_iload_n ok 2 d_Md_couples_24 rfl rfl ?_
    refine r_iald ok 97 d_Md_couples_25 (by decide) rfl h.1 ?_
    replace h := h.2
    refine r_icmp_ge ok 103 d_Md_couples_26 (by decide) h.1 h.2.1 (fun c => ?_) (fun c => ?_)
    · replace h := h.2.2.1 c
      refine r_iload ok 5 d_Md_couples_103 rfl ?_
      exact hQ _ _ _ _ _ (ok_code ok) d_Md_couples_105 h
    · replace h := h.2.2.2 c
      refine r_aload_n ok 0 d_Md_couples_29 rfl rfl ?_
      refine g_Md_boneSize ok d_Md_couples_30 ?_
      refine r_bipush ok 12 d_Md_couples_33 (by decide) ?_
      refine r_iload_n ok 1 d_Md_couples_35 rfl rfl ?_
      refine r_imul ok d_Md_couples_36 ?_
      refine r_iload_n ok 3 d_Md_couples_37 rfl rfl ?_
      refine r_iadd ok d_Md_couples_38 ?_
      refine r_iald ok 98 d_Md_couples_39 (by decide) rfl h.1 ?_
      replace h := h.2
      refine r_aload_n ok 0 d_Md_couples_40 rfl rfl ?_
      refine g_Md_boneSize ok d_Md_couples_41 ?_
      refine r_bipush ok 12 d_Md_couples_44 (by decide) ?_
      refine r_iload_n ok 2 d_Md_couples_46 rfl rfl ?_
      refine r_imul ok d_Md_couples_47 ?_
      refine r_iload ok 4 d_Md_couples_48 rfl ?_
      refine r_iadd ok d_Md_couples_50 ?_
      refine r_iald ok 98 d_Md_couples_51 (by decide) rfl h.1 ?_
      replace h := h.2
      refine r_isub ok d_Md_couples_52 ?_
      refine r_istore ok [(6, vI ((s.2 98 ((12 * x1) + x3)) - (s.2 98 ((12 * x2) + x4)))), (0, .ref (F.2.1.1 10)), (1, vI x1), (2, vI x2), (3, vI x3), (4, vI x4), (5, vI x5)] d_Md_couples_53 hm (by decide) rfl ?_
      refine r_iload ok 0 d_Md_couples_55 rfl ?_
      refine r_aload_n ok 1 d_Md_couples_57 rfl rfl ?_
      refine g_Md_bound ok d_Md_couples_58 ?_
      refine r_ineg ok d_Md_couples_61 ?_
      refine r_icmp_lt ok 86 d_Md_couples_62 (by decide) h.1 h.2.1 (fun c => ?_) (fun c => ?_)
      · replace h := h.2.2.1 c
        refine r_iload ok 0 d_Md_couples_86 rfl ?_
        refine r_if_ge ok 97 d_Md_couples_88 (by decide) h.1 (fun c => ?_) (fun c => ?_)
        · replace h := h.2.1 c
          refine r_iinc ok 5 (x4 + 1) [(4, vI (x4 + 1)), (6, vI ((s.2 98 ((12 * x1) + x3)) - (s.2 98 ((12 * x2) + x4)))), (0, .ref (F.2.1.1 10)), (1, vI x1), (2, vI x2), (3, vI x3), (5, vI x5)] d_Md_couples_97 rfl rfl hm (by decide) rfl ?_
          refine r_goto ok 8 d_Md_couples_100 (by decide) ?_
          exact r_sub [2, 3, 4, 5, 0, 6] rfl h
        · replace h := h.2.2 c
          refine r_iinc ok 4 (x3 + 1) [(3, vI (x3 + 1)), (6, vI ((s.2 98 ((12 * x1) + x3)) - (s.2 98 ((12 * x2) + x4)))), (0, .ref (F.2.1.1 10)), (1, vI x1), (2, vI x2), (4, vI x4), (5, vI x5)] d_Md_couples_91 rfl rfl hm (by decide) rfl ?_
          refine r_goto ok 100 d_Md_couples_94 (by decide) ?_
          refine r_goto ok 8 d_Md_couples_100 (by decide) ?_
          exact r_sub [2, 3, 4, 0, 5, 6] rfl h
      · replace h := h.2.2.2 c
        refine r_iload ok 0 d_Md_couples_65 rfl ?_
        refine r_aload_n ok 1 d_Md_couples_67 rfl rfl ?_
        refine g_Md_bound ok d_Md_couples_68 ?_
        refine r_icmp_gt ok 86 d_Md_couples_71 (by decide) h.1 h.2.1 (fun c => ?_) (fun c => ?_)
        · replace h := h.2.2.1 c
          refine r_iload ok 0 d_Md_couples_86 rfl ?_
          refine r_if_ge ok 97 d_Md_couples_88 (by decide) h.1 (fun c => ?_) (fun c => ?_)
          · replace h := h.2.1 c
            refine r_iinc ok 5 (x4 + 1) [(4, vI (x4 + 1)), (6, vI ((s.2 98 ((12 * x1) + x3)) - (s.2 98 ((12 * x2) + x4)))), (0, .ref (F.2.1.1 10)), (1, vI x1), (2, vI x2), (3, vI x3), (5, vI x5)] d_Md_couples_97 rfl rfl hm (by decide) rfl ?_
            refine r_goto ok 8 d_Md_couples_100 (by decide) ?_
            exact r_sub [2, 3, 4, 5, 0, 6] rfl h
          · replace h := h.2.2 c
            refine r_iinc ok 4 (x3 + 1) [(3, vI (x3 + 1)), (6, vI ((s.2 98 ((12 * x1) + x3)) - (s.2 98 ((12 * x2) + x4)))), (0, .ref (F.2.1.1 10)), (1, vI x1), (2, vI x2), (4, vI x4), (5, vI x5)] d_Md_couples_91 rfl rfl hm (by decide) rfl ?_
            refine r_goto ok 100 d_Md_couples_94 (by decide) ?_
            refine r_goto ok 8 d_Md_couples_100 (by decide) ?_
            exact r_sub [2, 3, 4, 0, 5, 6] rfl h
        · replace h := h.2.2.2 c
          refine r_iinc ok 6 (x5 + 1) [(5, vI (x5 + 1)), (6, vI ((s.2 98 ((12 * x1) + x3)) - (s.2 98 ((12 * x2) + x4)))), (0, .ref (F.2.1.1 10)), (1, vI x1), (2, vI x2), (3, vI x3), (4, vI x4)] d_Md_couples_74 rfl rfl hm (by decide) rfl ?_
          refine r_iinc ok 5 (x3 + 1) [(3, vI (x3 + 1)), (5, vI (x5 + 1)), (6, vI ((s.2 98 ((12 * x1) + x3)) - (s.2 98 ((12 * x2) + x4)))), (0, .ref (F.2.1.1 10)), (1, vI x1), (2, vI x2), (4, vI x4)] d_Md_couples_77 rfl rfl hm (by decide) rfl ?_
          refine r_iinc ok 6 (x4 + 1) [(4, vI (x4 + 1)), (3, vI (x3 + 1)), (5, vI (x5 + 1)), (6, vI ((s.2 98 ((12 * x1) + x3)) - (s.2 98 ((12 * x2) + x4)))), (0, .ref (F.2.1.1 10)), (1, vI x1), (2, vI x2)] d_Md_couples_80 rfl rfl hm (by decide) rfl ?_
          refine r_goto ok 100 d_Md_couples_83 (by decide) ?_
          refine r_goto ok 8 d_Md_couples_100 (by decide) ?_
          exact r_sub [4, 5, 6, 1, 0, 2] rfl h
set_option maxHeartbeats 4000000 in
set_option maxRecDepth 100000 in
theorem K_Md_couples_e {F : FT} (hD : ∀ σ, va_D F.2.2.1 (GW F.2.1 σ)) (hm : F.2.2.2.2.2.2.2.2.2.2.2.2.2.2.1 = 7) (ok : OkF F prog_12_method_70_code "LastSeenModel" ({ frames := 0, cells := 0, slots := 0, locals := 0 } : Room)) {Q : Int → SS → Prop} (hQ : RetI F Q) {x1 x2 : Int} {s : SS} (h : B_Md_couples_e Q (fun x1 x2 x3 x4 x5 s => AtS F 8 [(0, .ref (F.2.1.1 10)), (1, vI x1), (2, vI x2), (3, vI x3), (4, vI x4), (5, vI x5)] [] s) x1 x2 s) : AtS F 0 [(0, .ref (F.2.1.1 10)), (1, vI x1), (2, vI x2)] [] s := by
  unfold B_Md_couples_e at h
  refine r_iconst ok 0 d_Md_couples_0 rfl ?_
  refine r_istore_n ok [(3, vI 0), (0, .ref (F.2.1.1 10)), (1, vI x1), (2, vI x2)] d_Md_couples_1 rfl hm (by decide) rfl ?_
  refine r_iconst ok 0 d_Md_couples_2 rfl ?_
  refine r_istore ok [(4, vI 0), (3, vI 0), (0, .ref (F.2.1.1 10)), (1, vI x1), (2, vI x2)] d_Md_couples_3 hm (by decide) rfl ?_
  refine r_iconst ok 0 d_Md_couples_5 rfl ?_
  refine r_istore ok [(5, vI 0), (4, vI 0), (3, vI 0), (0, .ref (F.2.1.1 10)), (1, vI x1), (2, vI x2)] d_Md_couples_6 hm (by decide) rfl ?_
  exact r_sub [3, 4, 5, 2, 1, 0] rfl h
theorem L_Md_couples (l : Launch) (G : GE) (A : Nat → Prop) (hD : ∀ σ, va_D A (GW G σ)) {x1 x2 : Int} {s : SS} {Q : Int → SS → Prop} (h : Sp_Md_couples x1 x2 s Q) : Met l y_Md_couples (Cond.code y_Md_couples prog_12_method_70_code 7 (some .int) :: lw_ok) ({ frames := 0, cells := 0, slots := 0, locals := 0 } : Room) (va_Pc [.ref (G.1 10), vI x1, vI x2] (gB G s)) (va_Qi (fun (r : Int32) (s2 : SS) => ∃ x : Int, r = iI x ∧ Q x s2) (fun s2 t => gB G s2 t) A) 0 0 A := by
  refine met_i hD (by decide) ⟨rfl, rfl⟩ (Nat.le_of_ble_eq_true rfl) (lv := [(0, .ref (G.1 10)), (1, vI x1), (2, vI x2)]) rfl (fun F h1 h2 h3 hm ok hQ => ?_)
  subst h1 h2 h3
  have hDF := hD
  exact K_Md_couples_e hDF hm ok hQ (h _ (fun _ _ _ _ _ _ hb => K_Md_couples_8 hDF hm ok hQ hb))
theorem d_Md_least_0 : decode prog_12_method_71_code 0 = .ok (.iload_n 1, 1) := by decide +kernel
theorem d_Md_least_1 : decode prog_12_method_71_code 1 = .ok (.i2l, 1) := by decide +kernel
theorem d_Md_least_2 : decode prog_12_method_71_code 2 = .ok (.lconst 0, 1) := by decide +kernel
theorem d_Md_least_3 : decode prog_12_method_71_code 3 = .ok (.ldc2_w 392, 3) := by decide +kernel
theorem d_Md_least_6 : decode prog_12_method_71_code 6 = .ok (.invokestatic 191, 3) := by decide +kernel
theorem d_Md_least_9 : decode prog_12_method_71_code 9 = .ok (.ifCond .ne 5, 3) := by decide +kernel
theorem d_Md_least_12 : decode prog_12_method_71_code 12 = .ok (.iconst (-1), 1) := by decide +kernel
theorem d_Md_least_13 : decode prog_12_method_71_code 13 = .ok (.ireturn, 1) := by decide +kernel
theorem d_Md_least_14 : decode prog_12_method_71_code 14 = .ok (.iconst 0, 1) := by decide +kernel
theorem d_Md_least_15 : decode prog_12_method_71_code 15 = .ok (.istore_n 2, 1) := by decide +kernel
theorem d_Md_least_16 : decode prog_12_method_71_code 16 = .ok (.bipush 8, 2) := by decide +kernel
theorem d_Md_least_18 : decode prog_12_method_71_code 18 = .ok (.iload_n 1, 1) := by decide +kernel
theorem d_Md_least_19 : decode prog_12_method_71_code 19 = .ok (.imul, 1) := by decide +kernel
theorem d_Md_least_20 : decode prog_12_method_71_code 20 = .ok (.istore_n 3, 1) := by decide +kernel
theorem d_Md_least_21 : decode prog_12_method_71_code 21 = .ok (.iload_n 3, 1) := by decide +kernel
theorem d_Md_least_22 : decode prog_12_method_71_code 22 = .ok (.bipush 8, 2) := by decide +kernel
theorem d_Md_least_24 : decode prog_12_method_71_code 24 = .ok (.iload_n 1, 1) := by decide +kernel
theorem d_Md_least_25 : decode prog_12_method_71_code 25 = .ok (.imul, 1) := by decide +kernel
theorem d_Md_least_26 : decode prog_12_method_71_code 26 = .ok (.bipush 8, 2) := by decide +kernel
theorem d_Md_least_28 : decode prog_12_method_71_code 28 = .ok (.iadd, 1) := by decide +kernel
theorem d_Md_least_29 : decode prog_12_method_71_code 29 = .ok (.if_icmp .ge 48, 3) := by decide +kernel
theorem d_Md_least_32 : decode prog_12_method_71_code 32 = .ok (.aload_n 0, 1) := by decide +kernel
theorem d_Md_least_33 : decode prog_12_method_71_code 33 = .ok (.getfield 126, 3) := by decide +kernel
theorem d_Md_least_36 : decode prog_12_method_71_code 36 = .ok (.iload_n 3, 1) := by decide +kernel
theorem d_Md_least_37 : decode prog_12_method_71_code 37 = .ok (.iaload, 1) := by decide +kernel
theorem d_Md_least_38 : decode prog_12_method_71_code 38 = .ok (.aload_n 0, 1) := by decide +kernel
theorem d_Md_least_39 : decode prog_12_method_71_code 39 = .ok (.getfield 126, 3) := by decide +kernel
theorem d_Md_least_42 : decode prog_12_method_71_code 42 = .ok (.iload_n 3, 1) := by decide +kernel
theorem d_Md_least_43 : decode prog_12_method_71_code 43 = .ok (.iconst 1, 1) := by decide +kernel
theorem d_Md_least_44 : decode prog_12_method_71_code 44 = .ok (.iadd, 1) := by decide +kernel
theorem d_Md_least_45 : decode prog_12_method_71_code 45 = .ok (.iaload, 1) := by decide +kernel
theorem d_Md_least_46 : decode prog_12_method_71_code 46 = .ok (.iadd, 1) := by decide +kernel
theorem d_Md_least_47 : decode prog_12_method_71_code 47 = .ok (.aload_n 0, 1) := by decide +kernel
theorem d_Md_least_48 : decode prog_12_method_71_code 48 = .ok (.iload_n 3, 1) := by decide +kernel
theorem d_Md_least_49 : decode prog_12_method_71_code 49 = .ok (.iload_n 3, 1) := by decide +kernel
theorem d_Md_least_50 : decode prog_12_method_71_code 50 = .ok (.iconst 1, 1) := by decide +kernel
theorem d_Md_least_51 : decode prog_12_method_71_code 51 = .ok (.iadd, 1) := by decide +kernel
theorem d_Md_least_52 : decode prog_12_method_71_code 52 = .ok (.invokevirtual 398, 3) := by decide +kernel
theorem d_Md_least_55 : decode prog_12_method_71_code 55 = .ok (.isub, 1) := by decide +kernel
theorem d_Md_least_56 : decode prog_12_method_71_code 56 = .ok (.istore 4, 2) := by decide +kernel
theorem d_Md_least_58 : decode prog_12_method_71_code 58 = .ok (.iload 4, 2) := by decide +kernel
theorem d_Md_least_60 : decode prog_12_method_71_code 60 = .ok (.iload_n 2, 1) := by decide +kernel
theorem d_Md_least_61 : decode prog_12_method_71_code 61 = .ok (.if_icmp .le 8, 3) := by decide +kernel
theorem d_Md_least_64 : decode prog_12_method_71_code 64 = .ok (.iload 4, 2) := by decide +kernel
theorem d_Md_least_66 : decode prog_12_method_71_code 66 = .ok (.goto 4, 3) := by decide +kernel
theorem d_Md_least_69 : decode prog_12_method_71_code 69 = .ok (.iload_n 2, 1) := by decide +kernel
theorem d_Md_least_70 : decode prog_12_method_71_code 70 = .ok (.istore_n 2, 1) := by decide +kernel
theorem d_Md_least_71 : decode prog_12_method_71_code 71 = .ok (.iinc 3 2, 3) := by decide +kernel
theorem d_Md_least_74 : decode prog_12_method_71_code 74 = .ok (.goto (-53), 3) := by decide +kernel
theorem d_Md_least_77 : decode prog_12_method_71_code 77 = .ok (.iload_n 2, 1) := by decide +kernel
theorem d_Md_least_78 : decode prog_12_method_71_code 78 = .ok (.ireturn, 1) := by decide +kernel
set_option maxHeartbeats 4000000 in
set_option maxRecDepth 100000 in
theorem K_Md_least_21 {F : FT} (hD : ∀ σ, va_D F.2.2.1 (GW F.2.1 σ)) (hm : F.2.2.2.2.2.2.2.2.2.2.2.2.2.2.1 = 5) (ok : OkF F prog_12_method_71_code "LastSeenModel" ({ frames := 1, cells := 0, slots := 0, locals := 26 } : Room)) {Q : Int → SS → Prop} (hQ : RetI F Q) {x1 x2 x3 : Int} {s : SS} (h : B_Md_least_21 Q (fun x1 x2 x3 s => AtS F 21 [(0, .ref (F.2.1.1 10)), (1, vI x1), (2, vI x2), (3, vI x3)] [] s) x1 x2 x3 s) : AtS F 21 [(0, .ref (F.2.1.1 10)), (1, vI x1), (2, vI x2), (3, vI x3)] [] s := by
  unfold B_Md_least_21 at h
  refine r_iload_n ok 3 d_Md_least_21 rfl rfl ?_
  refine r_bipush ok 8 d_Md_least_22 (by decide) ?_
  refine r_iload_n ok 1 d_Md_least_24 rfl rfl ?_
  refine r_imul ok d_Md_least_25 ?_
  refine r_bipush ok 8 d_Md_least_26 (by decide) ?_
  refine r_iadd ok d_Md_least_28 ?_
  refine r_icmp_ge ok 77 d_Md_least_29 (by decide) h.1 h.2.1 (fun c => ?_) (fun c => ?_)
  · replace h := h.2.2.1 c
    refine r_iload_n ok 2 d_Md_least_77 rfl rfl ?_
    exact hQ _ _ _ _ _ (ok_code ok) d_Md_least_78 h
  · replace h := h.2.2.2 c
    refine r_aload_n ok 0 d_Md_least_32 rfl rfl ?_
    refine g_Md_boneMany ok d_Md_least_33 ?_
    refine r_iload_n ok 3 d_Md_least_36 rfl rfl ?_
    refine r_iald ok 97 d_Md_least_37 (by decide) rfl h.1 ?_
    replace h := h.2
    refine r_aload_n ok 0 d_Md_least_38 rfl rfl ?_
    refine g_Md_boneMany ok d_Md_least_39 ?_
    refine r_iload_n ok 3 d_Md_least_42 rfl rfl ?_
    refine r_iconst ok 1 d_Md_least_43 rfl ?_
    refine r_iadd ok d_Md_least_44 ?_
    refine r_iald ok 97 d_Md_least_45 (by decide) rfl h.1 ?_
    replace h := h.2
    refine r_iadd ok d_Md_least_46 ?_
    refine r_aload_n ok 0 d_Md_least_47 rfl rfl ?_
    refine r_iload_n ok 3 d_Md_least_48 rfl rfl ?_
    refine r_iload_n ok 3 d_Md_least_49 rfl rfl ?_
    refine r_iconst ok 1 d_Md_least_50 rfl ?_
    refine r_iadd ok d_Md_least_51 ?_
    refine r_callVi (As := [vI x3, vI (x3 + 1)]) (rest := [vI ((s.2 97 x3) + (s.2 97 (x3 + 1)))]) ok 10 rfl rfl rfl wl_Md_398 wi_y_Md_couples ws_y_Md_couples wn_Md wc_y_Md_couples (by decide) (by decide) hh_Md_couples (Nat.le_of_ble_eq_true rfl) rfl d_Md_least_52 (L_Md_couples F.1 F.2.1 F.2.2.1 hD h) (fun r4 s3 h => ?_)
    refine r_isub ok d_Md_least_55 ?_
    refine r_istore ok [(4, vI (((s.2 97 x3) + (s.2 97 (x3 + 1))) - r4)), (0, .ref (F.2.1.1 10)), (1, vI x1), (2, vI x2), (3, vI x3)] d_Md_least_56 hm (by decide) rfl ?_
    refine r_iload ok 0 d_Md_least_58 rfl ?_
    refine r_iload_n ok 3 d_Md_least_60 rfl rfl ?_
    refine r_icmp_le ok 69 d_Md_least_61 (by decide) h.1 h.2.1 (fun c => ?_) (fun c => ?_)
    · replace h := h.2.2.1 c
      refine r_iload_n ok 3 d_Md_least_69 rfl rfl ?_
      refine r_istore_n ok [(2, vI x2), (4, vI (((s.2 97 x3) + (s.2 97 (x3 + 1))) - r4)), (0, .ref (F.2.1.1 10)), (1, vI x1), (3, vI x3)] d_Md_least_70 rfl hm (by decide) rfl ?_
      refine r_iinc ok 4 (x3 + 2) [(3, vI (x3 + 2)), (2, vI x2), (4, vI (((s.2 97 x3) + (s.2 97 (x3 + 1))) - r4)), (0, .ref (F.2.1.1 10)), (1, vI x1)] d_Md_least_71 rfl rfl hm (by decide) rfl ?_
      refine r_goto ok 21 d_Md_least_74 (by decide) ?_
      exact r_sub [3, 4, 1, 0] rfl h
    · replace h := h.2.2.2 c
      refine r_iload ok 0 d_Md_least_64 rfl ?_
      refine r_goto ok 70 d_Md_least_66 (by decide) ?_
      refine r_istore_n ok [(2, vI (((s.2 97 x3) + (s.2 97 (x3 + 1))) - r4)), (4, vI (((s.2 97 x3) + (s.2 97 (x3 + 1))) - r4)), (0, .ref (F.2.1.1 10)), (1, vI x1), (3, vI x3)] d_Md_least_70 rfl hm (by decide) rfl ?_
      refine r_iinc ok 4 (x3 + 2) [(3, vI (x3 + 2)), (2, vI (((s.2 97 x3) + (s.2 97 (x3 + 1))) - r4)), (4, vI (((s.2 97 x3) + (s.2 97 (x3 + 1))) - r4)), (0, .ref (F.2.1.1 10)), (1, vI x1)] d_Md_least_71 rfl rfl hm (by decide) rfl ?_
      refine r_goto ok 21 d_Md_least_74 (by decide) ?_
      exact r_sub [3, 4, 1, 0] rfl h
set_option maxHeartbeats 4000000 in
set_option maxRecDepth 100000 in
theorem K_Md_least_e {F : FT} (hD : ∀ σ, va_D F.2.2.1 (GW F.2.1 σ)) (hm : F.2.2.2.2.2.2.2.2.2.2.2.2.2.2.1 = 5) (ok : OkF F prog_12_method_71_code "LastSeenModel" ({ frames := 1, cells := 0, slots := 0, locals := 26 } : Room)) {Q : Int → SS → Prop} (hQ : RetI F Q) {x1 : Int} {s : SS} (h : B_Md_least_e Q (fun x1 x2 x3 s => AtS F 21 [(0, .ref (F.2.1.1 10)), (1, vI x1), (2, vI x2), (3, vI x3)] [] s) x1 s) : AtS F 0 [(0, .ref (F.2.1.1 10)), (1, vI x1)] [] s := by
  unfold B_Md_least_e at h
  refine r_iload_n ok 1 d_Md_least_0 rfl rfl ?_
  refine r_i2l ok d_Md_least_1 h.1 ?_
  replace h := h.2
  refine r_lconst ok 0 d_Md_least_2 (by decide) ?_
  refine r_ldc2 ok 3 wk_Md_392 d_Md_least_3 (by decide) ?_
  refine r_callSi (As := [vJ x1, vJ 0, vJ 3]) (rest := []) ok wl_Md_191 wt_y_Md_isIn wn_Md wc_y_Md_isIn (by decide) (by decide) hh_Md_isIn (Nat.le_of_ble_eq_true rfl) rfl d_Md_least_6 (L_Md_isIn F.1 F.2.1 F.2.2.1 hD h) (fun r2 s1 h => ?_)
  refine r_if_ne ok 14 d_Md_least_9 (by decide) h.1 (fun c => ?_) (fun c => ?_)
  · replace h := h.2.1 c
    refine r_iconst ok 0 d_Md_least_14 rfl ?_
    refine r_istore_n ok [(2, vI 0), (0, .ref (F.2.1.1 10)), (1, vI x1)] d_Md_least_15 rfl hm (by decide) rfl ?_
    refine r_bipush ok 8 d_Md_least_16 (by decide) ?_
    refine r_iload_n ok 2 d_Md_least_18 rfl rfl ?_
    refine r_imul ok d_Md_least_19 ?_
    refine r_istore_n ok [(3, vI (8 * x1)), (2, vI 0), (0, .ref (F.2.1.1 10)), (1, vI x1)] d_Md_least_20 rfl hm (by decide) rfl ?_
    exact r_sub [2, 3, 1, 0] rfl h
  · replace h := h.2.2 c
    refine r_iconst ok (-1) d_Md_least_12 rfl ?_
    exact hQ _ _ _ _ _ (ok_code ok) d_Md_least_13 h
theorem L_Md_least (l : Launch) (G : GE) (A : Nat → Prop) (hD : ∀ σ, va_D A (GW G σ)) {x1 : Int} {s : SS} {Q : Int → SS → Prop} (h : Sp_Md_least x1 s Q) : Met l y_Md_least (Cond.code y_Md_least prog_12_method_71_code 5 (some .int) :: lw_ok) ({ frames := 1, cells := 0, slots := 0, locals := 26 } : Room) (va_Pc [.ref (G.1 10), vI x1] (gB G s)) (va_Qi (fun (r : Int32) (s2 : SS) => ∃ x : Int, r = iI x ∧ Q x s2) (fun s2 t => gB G s2 t) A) 0 0 A := by
  refine met_i hD (by decide) ⟨rfl, rfl⟩ (Nat.le_of_ble_eq_true rfl) (lv := [(0, .ref (G.1 10)), (1, vI x1)]) rfl (fun F h1 h2 h3 hm ok hQ => ?_)
  subst h1 h2 h3
  have hDF := hD
  exact K_Md_least_e hDF hm ok hQ (h _ (fun _ _ _ _ hb => K_Md_least_21 hDF hm ok hQ hb))
theorem d_Md_isSet_0 : decode prog_12_method_72_code 0 = .ok (.iload_n 1, 1) := by decide +kernel
theorem d_Md_isSet_1 : decode prog_12_method_72_code 1 = .ok (.ifCond .lt 15, 3) := by decide +kernel
theorem d_Md_isSet_4 : decode prog_12_method_72_code 4 = .ok (.iload_n 1, 1) := by decide +kernel
theorem d_Md_isSet_5 : decode prog_12_method_72_code 5 = .ok (.aload_n 0, 1) := by decide +kernel
theorem d_Md_isSet_6 : decode prog_12_method_72_code 6 = .ok (.getfield 401, 3) := by decide +kernel
theorem d_Md_isSet_9 : decode prog_12_method_72_code 9 = .ok (.if_icmp .ge 7, 3) := by decide +kernel
theorem d_Md_isSet_12 : decode prog_12_method_72_code 12 = .ok (.iconst 1, 1) := by decide +kernel
theorem d_Md_isSet_13 : decode prog_12_method_72_code 13 = .ok (.goto 4, 3) := by decide +kernel
theorem d_Md_isSet_16 : decode prog_12_method_72_code 16 = .ok (.iconst 0, 1) := by decide +kernel
theorem d_Md_isSet_17 : decode prog_12_method_72_code 17 = .ok (.ireturn, 1) := by decide +kernel
set_option maxHeartbeats 4000000 in
set_option maxRecDepth 100000 in
theorem K_Md_isSet_e {F : FT} (hD : ∀ σ, va_D F.2.2.1 (GW F.2.1 σ)) (hm : F.2.2.2.2.2.2.2.2.2.2.2.2.2.2.1 = 2) (ok : OkF F prog_12_method_72_code "LastSeenModel" ({ frames := 0, cells := 0, slots := 0, locals := 0 } : Room)) {Q : Int → SS → Prop} (hQ : RetZ F Q) {x1 : Int} {s : SS} (h : Sp_Md_isSet x1 s Q) : AtS F 0 [(0, .ref (F.2.1.1 10)), (1, vI x1)] [] s := by
  unfold Sp_Md_isSet at h
  refine r_iload_n ok 1 d_Md_isSet_0 rfl rfl ?_
  refine r_if_lt ok 16 d_Md_isSet_1 (by decide) h.1 (fun c => ?_) (fun c => ?_)
  · replace h := h.2.1 c
    refine r_iconst ok 0 d_Md_isSet_16 rfl ?_
    exact hQ _ _ _ _ _ (ok_code ok) d_Md_isSet_17 (by decide) h
  · replace h := h.2.2 c
    refine r_iload_n ok 1 d_Md_isSet_4 rfl rfl ?_
    refine r_aload_n ok 0 d_Md_isSet_5 rfl rfl ?_
    refine g_Md_sets ok d_Md_isSet_6 ?_
    refine r_icmp_ge ok 16 d_Md_isSet_9 (by decide) h.1 h.2.1 (fun c => ?_) (fun c => ?_)
    · replace h := h.2.2.1 c
      refine r_iconst ok 0 d_Md_isSet_16 rfl ?_
      exact hQ _ _ _ _ _ (ok_code ok) d_Md_isSet_17 (by decide) h
    · replace h := h.2.2.2 c
      refine r_iconst ok 1 d_Md_isSet_12 rfl ?_
      refine r_goto ok 17 d_Md_isSet_13 (by decide) ?_
      exact hQ _ _ _ _ _ (ok_code ok) d_Md_isSet_17 (by decide) h
theorem L_Md_isSet (l : Launch) (G : GE) (A : Nat → Prop) (hD : ∀ σ, va_D A (GW G σ)) {x1 : Int} {s : SS} {Q : Int → SS → Prop} (h : Sp_Md_isSet x1 s Q) : Met l y_Md_isSet (Cond.code y_Md_isSet prog_12_method_72_code 2 (some .boolean) :: lw_ok) ({ frames := 0, cells := 0, slots := 0, locals := 0 } : Room) (va_Pc [.ref (G.1 10), vI x1] (gB G s)) (va_Qi (fun (r : Int32) (s2 : SS) => ∃ x : Int, r = iI x ∧ Q x s2) (fun s2 t => gB G s2 t) A) 0 0 A := by
  refine met_z hD (by decide) ⟨rfl, rfl⟩ (Nat.le_of_ble_eq_true rfl) (lv := [(0, .ref (G.1 10)), (1, vI x1)]) rfl (fun F h1 h2 h3 hm ok hQ => ?_)
  subst h1 h2 h3
  have hDF := hD
  exact K_Md_isSet_e hDF hm ok hQ h
theorem d_Md_areMarks_0 : decode prog_12_method_73_code 0 = .ok (.iload_n 0, 1) := by decide +kernel
theorem d_Md_areMarks_1 : decode prog_12_method_73_code 1 = .ok (.i2l, 1) := by decide +kernel
theorem d_Md_areMarks_2 : decode prog_12_method_73_code 2 = .ok (.lconst 0, 1) := by decide +kernel
theorem d_Md_areMarks_3 : decode prog_12_method_73_code 3 = .ok (.ldc2_w 208, 3) := by decide +kernel
theorem d_Md_areMarks_6 : decode prog_12_method_73_code 6 = .ok (.invokestatic 191, 3) := by decide +kernel
theorem d_Md_areMarks_9 : decode prog_12_method_73_code 9 = .ok (.ifCond .eq 25, 3) := by decide +kernel
theorem d_Md_areMarks_12 : decode prog_12_method_73_code 12 = .ok (.iload_n 1, 1) := by decide +kernel
theorem d_Md_areMarks_13 : decode prog_12_method_73_code 13 = .ok (.i2l, 1) := by decide +kernel
theorem d_Md_areMarks_14 : decode prog_12_method_73_code 14 = .ok (.lconst 0, 1) := by decide +kernel
theorem d_Md_areMarks_15 : decode prog_12_method_73_code 15 = .ok (.ldc2_w 208, 3) := by decide +kernel
theorem d_Md_areMarks_18 : decode prog_12_method_73_code 18 = .ok (.invokestatic 191, 3) := by decide +kernel
theorem d_Md_areMarks_21 : decode prog_12_method_73_code 21 = .ok (.ifCond .eq 13, 3) := by decide +kernel
theorem d_Md_areMarks_24 : decode prog_12_method_73_code 24 = .ok (.iload_n 0, 1) := by decide +kernel
theorem d_Md_areMarks_25 : decode prog_12_method_73_code 25 = .ok (.iload_n 1, 1) := by decide +kernel
theorem d_Md_areMarks_26 : decode prog_12_method_73_code 26 = .ok (.iand, 1) := by decide +kernel
theorem d_Md_areMarks_27 : decode prog_12_method_73_code 27 = .ok (.ifCond .ne 7, 3) := by decide +kernel
theorem d_Md_areMarks_30 : decode prog_12_method_73_code 30 = .ok (.iconst 1, 1) := by decide +kernel
theorem d_Md_areMarks_31 : decode prog_12_method_73_code 31 = .ok (.goto 4, 3) := by decide +kernel
theorem d_Md_areMarks_34 : decode prog_12_method_73_code 34 = .ok (.iconst 0, 1) := by decide +kernel
theorem d_Md_areMarks_35 : decode prog_12_method_73_code 35 = .ok (.ireturn, 1) := by decide +kernel
set_option maxHeartbeats 4000000 in
set_option maxRecDepth 100000 in
theorem K_Md_areMarks_e {F : FT} (hD : ∀ σ, va_D F.2.2.1 (GW F.2.1 σ)) (hm : F.2.2.2.2.2.2.2.2.2.2.2.2.2.2.1 = 2) (ok : OkF F prog_12_method_73_code "LastSeenModel" ({ frames := 1, cells := 0, slots := 0, locals := 25 } : Room)) {Q : Int → SS → Prop} (hQ : RetZ F Q) {x0 x1 : Int} {s : SS} (h : Sp_Md_areMarks x0 x1 s Q) : AtS F 0 [(0, vI x0), (1, vI x1)] [] s := by
  unfold Sp_Md_areMarks at h
  refine r_iload_n ok 0 d_Md_areMarks_0 rfl rfl ?_
  refine r_i2l ok d_Md_areMarks_1 h.1 ?_
  replace h := h.2
  refine r_lconst ok 0 d_Md_areMarks_2 (by decide) ?_
  refine r_ldc2 ok 255 wk_Md_208 d_Md_areMarks_3 (by decide) ?_
  refine r_callSi (As := [vJ x0, vJ 0, vJ 255]) (rest := []) ok wl_Md_191 wt_y_Md_isIn wn_Md wc_y_Md_isIn (by decide) (by decide) hh_Md_isIn (Nat.le_of_ble_eq_true rfl) rfl d_Md_areMarks_6 (L_Md_isIn F.1 F.2.1 F.2.2.1 hD h) (fun r2 s1 h => ?_)
  refine r_if_eq ok 34 d_Md_areMarks_9 (by decide) h.1 (fun c => ?_) (fun c => ?_)
  · replace h := h.2.1 c
    refine r_iconst ok 0 d_Md_areMarks_34 rfl ?_
    exact hQ _ _ _ _ _ (ok_code ok) d_Md_areMarks_35 (by decide) h
  · replace h := h.2.2 c
    refine r_iload_n ok 1 d_Md_areMarks_12 rfl rfl ?_
    refine r_i2l ok d_Md_areMarks_13 h.1 ?_
    replace h := h.2
    refine r_lconst ok 0 d_Md_areMarks_14 (by decide) ?_
    refine r_ldc2 ok 255 wk_Md_208 d_Md_areMarks_15 (by decide) ?_
    refine r_callSi (As := [vJ x1, vJ 0, vJ 255]) (rest := []) ok wl_Md_191 wt_y_Md_isIn wn_Md wc_y_Md_isIn (by decide) (by decide) hh_Md_isIn (Nat.le_of_ble_eq_true rfl) rfl d_Md_areMarks_18 (L_Md_isIn F.1 F.2.1 F.2.2.1 hD h) (fun r4 s3 h => ?_)
    refine r_if_eq ok 34 d_Md_areMarks_21 (by decide) h.1 (fun c => ?_) (fun c => ?_)
    · replace h := h.2.1 c
      refine r_iconst ok 0 d_Md_areMarks_34 rfl ?_
      exact hQ _ _ _ _ _ (ok_code ok) d_Md_areMarks_35 (by decide) h
    · replace h := h.2.2 c
      refine r_iload_n ok 0 d_Md_areMarks_24 rfl rfl ?_
      refine r_iload_n ok 1 d_Md_areMarks_25 rfl rfl ?_
      refine r_iand ok d_Md_areMarks_26 ?_
      refine r_if_ne ok 34 d_Md_areMarks_27 (by decide) h.1 (fun c => ?_) (fun c => ?_)
      · replace h := h.2.1 c
        refine r_iconst ok 0 d_Md_areMarks_34 rfl ?_
        exact hQ _ _ _ _ _ (ok_code ok) d_Md_areMarks_35 (by decide) h
      · replace h := h.2.2 c
        refine r_iconst ok 1 d_Md_areMarks_30 rfl ?_
        refine r_goto ok 35 d_Md_areMarks_31 (by decide) ?_
        exact hQ _ _ _ _ _ (ok_code ok) d_Md_areMarks_35 (by decide) h
theorem L_Md_areMarks (l : Launch) (G : GE) (A : Nat → Prop) (hD : ∀ σ, va_D A (GW G σ)) {x0 x1 : Int} {s : SS} {Q : Int → SS → Prop} (h : Sp_Md_areMarks x0 x1 s Q) : Met l y_Md_areMarks (Cond.code y_Md_areMarks prog_12_method_73_code 2 (some .boolean) :: lw_ok) ({ frames := 1, cells := 0, slots := 0, locals := 25 } : Room) (va_Pc [vI x0, vI x1] (gB G s)) (va_Qi (fun (r : Int32) (s2 : SS) => ∃ x : Int, r = iI x ∧ Q x s2) (fun s2 t => gB G s2 t) A) 0 0 A := by
  refine met_z hD (by decide) ⟨rfl, rfl⟩ (Nat.le_of_ble_eq_true rfl) (lv := [(0, vI x0), (1, vI x1)]) rfl (fun F h1 h2 h3 hm ok hQ => ?_)
  subst h1 h2 h3
  have hDF := hD
  exact K_Md_areMarks_e hDF hm ok hQ h
theorem d_Md_set_0 : decode prog_12_method_74_code 0 = .ok (.iload_n 1, 1) := by decide +kernel
theorem d_Md_set_1 : decode prog_12_method_74_code 1 = .ok (.i2l, 1) := by decide +kernel
theorem d_Md_set_2 : decode prog_12_method_74_code 2 = .ok (.lconst 0, 1) := by decide +kernel
theorem d_Md_set_3 : decode prog_12_method_74_code 3 = .ok (.ldc2_w 392, 3) := by decide +kernel
theorem d_Md_set_6 : decode prog_12_method_74_code 6 = .ok (.invokestatic 191, 3) := by decide +kernel
theorem d_Md_set_9 : decode prog_12_method_74_code 9 = .ok (.ifCond .ne 5, 3) := by decide +kernel
theorem d_Md_set_12 : decode prog_12_method_74_code 12 = .ok (.iconst (-1), 1) := by decide +kernel
theorem d_Md_set_13 : decode prog_12_method_74_code 13 = .ok (.ireturn, 1) := by decide +kernel
theorem d_Md_set_14 : decode prog_12_method_74_code 14 = .ok (.iload_n 2, 1) := by decide +kernel
theorem d_Md_set_15 : decode prog_12_method_74_code 15 = .ok (.i2l, 1) := by decide +kernel
theorem d_Md_set_16 : decode prog_12_method_74_code 16 = .ok (.ldc2_w 404, 3) := by decide +kernel
theorem d_Md_set_19 : decode prog_12_method_74_code 19 = .ok (.ldc2_w 406, 3) := by decide +kernel
theorem d_Md_set_22 : decode prog_12_method_74_code 22 = .ok (.invokestatic 191, 3) := by decide +kernel
theorem d_Md_set_25 : decode prog_12_method_74_code 25 = .ok (.ifCond .eq 26, 3) := by decide +kernel
theorem d_Md_set_28 : decode prog_12_method_74_code 28 = .ok (.iload_n 3, 1) := by decide +kernel
theorem d_Md_set_29 : decode prog_12_method_74_code 29 = .ok (.i2l, 1) := by decide +kernel
theorem d_Md_set_30 : decode prog_12_method_74_code 30 = .ok (.iload_n 2, 1) := by decide +kernel
theorem d_Md_set_31 : decode prog_12_method_74_code 31 = .ok (.i2l, 1) := by decide +kernel
theorem d_Md_set_32 : decode prog_12_method_74_code 32 = .ok (.ldc2_w 406, 3) := by decide +kernel
theorem d_Md_set_35 : decode prog_12_method_74_code 35 = .ok (.invokestatic 191, 3) := by decide +kernel
theorem d_Md_set_38 : decode prog_12_method_74_code 38 = .ok (.ifCond .eq 13, 3) := by decide +kernel
theorem d_Md_set_41 : decode prog_12_method_74_code 41 = .ok (.iload 4, 2) := by decide +kernel
theorem d_Md_set_43 : decode prog_12_method_74_code 43 = .ok (.iload 5, 2) := by decide +kernel
theorem d_Md_set_45 : decode prog_12_method_74_code 45 = .ok (.invokestatic 408, 3) := by decide +kernel
theorem d_Md_set_48 : decode prog_12_method_74_code 48 = .ok (.ifCond .ne 6, 3) := by decide +kernel
theorem d_Md_set_51 : decode prog_12_method_74_code 51 = .ok (.bipush (-2), 2) := by decide +kernel
theorem d_Md_set_53 : decode prog_12_method_74_code 53 = .ok (.ireturn, 1) := by decide +kernel
theorem d_Md_set_54 : decode prog_12_method_74_code 54 = .ok (.aload_n 0, 1) := by decide +kernel
theorem d_Md_set_55 : decode prog_12_method_74_code 55 = .ok (.getfield 401, 3) := by decide +kernel
theorem d_Md_set_58 : decode prog_12_method_74_code 58 = .ok (.bipush 8, 2) := by decide +kernel
theorem d_Md_set_60 : decode prog_12_method_74_code 60 = .ok (.if_icmp .ne 6, 3) := by decide +kernel
theorem d_Md_set_63 : decode prog_12_method_74_code 63 = .ok (.bipush (-4), 2) := by decide +kernel
theorem d_Md_set_65 : decode prog_12_method_74_code 65 = .ok (.ireturn, 1) := by decide +kernel
theorem d_Md_set_66 : decode prog_12_method_74_code 66 = .ok (.aload_n 0, 1) := by decide +kernel
theorem d_Md_set_67 : decode prog_12_method_74_code 67 = .ok (.getfield 136, 3) := by decide +kernel
theorem d_Md_set_70 : decode prog_12_method_74_code 70 = .ok (.aload_n 0, 1) := by decide +kernel
theorem d_Md_set_71 : decode prog_12_method_74_code 71 = .ok (.getfield 401, 3) := by decide +kernel
theorem d_Md_set_74 : decode prog_12_method_74_code 74 = .ok (.iload_n 1, 1) := by decide +kernel
theorem d_Md_set_75 : decode prog_12_method_74_code 75 = .ok (.iastore, 1) := by decide +kernel
theorem d_Md_set_76 : decode prog_12_method_74_code 76 = .ok (.aload_n 0, 1) := by decide +kernel
theorem d_Md_set_77 : decode prog_12_method_74_code 77 = .ok (.getfield 139, 3) := by decide +kernel
theorem d_Md_set_80 : decode prog_12_method_74_code 80 = .ok (.aload_n 0, 1) := by decide +kernel
theorem d_Md_set_81 : decode prog_12_method_74_code 81 = .ok (.getfield 401, 3) := by decide +kernel
theorem d_Md_set_84 : decode prog_12_method_74_code 84 = .ok (.iload_n 2, 1) := by decide +kernel
theorem d_Md_set_85 : decode prog_12_method_74_code 85 = .ok (.iastore, 1) := by decide +kernel
theorem d_Md_set_86 : decode prog_12_method_74_code 86 = .ok (.aload_n 0, 1) := by decide +kernel
theorem d_Md_set_87 : decode prog_12_method_74_code 87 = .ok (.getfield 142, 3) := by decide +kernel
theorem d_Md_set_90 : decode prog_12_method_74_code 90 = .ok (.aload_n 0, 1) := by decide +kernel
theorem d_Md_set_91 : decode prog_12_method_74_code 91 = .ok (.getfield 401, 3) := by decide +kernel
theorem d_Md_set_94 : decode prog_12_method_74_code 94 = .ok (.iload_n 3, 1) := by decide +kernel
theorem d_Md_set_95 : decode prog_12_method_74_code 95 = .ok (.iastore, 1) := by decide +kernel
theorem d_Md_set_96 : decode prog_12_method_74_code 96 = .ok (.aload_n 0, 1) := by decide +kernel
theorem d_Md_set_97 : decode prog_12_method_74_code 97 = .ok (.getfield 145, 3) := by decide +kernel
theorem d_Md_set_100 : decode prog_12_method_74_code 100 = .ok (.aload_n 0, 1) := by decide +kernel
theorem d_Md_set_101 : decode prog_12_method_74_code 101 = .ok (.getfield 401, 3) := by decide +kernel
theorem d_Md_set_104 : decode prog_12_method_74_code 104 = .ok (.iload 4, 2) := by decide +kernel
theorem d_Md_set_106 : decode prog_12_method_74_code 106 = .ok (.iastore, 1) := by decide +kernel
theorem d_Md_set_107 : decode prog_12_method_74_code 107 = .ok (.aload_n 0, 1) := by decide +kernel
theorem d_Md_set_108 : decode prog_12_method_74_code 108 = .ok (.getfield 148, 3) := by decide +kernel
theorem d_Md_set_111 : decode prog_12_method_74_code 111 = .ok (.aload_n 0, 1) := by decide +kernel
theorem d_Md_set_112 : decode prog_12_method_74_code 112 = .ok (.getfield 401, 3) := by decide +kernel
theorem d_Md_set_115 : decode prog_12_method_74_code 115 = .ok (.iload 5, 2) := by decide +kernel
theorem d_Md_set_117 : decode prog_12_method_74_code 117 = .ok (.iastore, 1) := by decide +kernel
theorem d_Md_set_118 : decode prog_12_method_74_code 118 = .ok (.aload_n 0, 1) := by decide +kernel
theorem d_Md_set_119 : decode prog_12_method_74_code 119 = .ok (.dup, 1) := by decide +kernel
theorem d_Md_set_120 : decode prog_12_method_74_code 120 = .ok (.getfield 401, 3) := by decide +kernel
theorem d_Md_set_123 : decode prog_12_method_74_code 123 = .ok (.iconst 1, 1) := by decide +kernel
theorem d_Md_set_124 : decode prog_12_method_74_code 124 = .ok (.iadd, 1) := by decide +kernel
theorem d_Md_set_125 : decode prog_12_method_74_code 125 = .ok (.putfield 401, 3) := by decide +kernel
theorem d_Md_set_128 : decode prog_12_method_74_code 128 = .ok (.aload_n 0, 1) := by decide +kernel
theorem d_Md_set_129 : decode prog_12_method_74_code 129 = .ok (.getfield 401, 3) := by decide +kernel
theorem d_Md_set_132 : decode prog_12_method_74_code 132 = .ok (.iconst 1, 1) := by decide +kernel
theorem d_Md_set_133 : decode prog_12_method_74_code 133 = .ok (.isub, 1) := by decide +kernel
theorem d_Md_set_134 : decode prog_12_method_74_code 134 = .ok (.ireturn, 1) := by decide +kernel
set_option maxHeartbeats 4000000 in
set_option maxRecDepth 100000 in
theorem K_Md_set_e {F : FT} (hD : ∀ σ, va_D F.2.2.1 (GW F.2.1 σ)) (hm : F.2.2.2.2.2.2.2.2.2.2.2.2.2.2.1 = 6) (ok : OkF F prog_12_method_74_code "LastSeenModel" ({ frames := 2, cells := 0, slots := 0, locals := 46 } : Room)) {Q : Int → SS → Prop} (hQ : RetI F Q) {x1 x2 x3 x4 x5 : Int} {s : SS} (h : Sp_Md_set x1 x2 x3 x4 x5 s Q) : AtS F 0 [(0, .ref (F.2.1.1 10)), (1, vI x1), (2, vI x2), (3, vI x3), (4, vI x4), (5, vI x5)] [] s := by
  unfold Sp_Md_set at h
  refine r_iload_n ok 1 d_Md_set_0 rfl rfl ?_
  refine r_i2l ok d_Md_set_1 h.1 ?_
  replace h := h.2
  refine r_lconst ok 0 d_Md_set_2 (by decide) ?_
  refine r_ldc2 ok 3 wk_Md_392 d_Md_set_3 (by decide) ?_
  refine r_callSi (As := [vJ x1, vJ 0, vJ 3]) (rest := []) ok wl_Md_191 wt_y_Md_isIn wn_Md wc_y_Md_isIn (by decide) (by decide) hh_Md_isIn (Nat.le_of_ble_eq_true rfl) rfl d_Md_set_6 (L_Md_isIn F.1 F.2.1 F.2.2.1 hD h) (fun r2 s1 h => ?_)
  refine r_if_ne ok 14 d_Md_set_9 (by decide) h.1 (fun c => ?_) (fun c => ?_)
  · replace h := h.2.1 c
    refine r_iload_n ok 2 d_Md_set_14 rfl rfl ?_
    refine r_i2l ok d_Md_set_15 h.1 ?_
    replace h := h.2
    refine r_ldc2 ok 100 wk_Md_404 d_Md_set_16 (by decide) ?_
    refine r_ldc2 ok 220 wk_Md_406 d_Md_set_19 (by decide) ?_
    refine r_callSi (As := [vJ x2, vJ 100, vJ 220]) (rest := []) ok wl_Md_191 wt_y_Md_isIn wn_Md wc_y_Md_isIn (by decide) (by decide) hh_Md_isIn (Nat.le_of_ble_eq_true rfl) rfl d_Md_set_22 (L_Md_isIn F.1 F.2.1 F.2.2.1 hD h) (fun r4 s3 h => ?_)
    refine r_if_eq ok 51 d_Md_set_25 (by decide) h.1 (fun c => ?_) (fun c => ?_)
    · replace h := h.2.1 c
      refine r_bipush ok (-2) d_Md_set_51 (by decide) ?_
      exact hQ _ _ _ _ _ (ok_code ok) d_Md_set_53 h
    · replace h := h.2.2 c
      refine r_iload_n ok 3 d_Md_set_28 rfl rfl ?_
      refine r_i2l ok d_Md_set_29 h.1 ?_
      replace h := h.2
      refine r_iload_n ok 2 d_Md_set_30 rfl rfl ?_
      refine r_i2l ok d_Md_set_31 h.1 ?_
      replace h := h.2
      refine r_ldc2 ok 220 wk_Md_406 d_Md_set_32 (by decide) ?_
      refine r_callSi (As := [vJ x3, vJ x2, vJ 220]) (rest := []) ok wl_Md_191 wt_y_Md_isIn wn_Md wc_y_Md_isIn (by decide) (by decide) hh_Md_isIn (Nat.le_of_ble_eq_true rfl) rfl d_Md_set_35 (L_Md_isIn F.1 F.2.1 F.2.2.1 hD h) (fun r6 s5 h => ?_)
      refine r_if_eq ok 51 d_Md_set_38 (by decide) h.1 (fun c => ?_) (fun c => ?_)
      · replace h := h.2.1 c
        refine r_bipush ok (-2) d_Md_set_51 (by decide) ?_
        exact hQ _ _ _ _ _ (ok_code ok) d_Md_set_53 h
      · replace h := h.2.2 c
        refine r_iload ok 4 d_Md_set_41 rfl ?_
        refine r_iload ok 5 d_Md_set_43 rfl ?_
        refine r_callSi (As := [vI x4, vI x5]) (rest := []) ok wl_Md_408 wt_y_Md_areMarks wn_Md wc_y_Md_areMarks (by decide) (by decide) hh_Md_areMarks (Nat.le_of_ble_eq_true rfl) rfl d_Md_set_45 (L_Md_areMarks F.1 F.2.1 F.2.2.1 hD h) (fun r8 s7 h => ?_)
        refine r_if_ne ok 54 d_Md_set_48 (by decide) h.1 (fun c => ?_) (fun c => ?_)
        · replace h := h.2.1 c
          refine r_aload_n ok 0 d_Md_set_54 rfl rfl ?_
          refine g_Md_sets ok d_Md_set_55 ?_
          refine r_bipush ok 8 d_Md_set_58 (by decide) ?_
          refine r_icmp_ne ok 66 d_Md_set_60 (by decide) h.1 (by decide) (fun c => ?_) (fun c => ?_)
          · replace h := h.2.1 c
            refine r_aload_n ok 0 d_Md_set_66 rfl rfl ?_
            refine g_Md_setGrave ok d_Md_set_67 ?_
            refine r_aload_n ok 0 d_Md_set_70 rfl rfl ?_
            refine g_Md_sets ok d_Md_set_71 ?_
            refine r_iload_n ok 1 d_Md_set_74 rfl rfl ?_
            refine r_iast ok 99 d_Md_set_75 (by decide) rfl h.1 ?_
            replace h := h.2 _ rfl
            generalize sA s7 99 (s7.1 46) x1 = s9 at h ⊢
            refine r_aload_n ok 0 d_Md_set_76 rfl rfl ?_
            refine g_Md_low ok d_Md_set_77 ?_
            refine r_aload_n ok 0 d_Md_set_80 rfl rfl ?_
            refine g_Md_sets ok d_Md_set_81 ?_
            refine r_iload_n ok 2 d_Md_set_84 rfl rfl ?_
            refine r_iast ok 100 d_Md_set_85 (by decide) rfl h.1 ?_
            replace h := h.2 _ rfl
            generalize sA s9 100 (s9.1 46) x2 = s10 at h ⊢
            refine r_aload_n ok 0 d_Md_set_86 rfl rfl ?_
            refine g_Md_high ok d_Md_set_87 ?_
            refine r_aload_n ok 0 d_Md_set_90 rfl rfl ?_
            refine g_Md_sets ok d_Md_set_91 ?_
            refine r_iload_n ok 3 d_Md_set_94 rfl rfl ?_
            refine r_iast ok 101 d_Md_set_95 (by decide) rfl h.1 ?_
            replace h := h.2 _ rfl
            generalize sA s10 101 (s10.1 46) x3 = s11 at h ⊢
            refine r_aload_n ok 0 d_Md_set_96 rfl rfl ?_
            refine g_Md_has ok d_Md_set_97 ?_
            refine r_aload_n ok 0 d_Md_set_100 rfl rfl ?_
            refine g_Md_sets ok d_Md_set_101 ?_
            refine r_iload ok 4 d_Md_set_104 rfl ?_
            refine r_iast ok 102 d_Md_set_106 (by decide) rfl h.1 ?_
            replace h := h.2 _ rfl
            generalize sA s11 102 (s11.1 46) x4 = s12 at h ⊢
            refine r_aload_n ok 0 d_Md_set_107 rfl rfl ?_
            refine g_Md_hasNot ok d_Md_set_108 ?_
            refine r_aload_n ok 0 d_Md_set_111 rfl rfl ?_
            refine g_Md_sets ok d_Md_set_112 ?_
            refine r_iload ok 5 d_Md_set_115 rfl ?_
            refine r_iast ok 103 d_Md_set_117 (by decide) rfl h.1 ?_
            replace h := h.2 _ rfl
            generalize sA s12 103 (s12.1 46) x5 = s13 at h ⊢
            refine r_aload_n ok 0 d_Md_set_118 rfl rfl ?_
            refine r_dup ok d_Md_set_119 rfl ?_
            refine g_Md_sets ok d_Md_set_120 ?_
            refine r_iconst ok 1 d_Md_set_123 rfl ?_
            refine r_iadd ok d_Md_set_124 ?_
            refine p_Md_sets ok d_Md_set_125 ?_
            replace h := h _ rfl
            generalize sF s13 46 ((s13.1 46) + 1) = s14 at h ⊢
            refine r_aload_n ok 0 d_Md_set_128 rfl rfl ?_
            refine g_Md_sets ok d_Md_set_129 ?_
            refine r_iconst ok 1 d_Md_set_132 rfl ?_
            refine r_isub ok d_Md_set_133 ?_
            exact hQ _ _ _ _ _ (ok_code ok) d_Md_set_134 h
          · replace h := h.2.2 c
            refine r_bipush ok (-4) d_Md_set_63 (by decide) ?_
            exact hQ _ _ _ _ _ (ok_code ok) d_Md_set_65 h
        · replace h := h.2.2 c
          refine r_bipush ok (-2) d_Md_set_51 (by decide) ?_
          exact hQ _ _ _ _ _ (ok_code ok) d_Md_set_53 h
  · replace h := h.2.2 c
    refine r_iconst ok (-1) d_Md_set_12 rfl ?_
    exact hQ _ _ _ _ _ (ok_code ok) d_Md_set_13 h
theorem L_Md_set (l : Launch) (G : GE) (A : Nat → Prop) (hD : ∀ σ, va_D A (GW G σ)) {x1 x2 x3 x4 x5 : Int} {s : SS} {Q : Int → SS → Prop} (h : Sp_Md_set x1 x2 x3 x4 x5 s Q) : Met l y_Md_set (Cond.code y_Md_set prog_12_method_74_code 6 (some .int) :: lw_ok) ({ frames := 2, cells := 0, slots := 0, locals := 46 } : Room) (va_Pc [.ref (G.1 10), vI x1, vI x2, vI x3, vI x4, vI x5] (gB G s)) (va_Qi (fun (r : Int32) (s2 : SS) => ∃ x : Int, r = iI x ∧ Q x s2) (fun s2 t => gB G s2 t) A) 0 0 A := by
  refine met_i hD (by decide) ⟨rfl, rfl⟩ (Nat.le_of_ble_eq_true rfl) (lv := [(0, .ref (G.1 10)), (1, vI x1), (2, vI x2), (3, vI x3), (4, vI x4), (5, vI x5)]) rfl (fun F h1 h2 h3 hm ok hQ => ?_)
  subst h1 h2 h3
  have hDF := hD
  exact K_Md_set_e hDF hm ok hQ h
theorem d_Md_missingOf_0 : decode prog_12_method_75_code 0 = .ok (.iconst 0, 1) := by decide +kernel
theorem d_Md_missingOf_1 : decode prog_12_method_75_code 1 = .ok (.istore_n 2, 1) := by decide +kernel
theorem d_Md_missingOf_2 : decode prog_12_method_75_code 2 = .ok (.iload_n 2, 1) := by decide +kernel
theorem d_Md_missingOf_3 : decode prog_12_method_75_code 3 = .ok (.aload_n 0, 1) := by decide +kernel
theorem d_Md_missingOf_4 : decode prog_12_method_75_code 4 = .ok (.getfield 411, 3) := by decide +kernel
theorem d_Md_missingOf_7 : decode prog_12_method_75_code 7 = .ok (.if_icmp .ge 21, 3) := by decide +kernel
theorem d_Md_missingOf_10 : decode prog_12_method_75_code 10 = .ok (.aload_n 0, 1) := by decide +kernel
theorem d_Md_missingOf_11 : decode prog_12_method_75_code 11 = .ok (.getfield 157, 3) := by decide +kernel
theorem d_Md_missingOf_14 : decode prog_12_method_75_code 14 = .ok (.iload_n 2, 1) := by decide +kernel
theorem d_Md_missingOf_15 : decode prog_12_method_75_code 15 = .ok (.iaload, 1) := by decide +kernel
theorem d_Md_missingOf_16 : decode prog_12_method_75_code 16 = .ok (.iload_n 1, 1) := by decide +kernel
theorem d_Md_missingOf_17 : decode prog_12_method_75_code 17 = .ok (.if_icmp .ne 5, 3) := by decide +kernel
theorem d_Md_missingOf_20 : decode prog_12_method_75_code 20 = .ok (.iload_n 2, 1) := by decide +kernel
theorem d_Md_missingOf_21 : decode prog_12_method_75_code 21 = .ok (.ireturn, 1) := by decide +kernel
theorem d_Md_missingOf_22 : decode prog_12_method_75_code 22 = .ok (.iinc 2 1, 3) := by decide +kernel
theorem d_Md_missingOf_25 : decode prog_12_method_75_code 25 = .ok (.goto (-23), 3) := by decide +kernel
theorem d_Md_missingOf_28 : decode prog_12_method_75_code 28 = .ok (.iconst (-1), 1) := by decide +kernel
theorem d_Md_missingOf_29 : decode prog_12_method_75_code 29 = .ok (.ireturn, 1) := by decide +kernel
set_option maxHeartbeats 4000000 in
set_option maxRecDepth 100000 in
theorem K_Md_missingOf_2 {F : FT} (hD : ∀ σ, va_D F.2.2.1 (GW F.2.1 σ)) (hm : F.2.2.2.2.2.2.2.2.2.2.2.2.2.2.1 = 3) (ok : OkF F prog_12_method_75_code "LastSeenModel" ({ frames := 0, cells := 0, slots := 0, locals := 0 } : Room)) {Q : Int → SS → Prop} (hQ : RetI F Q) {x1 x2 : Int} {s : SS} (h : B_Md_missingOf_2 Q (fun x1 x2 s => AtS F 2 [(0, .ref (F.2.1.1 10)), (1, vI x1), (2, vI x2)] [] s) x1 x2 s) : AtS F 2 [(0, .ref (F.2.1.1 10)), (1, vI x1), (2, vI x2)] [] s := by
  unfold B_Md_missingOf_2 at h
  refine r_iload_n ok 2 d_Md_missingOf_2 rfl rfl ?_
  refine r_aload_n ok 0 d_Md_missingOf_3 rfl rfl ?_
  refine g_Md_missed ok d_Md_missingOf_4 ?_
  refine r_icmp_ge ok 28 d_Md_missingOf_7 (by decide) h.1 h.2.1 (fun c => ?_) (fun c => ?_)
  · replace h := h.2.2.1 c
    refine r_iconst ok (-1) d_Md_missingOf_28 rfl ?_
    exact hQ _ _ _ _ _ (ok_code ok) d_Md_missingOf_29 h
  · replace h := h.2.2.2 c
    refine r_aload_n ok 0 d_Md_missingOf_10 rfl rfl ?_
    refine g_Md_missing ok d_Md_missingOf_11 ?_
    refine r_iload_n ok 2 d_Md_missingOf_14 rfl rfl ?_
    refine r_iald ok 106 d_Md_missingOf_15 (by decide) rfl h.1 ?_
    replace h := h.2
    refine r_iload_n ok 1 d_Md_missingOf_16 rfl rfl ?_
    refine r_icmp_ne ok 22 d_Md_missingOf_17 (by decide) h.1 h.2.1 (fun c => ?_) (fun c => ?_)
    · replace h := h.2.2.1 c
      refine r_iinc ok 2 (x2 + 1) [(2, vI (x2 + 1)), (0, .ref (F.2.1.1 10)), (1, vI x1)] d_Md_missingOf_22 rfl rfl hm (by decide) rfl ?_
      refine r_goto ok 2 d_Md_missingOf_25 (by decide) ?_
      exact r_sub [1, 2, 0] rfl h
    · replace h := h.2.2.2 c
      refine r_iload_n ok 2 d_Md_missingOf_20 rfl rfl ?_
      exact hQ _ _ _ _ _ (ok_code ok) d_Md_missingOf_21 h
set_option maxHeartbeats 4000000 in
set_option maxRecDepth 100000 in
theorem K_Md_missingOf_e {F : FT} (hD : ∀ σ, va_D F.2.2.1 (GW F.2.1 σ)) (hm : F.2.2.2.2.2.2.2.2.2.2.2.2.2.2.1 = 3) (ok : OkF F prog_12_method_75_code "LastSeenModel" ({ frames := 0, cells := 0, slots := 0, locals := 0 } : Room)) {Q : Int → SS → Prop} (hQ : RetI F Q) {x1 : Int} {s : SS} (h : B_Md_missingOf_e Q (fun x1 x2 s => AtS F 2 [(0, .ref (F.2.1.1 10)), (1, vI x1), (2, vI x2)] [] s) x1 s) : AtS F 0 [(0, .ref (F.2.1.1 10)), (1, vI x1)] [] s := by
  unfold B_Md_missingOf_e at h
  refine r_iconst ok 0 d_Md_missingOf_0 rfl ?_
  refine r_istore_n ok [(2, vI 0), (0, .ref (F.2.1.1 10)), (1, vI x1)] d_Md_missingOf_1 rfl hm (by decide) rfl ?_
  exact r_sub [1, 2, 0] rfl h
theorem L_Md_missingOf (l : Launch) (G : GE) (A : Nat → Prop) (hD : ∀ σ, va_D A (GW G σ)) {x1 : Int} {s : SS} {Q : Int → SS → Prop} (h : Sp_Md_missingOf x1 s Q) : Met l y_Md_missingOf (Cond.code y_Md_missingOf prog_12_method_75_code 3 (some .int) :: lw_ok) ({ frames := 0, cells := 0, slots := 0, locals := 0 } : Room) (va_Pc [.ref (G.1 10), vI x1] (gB G s)) (va_Qi (fun (r : Int32) (s2 : SS) => ∃ x : Int, r = iI x ∧ Q x s2) (fun s2 t => gB G s2 t) A) 0 0 A := by
  refine met_i hD (by decide) ⟨rfl, rfl⟩ (Nat.le_of_ble_eq_true rfl) (lv := [(0, .ref (G.1 10)), (1, vI x1)]) rfl (fun F h1 h2 h3 hm ok hQ => ?_)
  subst h1 h2 h3
  have hDF := hD
  exact K_Md_missingOf_e hDF hm ok hQ (h _ (fun _ _ _ hb => K_Md_missingOf_2 hDF hm ok hQ hb))
theorem d_Md_isGiven_0 : decode prog_12_method_76_code 0 = .ok (.iconst 0, 1) := by decide +kernel
theorem d_Md_isGiven_1 : decode prog_12_method_76_code 1 = .ok (.istore_n 2, 1) := by decide +kernel
theorem d_Md_isGiven_2 : decode prog_12_method_76_code 2 = .ok (.iconst 0, 1) := by decide +kernel
theorem d_Md_isGiven_3 : decode prog_12_method_76_code 3 = .ok (.istore_n 3, 1) := by decide +kernel
theorem d_Md_isGiven_4 : decode prog_12_method_76_code 4 = .ok (.iload_n 3, 1) := by decide +kernel
theorem d_Md_isGiven_5 : decode prog_12_method_76_code 5 = .ok (.aload_n 0, 1) := by decide +kernel
theorem d_Md_isGiven_6 : decode prog_12_method_76_code 6 = .ok (.getfield 401, 3) := by decide +kernel
theorem d_Md_isGiven_9 : decode prog_12_method_76_code 9 = .ok (.if_icmp .ge 29, 3) := by decide +kernel
theorem d_Md_isGiven_12 : decode prog_12_method_76_code 12 = .ok (.iload_n 2, 1) := by decide +kernel
theorem d_Md_isGiven_13 : decode prog_12_method_76_code 13 = .ok (.ifCond .ne 13, 3) := by decide +kernel
theorem d_Md_isGiven_16 : decode prog_12_method_76_code 16 = .ok (.aload_n 0, 1) := by decide +kernel
theorem d_Md_isGiven_17 : decode prog_12_method_76_code 17 = .ok (.getfield 151, 3) := by decide +kernel
theorem d_Md_isGiven_20 : decode prog_12_method_76_code 20 = .ok (.iload_n 3, 1) := by decide +kernel
theorem d_Md_isGiven_21 : decode prog_12_method_76_code 21 = .ok (.iaload, 1) := by decide +kernel
theorem d_Md_isGiven_22 : decode prog_12_method_76_code 22 = .ok (.iload_n 1, 1) := by decide +kernel
theorem d_Md_isGiven_23 : decode prog_12_method_76_code 23 = .ok (.if_icmp .ne 7, 3) := by decide +kernel
theorem d_Md_isGiven_26 : decode prog_12_method_76_code 26 = .ok (.iconst 1, 1) := by decide +kernel
theorem d_Md_isGiven_27 : decode prog_12_method_76_code 27 = .ok (.goto 4, 3) := by decide +kernel
theorem d_Md_isGiven_30 : decode prog_12_method_76_code 30 = .ok (.iconst 0, 1) := by decide +kernel
theorem d_Md_isGiven_31 : decode prog_12_method_76_code 31 = .ok (.istore_n 2, 1) := by decide +kernel
theorem d_Md_isGiven_32 : decode prog_12_method_76_code 32 = .ok (.iinc 3 1, 3) := by decide +kernel
theorem d_Md_isGiven_35 : decode prog_12_method_76_code 35 = .ok (.goto (-31), 3) := by decide +kernel
theorem d_Md_isGiven_38 : decode prog_12_method_76_code 38 = .ok (.iload_n 2, 1) := by decide +kernel
theorem d_Md_isGiven_39 : decode prog_12_method_76_code 39 = .ok (.ireturn, 1) := by decide +kernel
set_option maxHeartbeats 4000000 in
set_option maxRecDepth 100000 in
theorem K_Md_isGiven_4 {F : FT} (hD : ∀ σ, va_D F.2.2.1 (GW F.2.1 σ)) (hm : F.2.2.2.2.2.2.2.2.2.2.2.2.2.2.1 = 4) (ok : OkF F prog_12_method_76_code "LastSeenModel" ({ frames := 0, cells := 0, slots := 0, locals := 0 } : Room)) {Q : Int → SS → Prop} (hQ : RetZ F Q) {x1 x2 x3 : Int} {s : SS} (h : B_Md_isGiven_4 Q (fun x1 x2 x3 s => AtS F 4 [(0, .ref (F.2.1.1 10)), (1, vI x1), (2, vI x2), (3, vI x3)] [] s) x1 x2 x3 s) : AtS F 4 [(0, .ref (F.2.1.1 10)), (1, vI x1), (2, vI x2), (3, vI x3)] [] s := by
  unfold B_Md_isGiven_4 at h
  refine r_iload_n ok 3 d_Md_isGiven_4 rfl rfl ?_
  refine r_aload_n ok 0 d_Md_isGiven_5 rfl rfl ?_
  refine g_Md_sets ok d_Md_isGiven_6 ?_
  refine r_icmp_ge ok 38 d_Md_isGiven_9 (by decide) h.1 h.2.1 (fun c => ?_) (fun c => ?_)
  · replace h := h.2.2.1 c
    refine r_iload_n ok 2 d_Md_isGiven_38 rfl rfl ?_
    exact hQ _ _ _ _ _ (ok_code ok) d_Md_isGiven_39 h.1 h.2
  · replace h := h.2.2.2 c
    refine r_iload_n ok 2 d_Md_isGiven_12 rfl rfl ?_
    refine r_if_ne ok 26 d_Md_isGiven_13 (by decide) h.1 (fun c => ?_) (fun c => ?_)
    · replace h := h.2.1 c
      refine r_iconst ok 1 d_Md_isGiven_26 rfl ?_
      refine r_goto ok 31 d_Md_isGiven_27 (by decide) ?_
      refine r_istore_n ok [(2, vI 1), (0, .ref (F.2.1.1 10)), (1, vI x1), (3, vI x3)] d_Md_isGiven_31 rfl hm (by decide) rfl ?_
      refine r_iinc ok 3 (x3 + 1) [(3, vI (x3 + 1)), (2, vI 1), (0, .ref (F.2.1.1 10)), (1, vI x1)] d_Md_isGiven_32 rfl rfl hm (by decide) rfl ?_
      refine r_goto ok 4 d_Md_isGiven_35 (by decide) ?_
      exact r_sub [2, 3, 1, 0] rfl h
    · replace h := h.2.2 c
      refine r_aload_n ok 0 d_Md_isGiven_16 rfl rfl ?_
      refine g_Md_given ok d_Md_isGiven_17 ?_
      refine r_iload_n ok 3 d_Md_isGiven_20 rfl rfl ?_
      refine r_iald ok 104 d_Md_isGiven_21 (by decide) rfl h.1 ?_
      replace h := h.2
      refine r_iload_n ok 1 d_Md_isGiven_22 rfl rfl ?_
      refine r_icmp_ne ok 30 d_Md_isGiven_23 (by decide) h.1 h.2.1 (fun c => ?_) (fun c => ?_)
      · replace h := h.2.2.1 c
        refine r_iconst ok 0 d_Md_isGiven_30 rfl ?_
        refine r_istore_n ok [(2, vI 0), (0, .ref (F.2.1.1 10)), (1, vI x1), (3, vI x3)] d_Md_isGiven_31 rfl hm (by decide) rfl ?_
        refine r_iinc ok 3 (x3 + 1) [(3, vI (x3 + 1)), (2, vI 0), (0, .ref (F.2.1.1 10)), (1, vI x1)] d_Md_isGiven_32 rfl rfl hm (by decide) rfl ?_
        refine r_goto ok 4 d_Md_isGiven_35 (by decide) ?_
        exact r_sub [2, 3, 1, 0] rfl h
      · replace h := h.2.2.2 c
        refine r_iconst ok 1 d_Md_isGiven_26 rfl ?_
        refine r_goto ok 31 d_Md_isGiven_27 (by decide) ?_
        refine r_istore_n ok [(2, vI 1), (0, .ref (F.2.1.1 10)), (1, vI x1), (3, vI x3)] d_Md_isGiven_31 rfl hm (by decide) rfl ?_
        refine r_iinc ok 3 (x3 + 1) [(3, vI (x3 + 1)), (2, vI 1), (0, .ref (F.2.1.1 10)), (1, vI x1)] d_Md_isGiven_32 rfl rfl hm (by decide) rfl ?_
        refine r_goto ok 4 d_Md_isGiven_35 (by decide) ?_
        exact r_sub [2, 3, 1, 0] rfl h
set_option maxHeartbeats 4000000 in
set_option maxRecDepth 100000 in
theorem K_Md_isGiven_e {F : FT} (hD : ∀ σ, va_D F.2.2.1 (GW F.2.1 σ)) (hm : F.2.2.2.2.2.2.2.2.2.2.2.2.2.2.1 = 4) (ok : OkF F prog_12_method_76_code "LastSeenModel" ({ frames := 0, cells := 0, slots := 0, locals := 0 } : Room)) {Q : Int → SS → Prop} (hQ : RetZ F Q) {x1 : Int} {s : SS} (h : B_Md_isGiven_e Q (fun x1 x2 x3 s => AtS F 4 [(0, .ref (F.2.1.1 10)), (1, vI x1), (2, vI x2), (3, vI x3)] [] s) x1 s) : AtS F 0 [(0, .ref (F.2.1.1 10)), (1, vI x1)] [] s := by
  unfold B_Md_isGiven_e at h
  refine r_iconst ok 0 d_Md_isGiven_0 rfl ?_
  refine r_istore_n ok [(2, vI 0), (0, .ref (F.2.1.1 10)), (1, vI x1)] d_Md_isGiven_1 rfl hm (by decide) rfl ?_
  refine r_iconst ok 0 d_Md_isGiven_2 rfl ?_
  refine r_istore_n ok [(3, vI 0), (2, vI 0), (0, .ref (F.2.1.1 10)), (1, vI x1)] d_Md_isGiven_3 rfl hm (by decide) rfl ?_
  exact r_sub [2, 3, 1, 0] rfl h
theorem L_Md_isGiven (l : Launch) (G : GE) (A : Nat → Prop) (hD : ∀ σ, va_D A (GW G σ)) {x1 : Int} {s : SS} {Q : Int → SS → Prop} (h : Sp_Md_isGiven x1 s Q) : Met l y_Md_isGiven (Cond.code y_Md_isGiven prog_12_method_76_code 4 (some .boolean) :: lw_ok) ({ frames := 0, cells := 0, slots := 0, locals := 0 } : Room) (va_Pc [.ref (G.1 10), vI x1] (gB G s)) (va_Qi (fun (r : Int32) (s2 : SS) => ∃ x : Int, r = iI x ∧ Q x s2) (fun s2 t => gB G s2 t) A) 0 0 A := by
  refine met_z hD (by decide) ⟨rfl, rfl⟩ (Nat.le_of_ble_eq_true rfl) (lv := [(0, .ref (G.1 10)), (1, vI x1)]) rfl (fun F h1 h2 h3 hm ok hQ => ?_)
  subst h1 h2 h3
  have hDF := hD
  exact K_Md_isGiven_e hDF hm ok hQ (h _ (fun _ _ _ _ hb => K_Md_isGiven_4 hDF hm ok hQ hb))
theorem d_Md_missing_0 : decode prog_12_method_77_code 0 = .ok (.aload_n 0, 1) := by decide +kernel
theorem d_Md_missing_1 : decode prog_12_method_77_code 1 = .ok (.iload_n 1, 1) := by decide +kernel
theorem d_Md_missing_2 : decode prog_12_method_77_code 2 = .ok (.invokevirtual 237, 3) := by decide +kernel
theorem d_Md_missing_5 : decode prog_12_method_77_code 5 = .ok (.ifCond .ne 5, 3) := by decide +kernel
theorem d_Md_missing_8 : decode prog_12_method_77_code 8 = .ok (.iconst (-1), 1) := by decide +kernel
theorem d_Md_missing_9 : decode prog_12_method_77_code 9 = .ok (.ireturn, 1) := by decide +kernel
theorem d_Md_missing_10 : decode prog_12_method_77_code 10 = .ok (.iload_n 2, 1) := by decide +kernel
theorem d_Md_missing_11 : decode prog_12_method_77_code 11 = .ok (.ifCond .eq 17, 3) := by decide +kernel
theorem d_Md_missing_14 : decode prog_12_method_77_code 14 = .ok (.iload_n 2, 1) := by decide +kernel
theorem d_Md_missing_15 : decode prog_12_method_77_code 15 = .ok (.i2l, 1) := by decide +kernel
theorem d_Md_missing_16 : decode prog_12_method_77_code 16 = .ok (.ldc2_w 404, 3) := by decide +kernel
theorem d_Md_missing_19 : decode prog_12_method_77_code 19 = .ok (.ldc2_w 406, 3) := by decide +kernel
theorem d_Md_missing_22 : decode prog_12_method_77_code 22 = .ok (.invokestatic 191, 3) := by decide +kernel
theorem d_Md_missing_25 : decode prog_12_method_77_code 25 = .ok (.ifCond .eq 12, 3) := by decide +kernel
theorem d_Md_missing_28 : decode prog_12_method_77_code 28 = .ok (.iload_n 3, 1) := by decide +kernel
theorem d_Md_missing_29 : decode prog_12_method_77_code 29 = .ok (.iload 4, 2) := by decide +kernel
theorem d_Md_missing_31 : decode prog_12_method_77_code 31 = .ok (.invokestatic 408, 3) := by decide +kernel
theorem d_Md_missing_34 : decode prog_12_method_77_code 34 = .ok (.ifCond .ne 6, 3) := by decide +kernel
theorem d_Md_missing_37 : decode prog_12_method_77_code 37 = .ok (.bipush (-2), 2) := by decide +kernel
theorem d_Md_missing_39 : decode prog_12_method_77_code 39 = .ok (.ireturn, 1) := by decide +kernel
theorem d_Md_missing_40 : decode prog_12_method_77_code 40 = .ok (.aload_n 0, 1) := by decide +kernel
theorem d_Md_missing_41 : decode prog_12_method_77_code 41 = .ok (.iload_n 1, 1) := by decide +kernel
theorem d_Md_missing_42 : decode prog_12_method_77_code 42 = .ok (.invokevirtual 414, 3) := by decide +kernel
theorem d_Md_missing_45 : decode prog_12_method_77_code 45 = .ok (.ifCond .eq 6, 3) := by decide +kernel
theorem d_Md_missing_48 : decode prog_12_method_77_code 48 = .ok (.bipush (-3), 2) := by decide +kernel
theorem d_Md_missing_50 : decode prog_12_method_77_code 50 = .ok (.ireturn, 1) := by decide +kernel
theorem d_Md_missing_51 : decode prog_12_method_77_code 51 = .ok (.aload_n 0, 1) := by decide +kernel
theorem d_Md_missing_52 : decode prog_12_method_77_code 52 = .ok (.iload_n 1, 1) := by decide +kernel
theorem d_Md_missing_53 : decode prog_12_method_77_code 53 = .ok (.invokevirtual 417, 3) := by decide +kernel
theorem d_Md_missing_56 : decode prog_12_method_77_code 56 = .ok (.istore 5, 2) := by decide +kernel
theorem d_Md_missing_58 : decode prog_12_method_77_code 58 = .ok (.iload 5, 2) := by decide +kernel
theorem d_Md_missing_60 : decode prog_12_method_77_code 60 = .ok (.ifCond .ge 15, 3) := by decide +kernel
theorem d_Md_missing_63 : decode prog_12_method_77_code 63 = .ok (.aload_n 0, 1) := by decide +kernel
theorem d_Md_missing_64 : decode prog_12_method_77_code 64 = .ok (.getfield 411, 3) := by decide +kernel
theorem d_Md_missing_67 : decode prog_12_method_77_code 67 = .ok (.bipush 10, 2) := by decide +kernel
theorem d_Md_missing_69 : decode prog_12_method_77_code 69 = .ok (.if_icmp .ne 6, 3) := by decide +kernel
theorem d_Md_missing_72 : decode prog_12_method_77_code 72 = .ok (.bipush (-4), 2) := by decide +kernel
theorem d_Md_missing_74 : decode prog_12_method_77_code 74 = .ok (.ireturn, 1) := by decide +kernel
theorem d_Md_missing_75 : decode prog_12_method_77_code 75 = .ok (.iload 5, 2) := by decide +kernel
theorem d_Md_missing_77 : decode prog_12_method_77_code 77 = .ok (.ifCond .ge 19, 3) := by decide +kernel
theorem d_Md_missing_80 : decode prog_12_method_77_code 80 = .ok (.aload_n 0, 1) := by decide +kernel
theorem d_Md_missing_81 : decode prog_12_method_77_code 81 = .ok (.getfield 411, 3) := by decide +kernel
theorem d_Md_missing_84 : decode prog_12_method_77_code 84 = .ok (.istore 5, 2) := by decide +kernel
theorem d_Md_missing_86 : decode prog_12_method_77_code 86 = .ok (.aload_n 0, 1) := by decide +kernel
theorem d_Md_missing_87 : decode prog_12_method_77_code 87 = .ok (.dup, 1) := by decide +kernel
theorem d_Md_missing_88 : decode prog_12_method_77_code 88 = .ok (.getfield 411, 3) := by decide +kernel
theorem d_Md_missing_91 : decode prog_12_method_77_code 91 = .ok (.iconst 1, 1) := by decide +kernel
theorem d_Md_missing_92 : decode prog_12_method_77_code 92 = .ok (.iadd, 1) := by decide +kernel
theorem d_Md_missing_93 : decode prog_12_method_77_code 93 = .ok (.putfield 411, 3) := by decide +kernel
theorem d_Md_missing_96 : decode prog_12_method_77_code 96 = .ok (.aload_n 0, 1) := by decide +kernel
theorem d_Md_missing_97 : decode prog_12_method_77_code 97 = .ok (.getfield 157, 3) := by decide +kernel
theorem d_Md_missing_100 : decode prog_12_method_77_code 100 = .ok (.iload 5, 2) := by decide +kernel
theorem d_Md_missing_102 : decode prog_12_method_77_code 102 = .ok (.iload_n 1, 1) := by decide +kernel
theorem d_Md_missing_103 : decode prog_12_method_77_code 103 = .ok (.iastore, 1) := by decide +kernel
theorem d_Md_missing_104 : decode prog_12_method_77_code 104 = .ok (.aload_n 0, 1) := by decide +kernel
theorem d_Md_missing_105 : decode prog_12_method_77_code 105 = .ok (.getfield 160, 3) := by decide +kernel
theorem d_Md_missing_108 : decode prog_12_method_77_code 108 = .ok (.iload 5, 2) := by decide +kernel
theorem d_Md_missing_110 : decode prog_12_method_77_code 110 = .ok (.iload_n 2, 1) := by decide +kernel
theorem d_Md_missing_111 : decode prog_12_method_77_code 111 = .ok (.iastore, 1) := by decide +kernel
theorem d_Md_missing_112 : decode prog_12_method_77_code 112 = .ok (.aload_n 0, 1) := by decide +kernel
theorem d_Md_missing_113 : decode prog_12_method_77_code 113 = .ok (.getfield 163, 3) := by decide +kernel
theorem d_Md_missing_116 : decode prog_12_method_77_code 116 = .ok (.iload 5, 2) := by decide +kernel
theorem d_Md_missing_118 : decode prog_12_method_77_code 118 = .ok (.iload_n 3, 1) := by decide +kernel
theorem d_Md_missing_119 : decode prog_12_method_77_code 119 = .ok (.iastore, 1) := by decide +kernel
theorem d_Md_missing_120 : decode prog_12_method_77_code 120 = .ok (.aload_n 0, 1) := by decide +kernel
theorem d_Md_missing_121 : decode prog_12_method_77_code 121 = .ok (.getfield 166, 3) := by decide +kernel
theorem d_Md_missing_124 : decode prog_12_method_77_code 124 = .ok (.iload 5, 2) := by decide +kernel
theorem d_Md_missing_126 : decode prog_12_method_77_code 126 = .ok (.iload 4, 2) := by decide +kernel
theorem d_Md_missing_128 : decode prog_12_method_77_code 128 = .ok (.iastore, 1) := by decide +kernel
theorem d_Md_missing_129 : decode prog_12_method_77_code 129 = .ok (.aload_n 0, 1) := by decide +kernel
theorem d_Md_missing_130 : decode prog_12_method_77_code 130 = .ok (.getfield 411, 3) := by decide +kernel
theorem d_Md_missing_133 : decode prog_12_method_77_code 133 = .ok (.ireturn, 1) := by decide +kernel
set_option maxHeartbeats 4000000 in
set_option maxRecDepth 100000 in
theorem K_Md_missing_28 {F : FT} (hD : ∀ σ, va_D F.2.2.1 (GW F.2.1 σ)) (hm : F.2.2.2.2.2.2.2.2.2.2.2.2.2.2.1 = 6) (ok : OkF F prog_12_method_77_code "LastSeenModel" ({ frames := 2, cells := 0, slots := 0, locals := 46 } : Room)) {Q : Int → SS → Prop} (hQ : RetI F Q) {x1 x2 x3 x4 : Int} {s : SS} (h : B_Md_missing_28 Q (fun x1 x2 x3 x4 s => AtS F 28 [(0, .ref (F.2.1.1 10)), (1, vI x1), (2, vI x2), (3, vI x3), (4, vI x4)] [] s) (fun x1 x2 x3 x4 x5 s => AtS F 96 [(0, .ref (F.2.1.1 10)), (1, vI x1), (2, vI x2), (3, vI x3), (4, vI x4), (5, vI x5)] [] s) x1 x2 x3 x4 s) : AtS F 28 [(0, .ref (F.2.1.1 10)), (1, vI x1), (2, vI x2), (3, vI x3), (4, vI x4)] [] s := by
  unfold B_Md_missing_28 at h
  refine r_iload_n ok 3 d_Md_missing_28 rfl rfl ?_
  refine r_iload ok 4 d_Md_missing_29 rfl ?_
  refine r_callSi (As := [vI x3, vI x4]) (rest := []) ok wl_Md_408 wt_y_Md_areMarks wn_Md wc_y_Md_areMarks (by decide) (by decide) hh_Md_areMarks (Nat.le_of_ble_eq_true rfl) rfl d_Md_missing_31 (L_Md_areMarks F.1 F.2.1 F.2.2.1 hD h) (fun r6 s5 h => ?_)
  refine r_if_ne ok 40 d_Md_missing_34 (by decide) h.1 (fun c => ?_) (fun c => ?_)
  · replace h := h.2.1 c
    refine r_aload_n ok 0 d_Md_missing_40 rfl rfl ?_
    refine r_iload_n ok 1 d_Md_missing_41 rfl rfl ?_
    refine r_callVi (As := [vI x1]) (rest := []) ok 10 rfl rfl rfl wl_Md_414 wi_y_Md_isGiven ws_y_Md_isGiven wn_Md wc_y_Md_isGiven (by decide) (by decide) hh_Md_isGiven (Nat.le_of_ble_eq_true rfl) rfl d_Md_missing_42 (L_Md_isGiven F.1 F.2.1 F.2.2.1 hD h) (fun r8 s7 h => ?_)
    refine r_if_eq ok 51 d_Md_missing_45 (by decide) h.1 (fun c => ?_) (fun c => ?_)
    · replace h := h.2.1 c
      refine r_aload_n ok 0 d_Md_missing_51 rfl rfl ?_
      refine r_iload_n ok 1 d_Md_missing_52 rfl rfl ?_
      refine r_callVi (As := [vI x1]) (rest := []) ok 10 rfl rfl rfl wl_Md_417 wi_y_Md_missingOf ws_y_Md_missingOf wn_Md wc_y_Md_missingOf (by decide) (by decide) hh_Md_missingOf (Nat.le_of_ble_eq_true rfl) rfl d_Md_missing_53 (L_Md_missingOf F.1 F.2.1 F.2.2.1 hD h) (fun r10 s9 h => ?_)
      refine r_istore ok [(5, vI r10), (0, .ref (F.2.1.1 10)), (1, vI x1), (2, vI x2), (3, vI x3), (4, vI x4)] d_Md_missing_56 hm (by decide) rfl ?_
      refine r_iload ok 0 d_Md_missing_58 rfl ?_
      refine r_if_ge ok 75 d_Md_missing_60 (by decide) h.1 (fun c => ?_) (fun c => ?_)
      · replace h := h.2.1 c
        refine r_iload ok 0 d_Md_missing_75 rfl ?_
        refine r_if_ge ok 96 d_Md_missing_77 (by decide) h.1 (fun c => ?_) (fun c => ?_)
        · replace h := h.2.1 c
          exact r_sub [1, 2, 3, 4, 5, 0] rfl h
        · replace h := h.2.2 c
          refine r_aload_n ok 1 d_Md_missing_80 rfl rfl ?_
          refine g_Md_missed ok d_Md_missing_81 ?_
          refine r_istore ok [(5, vI (s9.1 47)), (0, .ref (F.2.1.1 10)), (1, vI x1), (2, vI x2), (3, vI x3), (4, vI x4)] d_Md_missing_84 hm (by decide) rfl ?_
          refine r_aload_n ok 1 d_Md_missing_86 rfl rfl ?_
          refine r_dup ok d_Md_missing_87 rfl ?_
          refine g_Md_missed ok d_Md_missing_88 ?_
          refine r_iconst ok 1 d_Md_missing_91 rfl ?_
          refine r_iadd ok d_Md_missing_92 ?_
          refine p_Md_missed ok d_Md_missing_93 ?_
          replace h := h _ rfl
          generalize sF s9 47 ((s9.1 47) + 1) = s11 at h ⊢
          exact r_sub [1, 2, 3, 4, 5, 0] rfl h
      · replace h := h.2.2 c
        refine r_aload_n ok 1 d_Md_missing_63 rfl rfl ?_
        refine g_Md_missed ok d_Md_missing_64 ?_
        refine r_bipush ok 10 d_Md_missing_67 (by decide) ?_
        refine r_icmp_ne ok 75 d_Md_missing_69 (by decide) h.1 (by decide) (fun c => ?_) (fun c => ?_)
        · replace h := h.2.1 c
          refine r_iload ok 0 d_Md_missing_75 rfl ?_
          refine r_if_ge ok 96 d_Md_missing_77 (by decide) h.1 (fun c => ?_) (fun c => ?_)
          · replace h := h.2.1 c
            exact r_sub [1, 2, 3, 4, 5, 0] rfl h
          · replace h := h.2.2 c
            refine r_aload_n ok 1 d_Md_missing_80 rfl rfl ?_
            refine g_Md_missed ok d_Md_missing_81 ?_
            refine r_istore ok [(5, vI (s9.1 47)), (0, .ref (F.2.1.1 10)), (1, vI x1), (2, vI x2), (3, vI x3), (4, vI x4)] d_Md_missing_84 hm (by decide) rfl ?_
            refine r_aload_n ok 1 d_Md_missing_86 rfl rfl ?_
            refine r_dup ok d_Md_missing_87 rfl ?_
            refine g_Md_missed ok d_Md_missing_88 ?_
            refine r_iconst ok 1 d_Md_missing_91 rfl ?_
            refine r_iadd ok d_Md_missing_92 ?_
            refine p_Md_missed ok d_Md_missing_93 ?_
            replace h := h _ rfl
            generalize sF s9 47 ((s9.1 47) + 1) = s12 at h ⊢
            exact r_sub [1, 2, 3, 4, 5, 0] rfl h
        · replace h := h.2.2 c
          refine r_bipush ok (-4) d_Md_missing_72 (by decide) ?_
          exact hQ _ _ _ _ _ (ok_code ok) d_Md_missing_74 h
    · replace h := h.2.2 c
      refine r_bipush ok (-3) d_Md_missing_48 (by decide) ?_
      exact hQ _ _ _ _ _ (ok_code ok) d_Md_missing_50 h
  · replace h := h.2.2 c
    refine r_bipush ok (-2) d_Md_missing_37 (by decide) ?_
    exact hQ _ _ _ _ _ (ok_code ok) d_Md_missing_39 h
set_option maxHeartbeats 4000000 in
set_option maxRecDepth 100000 in
theorem K_Md_missing_96 {F : FT} (hD : ∀ σ, va_D F.2.2.1 (GW F.2.1 σ)) (hm : F.2.2.2.2.2.2.2.2.2.2.2.2.2.2.1 = 6) (ok : OkF F prog_12_method_77_code "LastSeenModel" ({ frames := 2, cells := 0, slots := 0, locals := 46 } : Room)) {Q : Int → SS → Prop} (hQ : RetI F Q) {x1 x2 x3 x4 x5 : Int} {s : SS} (h : B_Md_missing_96 Q (fun x1 x2 x3 x4 s => AtS F 28 [(0, .ref (F.2.1.1 10)), (1, vI x1), (2, vI x2), (3, vI x3), (4, vI x4)] [] s) (fun x1 x2 x3 x4 x5 s => AtS F 96 [(0, .ref (F.2.1.1 10)), (1, vI x1), (2, vI x2), (3, vI x3), (4, vI x4), (5, vI x5)] [] s) x1 x2 x3 x4 x5 s) : AtS F 96 [(0, .ref (F.2.1.1 10)), (1, vI x1), (2, vI x2), (3, vI x3), (4, vI x4), (5, vI x5)] [] s := by
  unfold B_Md_missing_96 at h
  refine r_aload_n ok 0 d_Md_missing_96 rfl rfl ?_
  refine g_Md_missing ok d_Md_missing_97 ?_
  refine r_iload ok 5 d_Md_missing_100 rfl ?_
  refine r_iload_n ok 1 d_Md_missing_102 rfl rfl ?_
  refine r_iast ok 106 d_Md_missing_103 (by decide) rfl h.1 ?_
  replace h := h.2 _ rfl
  generalize sA s 106 x5 x1 = s13 at h ⊢
  refine r_aload_n ok 0 d_Md_missing_104 rfl rfl ?_
  refine g_Md_height ok d_Md_missing_105 ?_
  refine r_iload ok 5 d_Md_missing_108 rfl ?_
  refine r_iload_n ok 2 d_Md_missing_110 rfl rfl ?_
  refine r_iast ok 107 d_Md_missing_111 (by decide) rfl h.1 ?_
  replace h := h.2 _ rfl
  generalize sA s13 107 x5 x2 = s14 at h ⊢
  refine r_aload_n ok 0 d_Md_missing_112 rfl rfl ?_
  refine g_Md_had ok d_Md_missing_113 ?_
  refine r_iload ok 5 d_Md_missing_116 rfl ?_
  refine r_iload_n ok 3 d_Md_missing_118 rfl rfl ?_
  refine r_iast ok 108 d_Md_missing_119 (by decide) rfl h.1 ?_
  replace h := h.2 _ rfl
  generalize sA s14 108 x5 x3 = s15 at h ⊢
  refine r_aload_n ok 0 d_Md_missing_120 rfl rfl ?_
  refine g_Md_hadNot ok d_Md_missing_121 ?_
  refine r_iload ok 5 d_Md_missing_124 rfl ?_
  refine r_iload ok 4 d_Md_missing_126 rfl ?_
  refine r_iast ok 109 d_Md_missing_128 (by decide) rfl h.1 ?_
  replace h := h.2 _ rfl
  generalize sA s15 109 x5 x4 = s16 at h ⊢
  refine r_aload_n ok 0 d_Md_missing_129 rfl rfl ?_
  refine g_Md_missed ok d_Md_missing_130 ?_
  exact hQ _ _ _ _ _ (ok_code ok) d_Md_missing_133 h
set_option maxHeartbeats 4000000 in
set_option maxRecDepth 100000 in
theorem K_Md_missing_e {F : FT} (hD : ∀ σ, va_D F.2.2.1 (GW F.2.1 σ)) (hm : F.2.2.2.2.2.2.2.2.2.2.2.2.2.2.1 = 6) (ok : OkF F prog_12_method_77_code "LastSeenModel" ({ frames := 2, cells := 0, slots := 0, locals := 46 } : Room)) {Q : Int → SS → Prop} (hQ : RetI F Q) {x1 x2 x3 x4 : Int} {s : SS} (h : B_Md_missing_e Q (fun x1 x2 x3 x4 s => AtS F 28 [(0, .ref (F.2.1.1 10)), (1, vI x1), (2, vI x2), (3, vI x3), (4, vI x4)] [] s) (fun x1 x2 x3 x4 x5 s => AtS F 96 [(0, .ref (F.2.1.1 10)), (1, vI x1), (2, vI x2), (3, vI x3), (4, vI x4), (5, vI x5)] [] s) x1 x2 x3 x4 s) : AtS F 0 [(0, .ref (F.2.1.1 10)), (1, vI x1), (2, vI x2), (3, vI x3), (4, vI x4)] [] s := by
  unfold B_Md_missing_e at h
  refine r_aload_n ok 0 d_Md_missing_0 rfl rfl ?_
  refine r_iload_n ok 1 d_Md_missing_1 rfl rfl ?_
  refine r_callVi (As := [vI x1]) (rest := []) ok 10 rfl rfl rfl wl_Md_237 wi_y_Md_isName ws_y_Md_isName wn_Md wc_y_Md_isName (by decide) (by decide) hh_Md_isName (Nat.le_of_ble_eq_true rfl) rfl d_Md_missing_2 (L_Md_isName F.1 F.2.1 F.2.2.1 hD h) (fun r2 s1 h => ?_)
  refine r_if_ne ok 10 d_Md_missing_5 (by decide) h.1 (fun c => ?_) (fun c => ?_)
  · replace h := h.2.1 c
    refine r_iload_n ok 2 d_Md_missing_10 rfl rfl ?_
    refine r_if_eq ok 28 d_Md_missing_11 (by decide) h.1 (fun c => ?_) (fun c => ?_)
    · replace h := h.2.1 c
      exact r_sub [0, 1, 2, 3, 4] rfl h
    · replace h := h.2.2 c
      refine r_iload_n ok 2 d_Md_missing_14 rfl rfl ?_
      refine r_i2l ok d_Md_missing_15 h.1 ?_
      replace h := h.2
      refine r_ldc2 ok 100 wk_Md_404 d_Md_missing_16 (by decide) ?_
      refine r_ldc2 ok 220 wk_Md_406 d_Md_missing_19 (by decide) ?_
      refine r_callSi (As := [vJ x2, vJ 100, vJ 220]) (rest := []) ok wl_Md_191 wt_y_Md_isIn wn_Md wc_y_Md_isIn (by decide) (by decide) hh_Md_isIn (Nat.le_of_ble_eq_true rfl) rfl d_Md_missing_22 (L_Md_isIn F.1 F.2.1 F.2.2.1 hD h) (fun r4 s3 h => ?_)
      refine r_if_eq ok 37 d_Md_missing_25 (by decide) h.1 (fun c => ?_) (fun c => ?_)
      · replace h := h.2.1 c
        refine r_bipush ok (-2) d_Md_missing_37 (by decide) ?_
        exact hQ _ _ _ _ _ (ok_code ok) d_Md_missing_39 h
      · replace h := h.2.2 c
        exact r_sub [0, 1, 2, 3, 4] rfl h
  · replace h := h.2.2 c
    refine r_iconst ok (-1) d_Md_missing_8 rfl ?_
    exact hQ _ _ _ _ _ (ok_code ok) d_Md_missing_9 h
theorem L_Md_missing (l : Launch) (G : GE) (A : Nat → Prop) (hD : ∀ σ, va_D A (GW G σ)) {x1 x2 x3 x4 : Int} {s : SS} {Q : Int → SS → Prop} (h : Sp_Md_missing x1 x2 x3 x4 s Q) : Met l y_Md_missing (Cond.code y_Md_missing prog_12_method_77_code 6 (some .int) :: lw_ok) ({ frames := 2, cells := 0, slots := 0, locals := 46 } : Room) (va_Pc [.ref (G.1 10), vI x1, vI x2, vI x3, vI x4] (gB G s)) (va_Qi (fun (r : Int32) (s2 : SS) => ∃ x : Int, r = iI x ∧ Q x s2) (fun s2 t => gB G s2 t) A) 0 0 A := by
  refine met_i hD (by decide) ⟨rfl, rfl⟩ (Nat.le_of_ble_eq_true rfl) (lv := [(0, .ref (G.1 10)), (1, vI x1), (2, vI x2), (3, vI x3), (4, vI x4)]) rfl (fun F h1 h2 h3 hm ok hQ => ?_)
  subst h1 h2 h3
  have hDF := hD
  exact K_Md_missing_e hDF hm ok hQ (h _ _ (fun _ _ _ _ _ hb => K_Md_missing_28 hDF hm ok hQ hb) (fun _ _ _ _ _ _ hb => K_Md_missing_96 hDF hm ok hQ hb))
theorem d_Md_fits_0 : decode prog_12_method_78_code 0 = .ok (.aload_n 0, 1) := by decide +kernel
theorem d_Md_fits_1 : decode prog_12_method_78_code 1 = .ok (.getfield 160, 3) := by decide +kernel
theorem d_Md_fits_4 : decode prog_12_method_78_code 4 = .ok (.iload_n 2, 1) := by decide +kernel
theorem d_Md_fits_5 : decode prog_12_method_78_code 5 = .ok (.iaload, 1) := by decide +kernel
theorem d_Md_fits_6 : decode prog_12_method_78_code 6 = .ok (.ifCond .eq 30, 3) := by decide +kernel
theorem d_Md_fits_9 : decode prog_12_method_78_code 9 = .ok (.aload_n 0, 1) := by decide +kernel
theorem d_Md_fits_10 : decode prog_12_method_78_code 10 = .ok (.getfield 160, 3) := by decide +kernel
theorem d_Md_fits_13 : decode prog_12_method_78_code 13 = .ok (.iload_n 2, 1) := by decide +kernel
theorem d_Md_fits_14 : decode prog_12_method_78_code 14 = .ok (.iaload, 1) := by decide +kernel
theorem d_Md_fits_15 : decode prog_12_method_78_code 15 = .ok (.i2l, 1) := by decide +kernel
theorem d_Md_fits_16 : decode prog_12_method_78_code 16 = .ok (.aload_n 0, 1) := by decide +kernel
theorem d_Md_fits_17 : decode prog_12_method_78_code 17 = .ok (.getfield 139, 3) := by decide +kernel
theorem d_Md_fits_20 : decode prog_12_method_78_code 20 = .ok (.iload_n 1, 1) := by decide +kernel
theorem d_Md_fits_21 : decode prog_12_method_78_code 21 = .ok (.iaload, 1) := by decide +kernel
theorem d_Md_fits_22 : decode prog_12_method_78_code 22 = .ok (.i2l, 1) := by decide +kernel
theorem d_Md_fits_23 : decode prog_12_method_78_code 23 = .ok (.aload_n 0, 1) := by decide +kernel
theorem d_Md_fits_24 : decode prog_12_method_78_code 24 = .ok (.getfield 142, 3) := by decide +kernel
theorem d_Md_fits_27 : decode prog_12_method_78_code 27 = .ok (.iload_n 1, 1) := by decide +kernel
theorem d_Md_fits_28 : decode prog_12_method_78_code 28 = .ok (.iaload, 1) := by decide +kernel
theorem d_Md_fits_29 : decode prog_12_method_78_code 29 = .ok (.i2l, 1) := by decide +kernel
theorem d_Md_fits_30 : decode prog_12_method_78_code 30 = .ok (.invokestatic 191, 3) := by decide +kernel
theorem d_Md_fits_33 : decode prog_12_method_78_code 33 = .ok (.ifCond .eq 39, 3) := by decide +kernel
theorem d_Md_fits_36 : decode prog_12_method_78_code 36 = .ok (.aload_n 0, 1) := by decide +kernel
theorem d_Md_fits_37 : decode prog_12_method_78_code 37 = .ok (.getfield 145, 3) := by decide +kernel
theorem d_Md_fits_40 : decode prog_12_method_78_code 40 = .ok (.iload_n 1, 1) := by decide +kernel
theorem d_Md_fits_41 : decode prog_12_method_78_code 41 = .ok (.iaload, 1) := by decide +kernel
theorem d_Md_fits_42 : decode prog_12_method_78_code 42 = .ok (.aload_n 0, 1) := by decide +kernel
theorem d_Md_fits_43 : decode prog_12_method_78_code 43 = .ok (.getfield 166, 3) := by decide +kernel
theorem d_Md_fits_46 : decode prog_12_method_78_code 46 = .ok (.iload_n 2, 1) := by decide +kernel
theorem d_Md_fits_47 : decode prog_12_method_78_code 47 = .ok (.iaload, 1) := by decide +kernel
theorem d_Md_fits_48 : decode prog_12_method_78_code 48 = .ok (.iand, 1) := by decide +kernel
theorem d_Md_fits_49 : decode prog_12_method_78_code 49 = .ok (.ifCond .ne 23, 3) := by decide +kernel
theorem d_Md_fits_52 : decode prog_12_method_78_code 52 = .ok (.aload_n 0, 1) := by decide +kernel
theorem d_Md_fits_53 : decode prog_12_method_78_code 53 = .ok (.getfield 148, 3) := by decide +kernel
theorem d_Md_fits_56 : decode prog_12_method_78_code 56 = .ok (.iload_n 1, 1) := by decide +kernel
theorem d_Md_fits_57 : decode prog_12_method_78_code 57 = .ok (.iaload, 1) := by decide +kernel
theorem d_Md_fits_58 : decode prog_12_method_78_code 58 = .ok (.aload_n 0, 1) := by decide +kernel
theorem d_Md_fits_59 : decode prog_12_method_78_code 59 = .ok (.getfield 163, 3) := by decide +kernel
theorem d_Md_fits_62 : decode prog_12_method_78_code 62 = .ok (.iload_n 2, 1) := by decide +kernel
theorem d_Md_fits_63 : decode prog_12_method_78_code 63 = .ok (.iaload, 1) := by decide +kernel
theorem d_Md_fits_64 : decode prog_12_method_78_code 64 = .ok (.iand, 1) := by decide +kernel
theorem d_Md_fits_65 : decode prog_12_method_78_code 65 = .ok (.ifCond .ne 7, 3) := by decide +kernel
theorem d_Md_fits_68 : decode prog_12_method_78_code 68 = .ok (.iconst 1, 1) := by decide +kernel
theorem d_Md_fits_69 : decode prog_12_method_78_code 69 = .ok (.goto 4, 3) := by decide +kernel
theorem d_Md_fits_72 : decode prog_12_method_78_code 72 = .ok (.iconst 0, 1) := by decide +kernel
theorem d_Md_fits_73 : decode prog_12_method_78_code 73 = .ok (.ireturn, 1) := by decide +kernel
set_option maxHeartbeats 4000000 in
set_option maxRecDepth 100000 in
theorem K_Md_fits_36 {F : FT} (hD : ∀ σ, va_D F.2.2.1 (GW F.2.1 σ)) (hm : F.2.2.2.2.2.2.2.2.2.2.2.2.2.2.1 = 3) (ok : OkF F prog_12_method_78_code "LastSeenModel" ({ frames := 1, cells := 0, slots := 0, locals := 25 } : Room)) {Q : Int → SS → Prop} (hQ : RetZ F Q) {x1 x2 : Int} {s : SS} (h : B_Md_fits_36 Q (fun x1 x2 s => AtS F 36 [(0, .ref (F.2.1.1 10)), (1, vI x1), (2, vI x2)] [] s) x1 x2 s) : AtS F 36 [(0, .ref (F.2.1.1 10)), (1, vI x1), (2, vI x2)] [] s := by
  unfold B_Md_fits_36 at h
  refine r_aload_n ok 0 d_Md_fits_36 rfl rfl ?_
  refine g_Md_has ok d_Md_fits_37 ?_
  refine r_iload_n ok 1 d_Md_fits_40 rfl rfl ?_
  refine r_iald ok 102 d_Md_fits_41 (by decide) rfl h.1 ?_
  replace h := h.2
  refine r_aload_n ok 0 d_Md_fits_42 rfl rfl ?_
  refine g_Md_hadNot ok d_Md_fits_43 ?_
  refine r_iload_n ok 2 d_Md_fits_46 rfl rfl ?_
  refine r_iald ok 109 d_Md_fits_47 (by decide) rfl h.1 ?_
  replace h := h.2
  refine r_iand ok d_Md_fits_48 ?_
  refine r_if_ne ok 72 d_Md_fits_49 (by decide) h.1 (fun c => ?_) (fun c => ?_)
  · replace h := h.2.1 c
    refine r_iconst ok 0 d_Md_fits_72 rfl ?_
    exact hQ _ _ _ _ _ (ok_code ok) d_Md_fits_73 (by decide) h
  · replace h := h.2.2 c
    refine r_aload_n ok 0 d_Md_fits_52 rfl rfl ?_
    refine g_Md_hasNot ok d_Md_fits_53 ?_
    refine r_iload_n ok 1 d_Md_fits_56 rfl rfl ?_
    refine r_iald ok 103 d_Md_fits_57 (by decide) rfl h.1 ?_
    replace h := h.2
    refine r_aload_n ok 0 d_Md_fits_58 rfl rfl ?_
    refine g_Md_had ok d_Md_fits_59 ?_
    refine r_iload_n ok 2 d_Md_fits_62 rfl rfl ?_
    refine r_iald ok 108 d_Md_fits_63 (by decide) rfl h.1 ?_
    replace h := h.2
    refine r_iand ok d_Md_fits_64 ?_
    refine r_if_ne ok 72 d_Md_fits_65 (by decide) h.1 (fun c => ?_) (fun c => ?_)
    · replace h := h.2.1 c
      refine r_iconst ok 0 d_Md_fits_72 rfl ?_
      exact hQ _ _ _ _ _ (ok_code ok) d_Md_fits_73 (by decide) h
    · replace h := h.2.2 c
      refine r_iconst ok 1 d_Md_fits_68 rfl ?_
      refine r_goto ok 73 d_Md_fits_69 (by decide) ?_
      exact hQ _ _ _ _ _ (ok_code ok) d_Md_fits_73 (by decide) h
set_option maxHeartbeats 4000000 in
set_option maxRecDepth 100000 in
theorem K_Md_fits_e {F : FT} (hD : ∀ σ, va_D F.2.2.1 (GW F.2.1 σ)) (hm : F.2.2.2.2.2.2.2.2.2.2.2.2.2.2.1 = 3) (ok : OkF F prog_12_method_78_code "LastSeenModel" ({ frames := 1, cells := 0, slots := 0, locals := 25 } : Room)) {Q : Int → SS → Prop} (hQ : RetZ F Q) {x1 x2 : Int} {s : SS} (h : B_Md_fits_e Q (fun x1 x2 s => AtS F 36 [(0, .ref (F.2.1.1 10)), (1, vI x1), (2, vI x2)] [] s) x1 x2 s) : AtS F 0 [(0, .ref (F.2.1.1 10)), (1, vI x1), (2, vI x2)] [] s := by
  unfold B_Md_fits_e at h
  refine r_aload_n ok 0 d_Md_fits_0 rfl rfl ?_
  refine g_Md_height ok d_Md_fits_1 ?_
  refine r_iload_n ok 2 d_Md_fits_4 rfl rfl ?_
  refine r_iald ok 107 d_Md_fits_5 (by decide) rfl h.1 ?_
  replace h := h.2
  refine r_if_eq ok 36 d_Md_fits_6 (by decide) h.1 (fun c => ?_) (fun c => ?_)
  · replace h := h.2.1 c
    exact r_sub [0, 1, 2] rfl h
  · replace h := h.2.2 c
    refine r_aload_n ok 0 d_Md_fits_9 rfl rfl ?_
    refine g_Md_height ok d_Md_fits_10 ?_
    refine r_iload_n ok 2 d_Md_fits_13 rfl rfl ?_
    refine r_iald ok 107 d_Md_fits_14 (by decide) rfl h.1 ?_
    replace h := h.2
    refine r_i2l ok d_Md_fits_15 h.1 ?_
    replace h := h.2
    refine r_aload_n ok 0 d_Md_fits_16 rfl rfl ?_
    refine g_Md_low ok d_Md_fits_17 ?_
    refine r_iload_n ok 1 d_Md_fits_20 rfl rfl ?_
    refine r_iald ok 100 d_Md_fits_21 (by decide) rfl h.1 ?_
    replace h := h.2
    refine r_i2l ok d_Md_fits_22 h.1 ?_
    replace h := h.2
    refine r_aload_n ok 0 d_Md_fits_23 rfl rfl ?_
    refine g_Md_high ok d_Md_fits_24 ?_
    refine r_iload_n ok 1 d_Md_fits_27 rfl rfl ?_
    refine r_iald ok 101 d_Md_fits_28 (by decide) rfl h.1 ?_
    replace h := h.2
    refine r_i2l ok d_Md_fits_29 h.1 ?_
    replace h := h.2
    refine r_callSi (As := [vJ (s.2 107 x2), vJ (s.2 100 x1), vJ (s.2 101 x1)]) (rest := []) ok wl_Md_191 wt_y_Md_isIn wn_Md wc_y_Md_isIn (by decide) (by decide) hh_Md_isIn (Nat.le_of_ble_eq_true rfl) rfl d_Md_fits_30 (L_Md_isIn F.1 F.2.1 F.2.2.1 hD h) (fun r2 s1 h => ?_)
    refine r_if_eq ok 72 d_Md_fits_33 (by decide) h.1 (fun c => ?_) (fun c => ?_)
    · replace h := h.2.1 c
      refine r_iconst ok 0 d_Md_fits_72 rfl ?_
      exact hQ _ _ _ _ _ (ok_code ok) d_Md_fits_73 (by decide) h
    · replace h := h.2.2 c
      exact r_sub [0, 1, 2] rfl h
theorem L_Md_fits (l : Launch) (G : GE) (A : Nat → Prop) (hD : ∀ σ, va_D A (GW G σ)) {x1 x2 : Int} {s : SS} {Q : Int → SS → Prop} (h : Sp_Md_fits x1 x2 s Q) : Met l y_Md_fits (Cond.code y_Md_fits prog_12_method_78_code 3 (some .boolean) :: lw_ok) ({ frames := 1, cells := 0, slots := 0, locals := 25 } : Room) (va_Pc [.ref (G.1 10), vI x1, vI x2] (gB G s)) (va_Qi (fun (r : Int32) (s2 : SS) => ∃ x : Int, r = iI x ∧ Q x s2) (fun s2 t => gB G s2 t) A) 0 0 A := by
  refine met_z hD (by decide) ⟨rfl, rfl⟩ (Nat.le_of_ble_eq_true rfl) (lv := [(0, .ref (G.1 10)), (1, vI x1), (2, vI x2)]) rfl (fun F h1 h2 h3 hm ok hQ => ?_)
  subst h1 h2 h3
  have hDF := hD
  exact K_Md_fits_e hDF hm ok hQ (h _ (fun _ _ _ hb => K_Md_fits_36 hDF hm ok hQ hb))
theorem d_Md_fit_0 : decode prog_12_method_79_code 0 = .ok (.aload_n 0, 1) := by decide +kernel
theorem d_Md_fit_1 : decode prog_12_method_79_code 1 = .ok (.iload_n 1, 1) := by decide +kernel
theorem d_Md_fit_2 : decode prog_12_method_79_code 2 = .ok (.invokevirtual 420, 3) := by decide +kernel
theorem d_Md_fit_5 : decode prog_12_method_79_code 5 = .ok (.ifCond .eq 11, 3) := by decide +kernel
theorem d_Md_fit_8 : decode prog_12_method_79_code 8 = .ok (.aload_n 0, 1) := by decide +kernel
theorem d_Md_fit_9 : decode prog_12_method_79_code 9 = .ok (.iload_n 2, 1) := by decide +kernel
theorem d_Md_fit_10 : decode prog_12_method_79_code 10 = .ok (.invokevirtual 417, 3) := by decide +kernel
theorem d_Md_fit_13 : decode prog_12_method_79_code 13 = .ok (.ifCond .ge 5, 3) := by decide +kernel
theorem d_Md_fit_16 : decode prog_12_method_79_code 16 = .ok (.iconst (-1), 1) := by decide +kernel
theorem d_Md_fit_17 : decode prog_12_method_79_code 17 = .ok (.ireturn, 1) := by decide +kernel
theorem d_Md_fit_18 : decode prog_12_method_79_code 18 = .ok (.aload_n 0, 1) := by decide +kernel
theorem d_Md_fit_19 : decode prog_12_method_79_code 19 = .ok (.iload_n 1, 1) := by decide +kernel
theorem d_Md_fit_20 : decode prog_12_method_79_code 20 = .ok (.aload_n 0, 1) := by decide +kernel
theorem d_Md_fit_21 : decode prog_12_method_79_code 21 = .ok (.iload_n 2, 1) := by decide +kernel
theorem d_Md_fit_22 : decode prog_12_method_79_code 22 = .ok (.invokevirtual 417, 3) := by decide +kernel
theorem d_Md_fit_25 : decode prog_12_method_79_code 25 = .ok (.invokevirtual 423, 3) := by decide +kernel
theorem d_Md_fit_28 : decode prog_12_method_79_code 28 = .ok (.ifCond .eq 7, 3) := by decide +kernel
theorem d_Md_fit_31 : decode prog_12_method_79_code 31 = .ok (.iconst 1, 1) := by decide +kernel
theorem d_Md_fit_32 : decode prog_12_method_79_code 32 = .ok (.goto 4, 3) := by decide +kernel
theorem d_Md_fit_35 : decode prog_12_method_79_code 35 = .ok (.iconst 0, 1) := by decide +kernel
theorem d_Md_fit_36 : decode prog_12_method_79_code 36 = .ok (.ireturn, 1) := by decide +kernel
set_option maxHeartbeats 4000000 in
set_option maxRecDepth 100000 in
theorem K_Md_fit_e {F : FT} (hD : ∀ σ, va_D F.2.2.1 (GW F.2.1 σ)) (hm : F.2.2.2.2.2.2.2.2.2.2.2.2.2.2.1 = 3) (ok : OkF F prog_12_method_79_code "LastSeenModel" ({ frames := 2, cells := 0, slots := 0, locals := 47 } : Room)) {Q : Int → SS → Prop} (hQ : RetI F Q) {x1 x2 : Int} {s : SS} (h : Sp_Md_fit x1 x2 s Q) : AtS F 0 [(0, .ref (F.2.1.1 10)), (1, vI x1), (2, vI x2)] [] s := by
  unfold Sp_Md_fit at h
  refine r_aload_n ok 0 d_Md_fit_0 rfl rfl ?_
  refine r_iload_n ok 1 d_Md_fit_1 rfl rfl ?_
  refine r_callVi (As := [vI x1]) (rest := []) ok 10 rfl rfl rfl wl_Md_420 wi_y_Md_isSet ws_y_Md_isSet wn_Md wc_y_Md_isSet (by decide) (by decide) hh_Md_isSet (Nat.le_of_ble_eq_true rfl) rfl d_Md_fit_2 (L_Md_isSet F.1 F.2.1 F.2.2.1 hD h) (fun r2 s1 h => ?_)
  refine r_if_eq ok 16 d_Md_fit_5 (by decide) h.1 (fun c => ?_) (fun c => ?_)
  · replace h := h.2.1 c
    refine r_iconst ok (-1) d_Md_fit_16 rfl ?_
    exact hQ _ _ _ _ _ (ok_code ok) d_Md_fit_17 h
  · replace h := h.2.2 c
    refine r_aload_n ok 0 d_Md_fit_8 rfl rfl ?_
    refine r_iload_n ok 2 d_Md_fit_9 rfl rfl ?_
    refine r_callVi (As := [vI x2]) (rest := []) ok 10 rfl rfl rfl wl_Md_417 wi_y_Md_missingOf ws_y_Md_missingOf wn_Md wc_y_Md_missingOf (by decide) (by decide) hh_Md_missingOf (Nat.le_of_ble_eq_true rfl) rfl d_Md_fit_10 (L_Md_missingOf F.1 F.2.1 F.2.2.1 hD h) (fun r4 s3 h => ?_)
    refine r_if_ge ok 18 d_Md_fit_13 (by decide) h.1 (fun c => ?_) (fun c => ?_)
    · replace h := h.2.1 c
      refine r_aload_n ok 0 d_Md_fit_18 rfl rfl ?_
      refine r_iload_n ok 1 d_Md_fit_19 rfl rfl ?_
      refine r_aload_n ok 0 d_Md_fit_20 rfl rfl ?_
      refine r_iload_n ok 2 d_Md_fit_21 rfl rfl ?_
      refine r_callVi (As := [vI x2]) (rest := [vI x1, .ref (F.2.1.1 10)]) ok 10 rfl rfl rfl wl_Md_417 wi_y_Md_missingOf ws_y_Md_missingOf wn_Md wc_y_Md_missingOf (by decide) (by decide) hh_Md_missingOf (Nat.le_of_ble_eq_true rfl) rfl d_Md_fit_22 (L_Md_missingOf F.1 F.2.1 F.2.2.1 hD h) (fun r6 s5 h => ?_)
      refine r_callVi (As := [vI x1, vI r6]) (rest := []) ok 10 rfl rfl rfl wl_Md_423 wi_y_Md_fits ws_y_Md_fits wn_Md wc_y_Md_fits (by decide) (by decide) hh_Md_fits (Nat.le_of_ble_eq_true rfl) rfl d_Md_fit_25 (L_Md_fits F.1 F.2.1 F.2.2.1 hD h) (fun r8 s7 h => ?_)
      refine r_if_eq ok 35 d_Md_fit_28 (by decide) h.1 (fun c => ?_) (fun c => ?_)
      · replace h := h.2.1 c
        refine r_iconst ok 0 d_Md_fit_35 rfl ?_
        exact hQ _ _ _ _ _ (ok_code ok) d_Md_fit_36 h
      · replace h := h.2.2 c
        refine r_iconst ok 1 d_Md_fit_31 rfl ?_
        refine r_goto ok 36 d_Md_fit_32 (by decide) ?_
        exact hQ _ _ _ _ _ (ok_code ok) d_Md_fit_36 h
    · replace h := h.2.2 c
      refine r_iconst ok (-1) d_Md_fit_16 rfl ?_
      exact hQ _ _ _ _ _ (ok_code ok) d_Md_fit_17 h
theorem L_Md_fit (l : Launch) (G : GE) (A : Nat → Prop) (hD : ∀ σ, va_D A (GW G σ)) {x1 x2 : Int} {s : SS} {Q : Int → SS → Prop} (h : Sp_Md_fit x1 x2 s Q) : Met l y_Md_fit (Cond.code y_Md_fit prog_12_method_79_code 3 (some .int) :: lw_ok) ({ frames := 2, cells := 0, slots := 0, locals := 47 } : Room) (va_Pc [.ref (G.1 10), vI x1, vI x2] (gB G s)) (va_Qi (fun (r : Int32) (s2 : SS) => ∃ x : Int, r = iI x ∧ Q x s2) (fun s2 t => gB G s2 t) A) 0 0 A := by
  refine met_i hD (by decide) ⟨rfl, rfl⟩ (Nat.le_of_ble_eq_true rfl) (lv := [(0, .ref (G.1 10)), (1, vI x1), (2, vI x2)]) rfl (fun F h1 h2 h3 hm ok hQ => ?_)
  subst h1 h2 h3
  have hDF := hD
  exact K_Md_fit_e hDF hm ok hQ h
theorem d_Md_findFirsts_0 : decode prog_12_method_80_code 0 = .ok (.aload_n 0, 1) := by decide +kernel
theorem d_Md_findFirsts_1 : decode prog_12_method_80_code 1 = .ok (.aload_n 0, 1) := by decide +kernel
theorem d_Md_findFirsts_2 : decode prog_12_method_80_code 2 = .ok (.getfield 198, 3) := by decide +kernel
theorem d_Md_findFirsts_5 : decode prog_12_method_80_code 5 = .ok (.invokevirtual 266, 3) := by decide +kernel
theorem d_Md_findFirsts_8 : decode prog_12_method_80_code 8 = .ok (.iconst 0, 1) := by decide +kernel
theorem d_Md_findFirsts_9 : decode prog_12_method_80_code 9 = .ok (.istore_n 1, 1) := by decide +kernel
theorem d_Md_findFirsts_10 : decode prog_12_method_80_code 10 = .ok (.iload_n 1, 1) := by decide +kernel
theorem d_Md_findFirsts_11 : decode prog_12_method_80_code 11 = .ok (.aload_n 0, 1) := by decide +kernel
theorem d_Md_findFirsts_12 : decode prog_12_method_80_code 12 = .ok (.getfield 411, 3) := by decide +kernel
theorem d_Md_findFirsts_15 : decode prog_12_method_80_code 15 = .ok (.if_icmp .ge 49, 3) := by decide +kernel
theorem d_Md_findFirsts_18 : decode prog_12_method_80_code 18 = .ok (.iconst 0, 1) := by decide +kernel
theorem d_Md_findFirsts_19 : decode prog_12_method_80_code 19 = .ok (.istore_n 2, 1) := by decide +kernel
theorem d_Md_findFirsts_20 : decode prog_12_method_80_code 20 = .ok (.aload_n 0, 1) := by decide +kernel
theorem d_Md_findFirsts_21 : decode prog_12_method_80_code 21 = .ok (.getfield 50, 3) := by decide +kernel
theorem d_Md_findFirsts_24 : decode prog_12_method_80_code 24 = .ok (.aload_n 0, 1) := by decide +kernel
theorem d_Md_findFirsts_25 : decode prog_12_method_80_code 25 = .ok (.getfield 157, 3) := by decide +kernel
theorem d_Md_findFirsts_28 : decode prog_12_method_80_code 28 = .ok (.iload_n 2, 1) := by decide +kernel
theorem d_Md_findFirsts_29 : decode prog_12_method_80_code 29 = .ok (.iaload, 1) := by decide +kernel
theorem d_Md_findFirsts_30 : decode prog_12_method_80_code 30 = .ok (.iaload, 1) := by decide +kernel
theorem d_Md_findFirsts_31 : decode prog_12_method_80_code 31 = .ok (.aload_n 0, 1) := by decide +kernel
theorem d_Md_findFirsts_32 : decode prog_12_method_80_code 32 = .ok (.getfield 50, 3) := by decide +kernel
theorem d_Md_findFirsts_35 : decode prog_12_method_80_code 35 = .ok (.aload_n 0, 1) := by decide +kernel
theorem d_Md_findFirsts_36 : decode prog_12_method_80_code 36 = .ok (.getfield 157, 3) := by decide +kernel
theorem d_Md_findFirsts_39 : decode prog_12_method_80_code 39 = .ok (.iload_n 1, 1) := by decide +kernel
theorem d_Md_findFirsts_40 : decode prog_12_method_80_code 40 = .ok (.iaload, 1) := by decide +kernel
theorem d_Md_findFirsts_41 : decode prog_12_method_80_code 41 = .ok (.iaload, 1) := by decide +kernel
theorem d_Md_findFirsts_42 : decode prog_12_method_80_code 42 = .ok (.if_icmp .eq 9, 3) := by decide +kernel
theorem d_Md_findFirsts_45 : decode prog_12_method_80_code 45 = .ok (.iinc 2 1, 3) := by decide +kernel
theorem d_Md_findFirsts_48 : decode prog_12_method_80_code 48 = .ok (.goto (-28), 3) := by decide +kernel
theorem d_Md_findFirsts_51 : decode prog_12_method_80_code 51 = .ok (.aload_n 0, 1) := by decide +kernel
theorem d_Md_findFirsts_52 : decode prog_12_method_80_code 52 = .ok (.getfield 169, 3) := by decide +kernel
theorem d_Md_findFirsts_55 : decode prog_12_method_80_code 55 = .ok (.iload_n 1, 1) := by decide +kernel
theorem d_Md_findFirsts_56 : decode prog_12_method_80_code 56 = .ok (.iload_n 2, 1) := by decide +kernel
theorem d_Md_findFirsts_57 : decode prog_12_method_80_code 57 = .ok (.iastore, 1) := by decide +kernel
theorem d_Md_findFirsts_58 : decode prog_12_method_80_code 58 = .ok (.iinc 1 1, 3) := by decide +kernel
theorem d_Md_findFirsts_61 : decode prog_12_method_80_code 61 = .ok (.goto (-51), 3) := by decide +kernel
theorem d_Md_findFirsts_64 : decode prog_12_method_80_code 64 = .ok (.return_, 1) := by decide +kernel
set_option maxHeartbeats 4000000 in
set_option maxRecDepth 100000 in
theorem K_Md_findFirsts_10 {F : FT} (hD : ∀ σ, va_D F.2.2.1 (GW F.2.1 σ)) (hm : F.2.2.2.2.2.2.2.2.2.2.2.2.2.2.1 = 3) (ok : OkF F prog_12_method_80_code "LastSeenModel" ({ frames := 2, cells := 0, slots := 0, locals := 49 } : Room)) {Q : SS → Prop} (hQ : RetV F Q) {x1 : Int} {s : SS} (h : B_Md_findFirsts_10 Q (fun x1 s => AtS F 10 [(0, .ref (F.2.1.1 10)), (1, vI x1)] [] s) (fun x1 x2 s => AtS F 20 [(0, .ref (F.2.1.1 10)), (1, vI x1), (2, vI x2)] [] s) x1 s) : AtS F 10 [(0, .ref (F.2.1.1 10)), (1, vI x1)] [] s := by
  unfold B_Md_findFirsts_10 at h
  refine r_iload_n ok 1 d_Md_findFirsts_10 rfl rfl ?_
  refine r_aload_n ok 0 d_Md_findFirsts_11 rfl rfl ?_
  refine g_Md_missed ok d_Md_findFirsts_12 ?_
  refine r_icmp_ge ok 64 d_Md_findFirsts_15 (by decide) h.1 h.2.1 (fun c => ?_) (fun c => ?_)
  · replace h := h.2.2.1 c
    exact hQ _ _ _ _ (ok_code ok) d_Md_findFirsts_64 h
  · replace h := h.2.2.2 c
    refine r_iconst ok 0 d_Md_findFirsts_18 rfl ?_
    refine r_istore_n ok [(2, vI 0), (0, .ref (F.2.1.1 10)), (1, vI x1)] d_Md_findFirsts_19 rfl hm (by decide) rfl ?_
    exact r_sub [1, 2, 0] rfl h
set_option maxHeartbeats 4000000 in
set_option maxRecDepth 100000 in
theorem K_Md_findFirsts_20 {F : FT} (hD : ∀ σ, va_D F.2.2.1 (GW F.2.1 σ)) (hm : F.2.2.2.2.2.2.2.2.2.2.2.2.2.2.1 = 3) (ok : OkF F prog_12_method_80_code "LastSeenModel" ({ frames := 2, cells := 0, slots := 0, locals := 49 } : Room)) {Q : SS → Prop} (hQ : RetV F Q) {x1 x2 : Int} {s : SS} (h : B_Md_findFirsts_20 Q (fun x1 s => AtS F 10 [(0, .ref (F.2.1.1 10)), (1, vI x1)] [] s) (fun x1 x2 s => AtS F 20 [(0, .ref (F.2.1.1 10)), (1, vI x1), (2, vI x2)] [] s) x1 x2 s) : AtS F 20 [(0, .ref (F.2.1.1 10)), (1, vI x1), (2, vI x2)] [] s := by
  unfold B_Md_findFirsts_20 at h
  refine r_aload_n ok 0 d_Md_findFirsts_20 rfl rfl ?_
  refine g_Md_person ok d_Md_findFirsts_21 ?_
  refine r_aload_n ok 0 d_Md_findFirsts_24 rfl rfl ?_
  refine g_Md_missing ok d_Md_findFirsts_25 ?_
  refine r_iload_n ok 2 d_Md_findFirsts_28 rfl rfl ?_
  refine r_iald ok 106 d_Md_findFirsts_29 (by decide) rfl h.1 ?_
  replace h := h.2
  refine r_iald ok 72 d_Md_findFirsts_30 (by decide) rfl h.1 ?_
  replace h := h.2
  refine r_aload_n ok 0 d_Md_findFirsts_31 rfl rfl ?_
  refine g_Md_person ok d_Md_findFirsts_32 ?_
  refine r_aload_n ok 0 d_Md_findFirsts_35 rfl rfl ?_
  refine g_Md_missing ok d_Md_findFirsts_36 ?_
  refine r_iload_n ok 1 d_Md_findFirsts_39 rfl rfl ?_
  refine r_iald ok 106 d_Md_findFirsts_40 (by decide) rfl h.1 ?_
  replace h := h.2
  refine r_iald ok 72 d_Md_findFirsts_41 (by decide) rfl h.1 ?_
  replace h := h.2
  refine r_icmp_eq ok 51 d_Md_findFirsts_42 (by decide) h.1 h.2.1 (fun c => ?_) (fun c => ?_)
  · replace h := h.2.2.1 c
    refine r_aload_n ok 0 d_Md_findFirsts_51 rfl rfl ?_
    refine g_Md_first1 ok d_Md_findFirsts_52 ?_
    refine r_iload_n ok 1 d_Md_findFirsts_55 rfl rfl ?_
    refine r_iload_n ok 2 d_Md_findFirsts_56 rfl rfl ?_
    refine r_iast ok 110 d_Md_findFirsts_57 (by decide) rfl h.1 ?_
    replace h := h.2 _ rfl
    generalize sA s 110 x1 x2 = s2 at h ⊢
    refine r_iinc ok 1 (x1 + 1) [(1, vI (x1 + 1)), (0, .ref (F.2.1.1 10)), (2, vI x2)] d_Md_findFirsts_58 rfl rfl hm (by decide) rfl ?_
    refine r_goto ok 10 d_Md_findFirsts_61 (by decide) ?_
    exact r_sub [1, 0] rfl h
  · replace h := h.2.2.2 c
    refine r_iinc ok 2 (x2 + 1) [(2, vI (x2 + 1)), (0, .ref (F.2.1.1 10)), (1, vI x1)] d_Md_findFirsts_45 rfl rfl hm (by decide) rfl ?_
    refine r_goto ok 20 d_Md_findFirsts_48 (by decide) ?_
    exact r_sub [1, 2, 0] rfl h
set_option maxHeartbeats 4000000 in
set_option maxRecDepth 100000 in
theorem K_Md_findFirsts_e {F : FT} (hD : ∀ σ, va_D F.2.2.1 (GW F.2.1 σ)) (hm : F.2.2.2.2.2.2.2.2.2.2.2.2.2.2.1 = 3) (ok : OkF F prog_12_method_80_code "LastSeenModel" ({ frames := 2, cells := 0, slots := 0, locals := 49 } : Room)) {Q : SS → Prop} (hQ : RetV F Q) {s : SS} (h : B_Md_findFirsts_e Q (fun x1 s => AtS F 10 [(0, .ref (F.2.1.1 10)), (1, vI x1)] [] s) (fun x1 x2 s => AtS F 20 [(0, .ref (F.2.1.1 10)), (1, vI x1), (2, vI x2)] [] s)  s) : AtS F 0 [(0, .ref (F.2.1.1 10))] [] s := by
  unfold B_Md_findFirsts_e at h
  refine r_aload_n ok 0 d_Md_findFirsts_0 rfl rfl ?_
  refine r_aload_n ok 0 d_Md_findFirsts_1 rfl rfl ?_
  refine g_Md_entries ok d_Md_findFirsts_2 ?_
  refine r_callVv (As := [vI (s.1 29)]) (rest := []) ok 10 rfl rfl rfl wl_Md_266 wi_y_Md_looks ws_y_Md_looks wn_Md wc_y_Md_looks (by decide) (by decide) hh_Md_looks (Nat.le_of_ble_eq_true rfl) rfl d_Md_findFirsts_5 (L_Md_looks F.1 F.2.1 F.2.2.1 hD h) (fun s1 h => ?_)
  refine r_iconst ok 0 d_Md_findFirsts_8 rfl ?_
  refine r_istore_n ok [(1, vI 0), (0, .ref (F.2.1.1 10))] d_Md_findFirsts_9 rfl hm (by decide) rfl ?_
  exact r_sub [1, 0] rfl h
theorem L_Md_findFirsts (l : Launch) (G : GE) (A : Nat → Prop) (hD : ∀ σ, va_D A (GW G σ)) {s : SS} {Q : SS → Prop} (h : Sp_Md_findFirsts  s Q) : Met l y_Md_findFirsts (Cond.code y_Md_findFirsts prog_12_method_80_code 3 (none) :: lw_ok) ({ frames := 2, cells := 0, slots := 0, locals := 49 } : Room) (va_Pc [.ref (G.1 10)] (gB G s)) (va_Qv (fun (s2 : SS) => Q s2) (fun s2 t => gB G s2 t) A) 0 0 A := by
  refine met_v hD (by decide) ⟨rfl, rfl⟩ (Nat.le_of_ble_eq_true rfl) (lv := [(0, .ref (G.1 10))]) rfl (fun F h1 h2 h3 hm ok hQ => ?_)
  subst h1 h2 h3
  have hDF := hD
  exact K_Md_findFirsts_e hDF hm ok hQ (h _ _ (fun _ _ hb => K_Md_findFirsts_10 hDF hm ok hQ hb) (fun _ _ _ hb => K_Md_findFirsts_20 hDF hm ok hQ hb))
theorem d_Md_mayGet_0 : decode prog_12_method_81_code 0 = .ok (.aload_n 0, 1) := by decide +kernel
theorem d_Md_mayGet_1 : decode prog_12_method_81_code 1 = .ok (.getfield 151, 3) := by decide +kernel
theorem d_Md_mayGet_4 : decode prog_12_method_81_code 4 = .ok (.iload_n 1, 1) := by decide +kernel
theorem d_Md_mayGet_5 : decode prog_12_method_81_code 5 = .ok (.iaload, 1) := by decide +kernel
theorem d_Md_mayGet_6 : decode prog_12_method_81_code 6 = .ok (.ifCond .lt 24, 3) := by decide +kernel
theorem d_Md_mayGet_9 : decode prog_12_method_81_code 9 = .ok (.aload_n 0, 1) := by decide +kernel
theorem d_Md_mayGet_10 : decode prog_12_method_81_code 10 = .ok (.getfield 157, 3) := by decide +kernel
theorem d_Md_mayGet_13 : decode prog_12_method_81_code 13 = .ok (.iload_n 2, 1) := by decide +kernel
theorem d_Md_mayGet_14 : decode prog_12_method_81_code 14 = .ok (.iaload, 1) := by decide +kernel
theorem d_Md_mayGet_15 : decode prog_12_method_81_code 15 = .ok (.aload_n 0, 1) := by decide +kernel
theorem d_Md_mayGet_16 : decode prog_12_method_81_code 16 = .ok (.getfield 151, 3) := by decide +kernel
theorem d_Md_mayGet_19 : decode prog_12_method_81_code 19 = .ok (.iload_n 1, 1) := by decide +kernel
theorem d_Md_mayGet_20 : decode prog_12_method_81_code 20 = .ok (.iaload, 1) := by decide +kernel
theorem d_Md_mayGet_21 : decode prog_12_method_81_code 21 = .ok (.if_icmp .ne 7, 3) := by decide +kernel
theorem d_Md_mayGet_24 : decode prog_12_method_81_code 24 = .ok (.iconst 1, 1) := by decide +kernel
theorem d_Md_mayGet_25 : decode prog_12_method_81_code 25 = .ok (.goto 4, 3) := by decide +kernel
theorem d_Md_mayGet_28 : decode prog_12_method_81_code 28 = .ok (.iconst 0, 1) := by decide +kernel
theorem d_Md_mayGet_29 : decode prog_12_method_81_code 29 = .ok (.ireturn, 1) := by decide +kernel
theorem d_Md_mayGet_30 : decode prog_12_method_81_code 30 = .ok (.aload_n 0, 1) := by decide +kernel
theorem d_Md_mayGet_31 : decode prog_12_method_81_code 31 = .ok (.iload_n 1, 1) := by decide +kernel
theorem d_Md_mayGet_32 : decode prog_12_method_81_code 32 = .ok (.iload_n 2, 1) := by decide +kernel
theorem d_Md_mayGet_33 : decode prog_12_method_81_code 33 = .ok (.invokevirtual 423, 3) := by decide +kernel
theorem d_Md_mayGet_36 : decode prog_12_method_81_code 36 = .ok (.ifCond .ne 5, 3) := by decide +kernel
theorem d_Md_mayGet_39 : decode prog_12_method_81_code 39 = .ok (.iconst 0, 1) := by decide +kernel
theorem d_Md_mayGet_40 : decode prog_12_method_81_code 40 = .ok (.ireturn, 1) := by decide +kernel
theorem d_Md_mayGet_41 : decode prog_12_method_81_code 41 = .ok (.iconst 0, 1) := by decide +kernel
theorem d_Md_mayGet_42 : decode prog_12_method_81_code 42 = .ok (.istore_n 3, 1) := by decide +kernel
theorem d_Md_mayGet_43 : decode prog_12_method_81_code 43 = .ok (.iload_n 3, 1) := by decide +kernel
theorem d_Md_mayGet_44 : decode prog_12_method_81_code 44 = .ok (.aload_n 0, 1) := by decide +kernel
theorem d_Md_mayGet_45 : decode prog_12_method_81_code 45 = .ok (.getfield 401, 3) := by decide +kernel
theorem d_Md_mayGet_48 : decode prog_12_method_81_code 48 = .ok (.if_icmp .ge 45, 3) := by decide +kernel
theorem d_Md_mayGet_51 : decode prog_12_method_81_code 51 = .ok (.aload_n 0, 1) := by decide +kernel
theorem d_Md_mayGet_52 : decode prog_12_method_81_code 52 = .ok (.getfield 151, 3) := by decide +kernel
theorem d_Md_mayGet_55 : decode prog_12_method_81_code 55 = .ok (.iload_n 3, 1) := by decide +kernel
theorem d_Md_mayGet_56 : decode prog_12_method_81_code 56 = .ok (.iaload, 1) := by decide +kernel
theorem d_Md_mayGet_57 : decode prog_12_method_81_code 57 = .ok (.ifCond .lt 30, 3) := by decide +kernel
theorem d_Md_mayGet_60 : decode prog_12_method_81_code 60 = .ok (.aload_n 0, 1) := by decide +kernel
theorem d_Md_mayGet_61 : decode prog_12_method_81_code 61 = .ok (.getfield 50, 3) := by decide +kernel
theorem d_Md_mayGet_64 : decode prog_12_method_81_code 64 = .ok (.aload_n 0, 1) := by decide +kernel
theorem d_Md_mayGet_65 : decode prog_12_method_81_code 65 = .ok (.getfield 151, 3) := by decide +kernel
theorem d_Md_mayGet_68 : decode prog_12_method_81_code 68 = .ok (.iload_n 3, 1) := by decide +kernel
theorem d_Md_mayGet_69 : decode prog_12_method_81_code 69 = .ok (.iaload, 1) := by decide +kernel
theorem d_Md_mayGet_70 : decode prog_12_method_81_code 70 = .ok (.iaload, 1) := by decide +kernel
theorem d_Md_mayGet_71 : decode prog_12_method_81_code 71 = .ok (.aload_n 0, 1) := by decide +kernel
theorem d_Md_mayGet_72 : decode prog_12_method_81_code 72 = .ok (.getfield 50, 3) := by decide +kernel
theorem d_Md_mayGet_75 : decode prog_12_method_81_code 75 = .ok (.aload_n 0, 1) := by decide +kernel
theorem d_Md_mayGet_76 : decode prog_12_method_81_code 76 = .ok (.getfield 157, 3) := by decide +kernel
theorem d_Md_mayGet_79 : decode prog_12_method_81_code 79 = .ok (.iload_n 2, 1) := by decide +kernel
theorem d_Md_mayGet_80 : decode prog_12_method_81_code 80 = .ok (.iaload, 1) := by decide +kernel
theorem d_Md_mayGet_81 : decode prog_12_method_81_code 81 = .ok (.iaload, 1) := by decide +kernel
theorem d_Md_mayGet_82 : decode prog_12_method_81_code 82 = .ok (.if_icmp .ne 5, 3) := by decide +kernel
theorem d_Md_mayGet_85 : decode prog_12_method_81_code 85 = .ok (.iconst 0, 1) := by decide +kernel
theorem d_Md_mayGet_86 : decode prog_12_method_81_code 86 = .ok (.ireturn, 1) := by decide +kernel
theorem d_Md_mayGet_87 : decode prog_12_method_81_code 87 = .ok (.iinc 3 1, 3) := by decide +kernel
theorem d_Md_mayGet_90 : decode prog_12_method_81_code 90 = .ok (.goto (-47), 3) := by decide +kernel
theorem d_Md_mayGet_93 : decode prog_12_method_81_code 93 = .ok (.iconst 1, 1) := by decide +kernel
theorem d_Md_mayGet_94 : decode prog_12_method_81_code 94 = .ok (.ireturn, 1) := by decide +kernel
set_option maxHeartbeats 4000000 in
set_option maxRecDepth 100000 in
theorem K_Md_mayGet_43 {F : FT} (hD : ∀ σ, va_D F.2.2.1 (GW F.2.1 σ)) (hm : F.2.2.2.2.2.2.2.2.2.2.2.2.2.2.1 = 4) (ok : OkF F prog_12_method_81_code "LastSeenModel" ({ frames := 2, cells := 0, slots := 0, locals := 47 } : Room)) {Q : Int → SS → Prop} (hQ : RetZ F Q) {x2 x3 : Int} {s : SS} (h : B_Md_mayGet_43 Q (fun x2 x3 s => AtS F 43 [(0, .ref (F.2.1.1 10)), (2, vI x2), (3, vI x3)] [] s) x2 x3 s) : AtS F 43 [(0, .ref (F.2.1.1 10)), (2, vI x2), (3, vI x3)] [] s := by
  unfold B_Md_mayGet_43 at h
  refine r_iload_n ok 2 d_Md_mayGet_43 rfl rfl ?_
  refine r_aload_n ok 0 d_Md_mayGet_44 rfl rfl ?_
  refine g_Md_sets ok d_Md_mayGet_45 ?_
  refine r_icmp_ge ok 93 d_Md_mayGet_48 (by decide) h.1 h.2.1 (fun c => ?_) (fun c => ?_)
  · replace h := h.2.2.1 c
    refine r_iconst ok 1 d_Md_mayGet_93 rfl ?_
    exact hQ _ _ _ _ _ (ok_code ok) d_Md_mayGet_94 (by decide) h
  · replace h := h.2.2.2 c
    refine r_aload_n ok 0 d_Md_mayGet_51 rfl rfl ?_
    refine g_Md_given ok d_Md_mayGet_52 ?_
    refine r_iload_n ok 2 d_Md_mayGet_55 rfl rfl ?_
    refine r_iald ok 104 d_Md_mayGet_56 (by decide) rfl h.1 ?_
    replace h := h.2
    refine r_if_lt ok 87 d_Md_mayGet_57 (by decide) h.1 (fun c => ?_) (fun c => ?_)
    · replace h := h.2.1 c
      refine r_iinc ok 2 (x3 + 1) [(3, vI (x3 + 1)), (0, .ref (F.2.1.1 10)), (2, vI x2)] d_Md_mayGet_87 rfl rfl hm (by decide) rfl ?_
      refine r_goto ok 43 d_Md_mayGet_90 (by decide) ?_
      exact r_sub [1, 2, 0] rfl h
    · replace h := h.2.2 c
      refine r_aload_n ok 0 d_Md_mayGet_60 rfl rfl ?_
      refine g_Md_person ok d_Md_mayGet_61 ?_
      refine r_aload_n ok 0 d_Md_mayGet_64 rfl rfl ?_
      refine g_Md_given ok d_Md_mayGet_65 ?_
      refine r_iload_n ok 2 d_Md_mayGet_68 rfl rfl ?_
      refine r_iald ok 104 d_Md_mayGet_69 (by decide) rfl h.1 ?_
      replace h := h.2
      refine r_iald ok 72 d_Md_mayGet_70 (by decide) rfl h.1 ?_
      replace h := h.2
      refine r_aload_n ok 0 d_Md_mayGet_71 rfl rfl ?_
      refine g_Md_person ok d_Md_mayGet_72 ?_
      refine r_aload_n ok 0 d_Md_mayGet_75 rfl rfl ?_
      refine g_Md_missing ok d_Md_mayGet_76 ?_
      refine r_iload_n ok 1 d_Md_mayGet_79 rfl rfl ?_
      refine r_iald ok 106 d_Md_mayGet_80 (by decide) rfl h.1 ?_
      replace h := h.2
      refine r_iald ok 72 d_Md_mayGet_81 (by decide) rfl h.1 ?_
      replace h := h.2
      refine r_icmp_ne ok 87 d_Md_mayGet_82 (by decide) h.1 h.2.1 (fun c => ?_) (fun c => ?_)
      · replace h := h.2.2.1 c
        refine r_iinc ok 2 (x3 + 1) [(3, vI (x3 + 1)), (0, .ref (F.2.1.1 10)), (2, vI x2)] d_Md_mayGet_87 rfl rfl hm (by decide) rfl ?_
        refine r_goto ok 43 d_Md_mayGet_90 (by decide) ?_
        exact r_sub [1, 2, 0] rfl h
      · replace h := h.2.2.2 c
        refine r_iconst ok 0 d_Md_mayGet_85 rfl ?_
        exact hQ _ _ _ _ _ (ok_code ok) d_Md_mayGet_86 (by decide) h
set_option maxHeartbeats 4000000 in
set_option maxRecDepth 100000 in
theorem K_Md_mayGet_e {F : FT} (hD : ∀ σ, va_D F.2.2.1 (GW F.2.1 σ)) (hm : F.2.2.2.2.2.2.2.2.2.2.2.2.2.2.1 = 4) (ok : OkF F prog_12_method_81_code "LastSeenModel" ({ frames := 2, cells := 0, slots := 0, locals := 47 } : Room)) {Q : Int → SS → Prop} (hQ : RetZ F Q) {x1 x2 : Int} {s : SS} (h : B_Md_mayGet_e Q (fun x2 x3 s => AtS F 43 [(0, .ref (F.2.1.1 10)), (2, vI x2), (3, vI x3)] [] s) x1 x2 s) : AtS F 0 [(0, .ref (F.2.1.1 10)), (1, vI x1), (2, vI x2)] [] s := by
  unfold B_Md_mayGet_e at h
  refine r_aload_n ok 0 d_Md_mayGet_0 rfl rfl ?_
  refine g_Md_given ok d_Md_mayGet_1 ?_
  refine r_iload_n ok 1 d_Md_mayGet_4 rfl rfl ?_
  refine r_iald ok 104 d_Md_mayGet_5 (by decide) rfl h.1 ?_
  replace h := h.2
  refine r_if_lt ok 30 d_Md_mayGet_6 (by decide) h.1 (fun c => ?_) (fun c => ?_)
  · replace h := h.2.1 c
    refine r_aload_n ok 0 d_Md_mayGet_30 rfl rfl ?_
    refine r_iload_n ok 1 d_Md_mayGet_31 rfl rfl ?_
    refine r_iload_n ok 2 d_Md_mayGet_32 rfl rfl ?_
    refine r_callVi (As := [vI x1, vI x2]) (rest := []) ok 10 rfl rfl rfl wl_Md_423 wi_y_Md_fits ws_y_Md_fits wn_Md wc_y_Md_fits (by decide) (by decide) hh_Md_fits (Nat.le_of_ble_eq_true rfl) rfl d_Md_mayGet_33 (L_Md_fits F.1 F.2.1 F.2.2.1 hD h) (fun r2 s1 h => ?_)
    refine r_if_ne ok 41 d_Md_mayGet_36 (by decide) h.1 (fun c => ?_) (fun c => ?_)
    · replace h := h.2.1 c
      refine r_iconst ok 0 d_Md_mayGet_41 rfl ?_
      refine r_istore_n ok [(3, vI 0), (0, .ref (F.2.1.1 10)), (1, vI x1), (2, vI x2)] d_Md_mayGet_42 rfl hm (by decide) rfl ?_
      exact r_sub [1, 3, 0] rfl h
    · replace h := h.2.2 c
      refine r_iconst ok 0 d_Md_mayGet_39 rfl ?_
      exact hQ _ _ _ _ _ (ok_code ok) d_Md_mayGet_40 (by decide) h
  · replace h := h.2.2 c
    refine r_aload_n ok 0 d_Md_mayGet_9 rfl rfl ?_
    refine g_Md_missing ok d_Md_mayGet_10 ?_
    refine r_iload_n ok 2 d_Md_mayGet_13 rfl rfl ?_
    refine r_iald ok 106 d_Md_mayGet_14 (by decide) rfl h.1 ?_
    replace h := h.2
    refine r_aload_n ok 0 d_Md_mayGet_15 rfl rfl ?_
    refine g_Md_given ok d_Md_mayGet_16 ?_
    refine r_iload_n ok 1 d_Md_mayGet_19 rfl rfl ?_
    refine r_iald ok 104 d_Md_mayGet_20 (by decide) rfl h.1 ?_
    replace h := h.2
    refine r_icmp_ne ok 28 d_Md_mayGet_21 (by decide) h.1 h.2.1 (fun c => ?_) (fun c => ?_)
    · replace h := h.2.2.1 c
      refine r_iconst ok 0 d_Md_mayGet_28 rfl ?_
      exact hQ _ _ _ _ _ (ok_code ok) d_Md_mayGet_29 (by decide) h
    · replace h := h.2.2.2 c
      refine r_iconst ok 1 d_Md_mayGet_24 rfl ?_
      refine r_goto ok 29 d_Md_mayGet_25 (by decide) ?_
      exact hQ _ _ _ _ _ (ok_code ok) d_Md_mayGet_29 (by decide) h
theorem L_Md_mayGet (l : Launch) (G : GE) (A : Nat → Prop) (hD : ∀ σ, va_D A (GW G σ)) {x1 x2 : Int} {s : SS} {Q : Int → SS → Prop} (h : Sp_Md_mayGet x1 x2 s Q) : Met l y_Md_mayGet (Cond.code y_Md_mayGet prog_12_method_81_code 4 (some .boolean) :: lw_ok) ({ frames := 2, cells := 0, slots := 0, locals := 47 } : Room) (va_Pc [.ref (G.1 10), vI x1, vI x2] (gB G s)) (va_Qi (fun (r : Int32) (s2 : SS) => ∃ x : Int, r = iI x ∧ Q x s2) (fun s2 t => gB G s2 t) A) 0 0 A := by
  refine met_z hD (by decide) ⟨rfl, rfl⟩ (Nat.le_of_ble_eq_true rfl) (lv := [(0, .ref (G.1 10)), (1, vI x1), (2, vI x2)]) rfl (fun F h1 h2 h3 hm ok hQ => ?_)
  subst h1 h2 h3
  have hDF := hD
  exact K_Md_mayGet_e hDF hm ok hQ (h _ (fun _ _ _ hb => K_Md_mayGet_43 hDF hm ok hQ hb))
theorem d_Md_waysOf_0 : decode prog_12_method_82_code 0 = .ok (.iconst 0, 1) := by decide +kernel
theorem d_Md_waysOf_1 : decode prog_12_method_82_code 1 = .ok (.istore 4, 2) := by decide +kernel
theorem d_Md_waysOf_3 : decode prog_12_method_82_code 3 = .ok (.iload 4, 2) := by decide +kernel
theorem d_Md_waysOf_5 : decode prog_12_method_82_code 5 = .ok (.sipush 1024, 3) := by decide +kernel
theorem d_Md_waysOf_8 : decode prog_12_method_82_code 8 = .ok (.if_icmp .ge 26, 3) := by decide +kernel
theorem d_Md_waysOf_11 : decode prog_12_method_82_code 11 = .ok (.aload_n 0, 1) := by decide +kernel
theorem d_Md_waysOf_12 : decode prog_12_method_82_code 12 = .ok (.getfield 172, 3) := by decide +kernel
theorem d_Md_waysOf_15 : decode prog_12_method_82_code 15 = .ok (.iload 4, 2) := by decide +kernel
theorem d_Md_waysOf_17 : decode prog_12_method_82_code 17 = .ok (.iload 4, 2) := by decide +kernel
theorem d_Md_waysOf_19 : decode prog_12_method_82_code 19 = .ok (.ifCond .ne 7, 3) := by decide +kernel
theorem d_Md_waysOf_22 : decode prog_12_method_82_code 22 = .ok (.iconst 1, 1) := by decide +kernel
theorem d_Md_waysOf_23 : decode prog_12_method_82_code 23 = .ok (.goto 4, 3) := by decide +kernel
theorem d_Md_waysOf_26 : decode prog_12_method_82_code 26 = .ok (.iconst 0, 1) := by decide +kernel
theorem d_Md_waysOf_27 : decode prog_12_method_82_code 27 = .ok (.iastore, 1) := by decide +kernel
theorem d_Md_waysOf_28 : decode prog_12_method_82_code 28 = .ok (.iinc 4 1, 3) := by decide +kernel
theorem d_Md_waysOf_31 : decode prog_12_method_82_code 31 = .ok (.goto (-28), 3) := by decide +kernel
theorem d_Md_waysOf_34 : decode prog_12_method_82_code 34 = .ok (.iconst 0, 1) := by decide +kernel
theorem d_Md_waysOf_35 : decode prog_12_method_82_code 35 = .ok (.istore 4, 2) := by decide +kernel
theorem d_Md_waysOf_37 : decode prog_12_method_82_code 37 = .ok (.iload 4, 2) := by decide +kernel
theorem d_Md_waysOf_39 : decode prog_12_method_82_code 39 = .ok (.aload_n 0, 1) := by decide +kernel
theorem d_Md_waysOf_40 : decode prog_12_method_82_code 40 = .ok (.getfield 401, 3) := by decide +kernel
theorem d_Md_waysOf_43 : decode prog_12_method_82_code 43 = .ok (.if_icmp .ge 208, 3) := by decide +kernel
theorem d_Md_waysOf_46 : decode prog_12_method_82_code 46 = .ok (.iload_n 1, 1) := by decide +kernel
theorem d_Md_waysOf_47 : decode prog_12_method_82_code 47 = .ok (.iload 4, 2) := by decide +kernel
theorem d_Md_waysOf_49 : decode prog_12_method_82_code 49 = .ok (.ishr, 1) := by decide +kernel
theorem d_Md_waysOf_50 : decode prog_12_method_82_code 50 = .ok (.iconst 1, 1) := by decide +kernel
theorem d_Md_waysOf_51 : decode prog_12_method_82_code 51 = .ok (.iand, 1) := by decide +kernel
theorem d_Md_waysOf_52 : decode prog_12_method_82_code 52 = .ok (.ifCond .ne 6, 3) := by decide +kernel
theorem d_Md_waysOf_55 : decode prog_12_method_82_code 55 = .ok (.goto 190, 3) := by decide +kernel
theorem d_Md_waysOf_58 : decode prog_12_method_82_code 58 = .ok (.iconst 0, 1) := by decide +kernel
theorem d_Md_waysOf_59 : decode prog_12_method_82_code 59 = .ok (.istore 5, 2) := by decide +kernel
theorem d_Md_waysOf_61 : decode prog_12_method_82_code 61 = .ok (.iload 5, 2) := by decide +kernel
theorem d_Md_waysOf_63 : decode prog_12_method_82_code 63 = .ok (.sipush 1024, 3) := by decide +kernel
theorem d_Md_waysOf_66 : decode prog_12_method_82_code 66 = .ok (.if_icmp .ge 31, 3) := by decide +kernel
theorem d_Md_waysOf_69 : decode prog_12_method_82_code 69 = .ok (.aload_n 0, 1) := by decide +kernel
theorem d_Md_waysOf_70 : decode prog_12_method_82_code 70 = .ok (.getfield 175, 3) := by decide +kernel
theorem d_Md_waysOf_73 : decode prog_12_method_82_code 73 = .ok (.iload 5, 2) := by decide +kernel
theorem d_Md_waysOf_75 : decode prog_12_method_82_code 75 = .ok (.aload_n 0, 1) := by decide +kernel
theorem d_Md_waysOf_76 : decode prog_12_method_82_code 76 = .ok (.getfield 172, 3) := by decide +kernel
theorem d_Md_waysOf_79 : decode prog_12_method_82_code 79 = .ok (.iload 5, 2) := by decide +kernel
theorem d_Md_waysOf_81 : decode prog_12_method_82_code 81 = .ok (.iaload, 1) := by decide +kernel
theorem d_Md_waysOf_82 : decode prog_12_method_82_code 82 = .ok (.iastore, 1) := by decide +kernel
theorem d_Md_waysOf_83 : decode prog_12_method_82_code 83 = .ok (.aload_n 0, 1) := by decide +kernel
theorem d_Md_waysOf_84 : decode prog_12_method_82_code 84 = .ok (.getfield 172, 3) := by decide +kernel
theorem d_Md_waysOf_87 : decode prog_12_method_82_code 87 = .ok (.iload 5, 2) := by decide +kernel
theorem d_Md_waysOf_89 : decode prog_12_method_82_code 89 = .ok (.iconst 0, 1) := by decide +kernel
theorem d_Md_waysOf_90 : decode prog_12_method_82_code 90 = .ok (.iastore, 1) := by decide +kernel
theorem d_Md_waysOf_91 : decode prog_12_method_82_code 91 = .ok (.iinc 5 1, 3) := by decide +kernel
theorem d_Md_waysOf_94 : decode prog_12_method_82_code 94 = .ok (.goto (-33), 3) := by decide +kernel
theorem d_Md_waysOf_97 : decode prog_12_method_82_code 97 = .ok (.iconst 0, 1) := by decide +kernel
theorem d_Md_waysOf_98 : decode prog_12_method_82_code 98 = .ok (.istore 5, 2) := by decide +kernel
theorem d_Md_waysOf_100 : decode prog_12_method_82_code 100 = .ok (.iload 5, 2) := by decide +kernel
theorem d_Md_waysOf_102 : decode prog_12_method_82_code 102 = .ok (.aload_n 0, 1) := by decide +kernel
theorem d_Md_waysOf_103 : decode prog_12_method_82_code 103 = .ok (.getfield 411, 3) := by decide +kernel
theorem d_Md_waysOf_106 : decode prog_12_method_82_code 106 = .ok (.if_icmp .ge 139, 3) := by decide +kernel
theorem d_Md_waysOf_109 : decode prog_12_method_82_code 109 = .ok (.aload_n 0, 1) := by decide +kernel
theorem d_Md_waysOf_110 : decode prog_12_method_82_code 110 = .ok (.iload 4, 2) := by decide +kernel
theorem d_Md_waysOf_112 : decode prog_12_method_82_code 112 = .ok (.iload 5, 2) := by decide +kernel
theorem d_Md_waysOf_114 : decode prog_12_method_82_code 114 = .ok (.invokevirtual 426, 3) := by decide +kernel
theorem d_Md_waysOf_117 : decode prog_12_method_82_code 117 = .ok (.ifCond .eq 122, 3) := by decide +kernel
theorem d_Md_waysOf_120 : decode prog_12_method_82_code 120 = .ok (.iload 4, 2) := by decide +kernel
theorem d_Md_waysOf_122 : decode prog_12_method_82_code 122 = .ok (.iload_n 2, 1) := by decide +kernel
theorem d_Md_waysOf_123 : decode prog_12_method_82_code 123 = .ok (.if_icmp .ne 12, 3) := by decide +kernel
theorem d_Md_waysOf_126 : decode prog_12_method_82_code 126 = .ok (.iload 5, 2) := by decide +kernel
theorem d_Md_waysOf_128 : decode prog_12_method_82_code 128 = .ok (.iload_n 3, 1) := by decide +kernel
theorem d_Md_waysOf_129 : decode prog_12_method_82_code 129 = .ok (.if_icmp .eq 6, 3) := by decide +kernel
theorem d_Md_waysOf_132 : decode prog_12_method_82_code 132 = .ok (.goto 107, 3) := by decide +kernel
theorem d_Md_waysOf_135 : decode prog_12_method_82_code 135 = .ok (.iconst 1, 1) := by decide +kernel
theorem d_Md_waysOf_136 : decode prog_12_method_82_code 136 = .ok (.aload_n 0, 1) := by decide +kernel
theorem d_Md_waysOf_137 : decode prog_12_method_82_code 137 = .ok (.getfield 169, 3) := by decide +kernel
theorem d_Md_waysOf_140 : decode prog_12_method_82_code 140 = .ok (.iload 5, 2) := by decide +kernel
theorem d_Md_waysOf_142 : decode prog_12_method_82_code 142 = .ok (.iaload, 1) := by decide +kernel
theorem d_Md_waysOf_143 : decode prog_12_method_82_code 143 = .ok (.ishl, 1) := by decide +kernel
theorem d_Md_waysOf_144 : decode prog_12_method_82_code 144 = .ok (.istore 6, 2) := by decide +kernel
theorem d_Md_waysOf_146 : decode prog_12_method_82_code 146 = .ok (.iconst 0, 1) := by decide +kernel
theorem d_Md_waysOf_147 : decode prog_12_method_82_code 147 = .ok (.istore 7, 2) := by decide +kernel
theorem d_Md_waysOf_149 : decode prog_12_method_82_code 149 = .ok (.iload 7, 2) := by decide +kernel
theorem d_Md_waysOf_151 : decode prog_12_method_82_code 151 = .ok (.sipush 1024, 3) := by decide +kernel
theorem d_Md_waysOf_154 : decode prog_12_method_82_code 154 = .ok (.if_icmp .ge 85, 3) := by decide +kernel
theorem d_Md_waysOf_157 : decode prog_12_method_82_code 157 = .ok (.iload 7, 2) := by decide +kernel
theorem d_Md_waysOf_159 : decode prog_12_method_82_code 159 = .ok (.iload 6, 2) := by decide +kernel
theorem d_Md_waysOf_161 : decode prog_12_method_82_code 161 = .ok (.iand, 1) := by decide +kernel
theorem d_Md_waysOf_162 : decode prog_12_method_82_code 162 = .ok (.ifCond .ne 71, 3) := by decide +kernel
theorem d_Md_waysOf_165 : decode prog_12_method_82_code 165 = .ok (.aload_n 0, 1) := by decide +kernel
theorem d_Md_waysOf_166 : decode prog_12_method_82_code 166 = .ok (.getfield 175, 3) := by decide +kernel
theorem d_Md_waysOf_169 : decode prog_12_method_82_code 169 = .ok (.iload 7, 2) := by decide +kernel
theorem d_Md_waysOf_171 : decode prog_12_method_82_code 171 = .ok (.iaload, 1) := by decide +kernel
theorem d_Md_waysOf_172 : decode prog_12_method_82_code 172 = .ok (.ifCond .le 61, 3) := by decide +kernel
theorem d_Md_waysOf_175 : decode prog_12_method_82_code 175 = .ok (.aload_n 0, 1) := by decide +kernel
theorem d_Md_waysOf_176 : decode prog_12_method_82_code 176 = .ok (.getfield 172, 3) := by decide +kernel
theorem d_Md_waysOf_179 : decode prog_12_method_82_code 179 = .ok (.iload 7, 2) := by decide +kernel
theorem d_Md_waysOf_181 : decode prog_12_method_82_code 181 = .ok (.iload 6, 2) := by decide +kernel
theorem d_Md_waysOf_183 : decode prog_12_method_82_code 183 = .ok (.ior, 1) := by decide +kernel
theorem d_Md_waysOf_184 : decode prog_12_method_82_code 184 = .ok (.aload_n 0, 1) := by decide +kernel
theorem d_Md_waysOf_185 : decode prog_12_method_82_code 185 = .ok (.getfield 172, 3) := by decide +kernel
theorem d_Md_waysOf_188 : decode prog_12_method_82_code 188 = .ok (.iload 7, 2) := by decide +kernel
theorem d_Md_waysOf_190 : decode prog_12_method_82_code 190 = .ok (.iload 6, 2) := by decide +kernel
theorem d_Md_waysOf_192 : decode prog_12_method_82_code 192 = .ok (.ior, 1) := by decide +kernel
theorem d_Md_waysOf_193 : decode prog_12_method_82_code 193 = .ok (.iaload, 1) := by decide +kernel
theorem d_Md_waysOf_194 : decode prog_12_method_82_code 194 = .ok (.aload_n 0, 1) := by decide +kernel
theorem d_Md_waysOf_195 : decode prog_12_method_82_code 195 = .ok (.getfield 175, 3) := by decide +kernel
theorem d_Md_waysOf_198 : decode prog_12_method_82_code 198 = .ok (.iload 7, 2) := by decide +kernel
theorem d_Md_waysOf_200 : decode prog_12_method_82_code 200 = .ok (.iaload, 1) := by decide +kernel
theorem d_Md_waysOf_201 : decode prog_12_method_82_code 201 = .ok (.iadd, 1) := by decide +kernel
theorem d_Md_waysOf_202 : decode prog_12_method_82_code 202 = .ok (.ldc_w 429, 3) := by decide +kernel
theorem d_Md_waysOf_205 : decode prog_12_method_82_code 205 = .ok (.if_icmp .le 9, 3) := by decide +kernel
theorem d_Md_waysOf_208 : decode prog_12_method_82_code 208 = .ok (.ldc_w 429, 3) := by decide +kernel
theorem d_Md_waysOf_211 : decode prog_12_method_82_code 211 = .ok (.goto 21, 3) := by decide +kernel
theorem d_Md_waysOf_214 : decode prog_12_method_82_code 214 = .ok (.aload_n 0, 1) := by decide +kernel
theorem d_Md_waysOf_215 : decode prog_12_method_82_code 215 = .ok (.getfield 172, 3) := by decide +kernel
theorem d_Md_waysOf_218 : decode prog_12_method_82_code 218 = .ok (.iload 7, 2) := by decide +kernel
theorem d_Md_waysOf_220 : decode prog_12_method_82_code 220 = .ok (.iload 6, 2) := by decide +kernel
theorem d_Md_waysOf_222 : decode prog_12_method_82_code 222 = .ok (.ior, 1) := by decide +kernel
theorem d_Md_waysOf_223 : decode prog_12_method_82_code 223 = .ok (.iaload, 1) := by decide +kernel
theorem d_Md_waysOf_224 : decode prog_12_method_82_code 224 = .ok (.aload_n 0, 1) := by decide +kernel
theorem d_Md_waysOf_225 : decode prog_12_method_82_code 225 = .ok (.getfield 175, 3) := by decide +kernel
theorem d_Md_waysOf_228 : decode prog_12_method_82_code 228 = .ok (.iload 7, 2) := by decide +kernel
theorem d_Md_waysOf_230 : decode prog_12_method_82_code 230 = .ok (.iaload, 1) := by decide +kernel
theorem d_Md_waysOf_231 : decode prog_12_method_82_code 231 = .ok (.iadd, 1) := by decide +kernel
theorem d_Md_waysOf_232 : decode prog_12_method_82_code 232 = .ok (.iastore, 1) := by decide +kernel
theorem d_Md_waysOf_233 : decode prog_12_method_82_code 233 = .ok (.iinc 7 1, 3) := by decide +kernel
theorem d_Md_waysOf_236 : decode prog_12_method_82_code 236 = .ok (.goto (-87), 3) := by decide +kernel
theorem d_Md_waysOf_239 : decode prog_12_method_82_code 239 = .ok (.iinc 5 1, 3) := by decide +kernel
theorem d_Md_waysOf_242 : decode prog_12_method_82_code 242 = .ok (.goto (-142), 3) := by decide +kernel
theorem d_Md_waysOf_245 : decode prog_12_method_82_code 245 = .ok (.iinc 4 1, 3) := by decide +kernel
theorem d_Md_waysOf_248 : decode prog_12_method_82_code 248 = .ok (.goto (-211), 3) := by decide +kernel
theorem d_Md_waysOf_251 : decode prog_12_method_82_code 251 = .ok (.iconst 0, 1) := by decide +kernel
theorem d_Md_waysOf_252 : decode prog_12_method_82_code 252 = .ok (.istore 4, 2) := by decide +kernel
theorem d_Md_waysOf_254 : decode prog_12_method_82_code 254 = .ok (.iconst 0, 1) := by decide +kernel
theorem d_Md_waysOf_255 : decode prog_12_method_82_code 255 = .ok (.istore 5, 2) := by decide +kernel
theorem d_Md_waysOf_257 : decode prog_12_method_82_code 257 = .ok (.iload 5, 2) := by decide +kernel
theorem d_Md_waysOf_259 : decode prog_12_method_82_code 259 = .ok (.sipush 1024, 3) := by decide +kernel
theorem d_Md_waysOf_262 : decode prog_12_method_82_code 262 = .ok (.if_icmp .ge 43, 3) := by decide +kernel
theorem d_Md_waysOf_265 : decode prog_12_method_82_code 265 = .ok (.iload 4, 2) := by decide +kernel
theorem d_Md_waysOf_267 : decode prog_12_method_82_code 267 = .ok (.aload_n 0, 1) := by decide +kernel
theorem d_Md_waysOf_268 : decode prog_12_method_82_code 268 = .ok (.getfield 172, 3) := by decide +kernel
theorem d_Md_waysOf_271 : decode prog_12_method_82_code 271 = .ok (.iload 5, 2) := by decide +kernel
theorem d_Md_waysOf_273 : decode prog_12_method_82_code 273 = .ok (.iaload, 1) := by decide +kernel
theorem d_Md_waysOf_274 : decode prog_12_method_82_code 274 = .ok (.iadd, 1) := by decide +kernel
theorem d_Md_waysOf_275 : decode prog_12_method_82_code 275 = .ok (.ldc_w 429, 3) := by decide +kernel
theorem d_Md_waysOf_278 : decode prog_12_method_82_code 278 = .ok (.if_icmp .le 9, 3) := by decide +kernel
theorem d_Md_waysOf_281 : decode prog_12_method_82_code 281 = .ok (.ldc_w 429, 3) := by decide +kernel
theorem d_Md_waysOf_284 : decode prog_12_method_82_code 284 = .ok (.goto 13, 3) := by decide +kernel
theorem d_Md_waysOf_287 : decode prog_12_method_82_code 287 = .ok (.iload 4, 2) := by decide +kernel
theorem d_Md_waysOf_289 : decode prog_12_method_82_code 289 = .ok (.aload_n 0, 1) := by decide +kernel
theorem d_Md_waysOf_290 : decode prog_12_method_82_code 290 = .ok (.getfield 172, 3) := by decide +kernel
theorem d_Md_waysOf_293 : decode prog_12_method_82_code 293 = .ok (.iload 5, 2) := by decide +kernel
theorem d_Md_waysOf_295 : decode prog_12_method_82_code 295 = .ok (.iaload, 1) := by decide +kernel
theorem d_Md_waysOf_296 : decode prog_12_method_82_code 296 = .ok (.iadd, 1) := by decide +kernel
theorem d_Md_waysOf_297 : decode prog_12_method_82_code 297 = .ok (.istore 4, 2) := by decide +kernel
theorem d_Md_waysOf_299 : decode prog_12_method_82_code 299 = .ok (.iinc 5 1, 3) := by decide +kernel
theorem d_Md_waysOf_302 : decode prog_12_method_82_code 302 = .ok (.goto (-45), 3) := by decide +kernel
theorem d_Md_waysOf_305 : decode prog_12_method_82_code 305 = .ok (.iload 4, 2) := by decide +kernel
theorem d_Md_waysOf_307 : decode prog_12_method_82_code 307 = .ok (.ireturn, 1) := by decide +kernel
set_option maxHeartbeats 4000000 in
set_option maxRecDepth 100000 in
theorem K_Md_waysOf_3 {F : FT} (hD : ∀ σ, va_D F.2.2.1 (GW F.2.1 σ)) (hm : F.2.2.2.2.2.2.2.2.2.2.2.2.2.2.1 = 8) (ok : OkF F prog_12_method_82_code "LastSeenModel" ({ frames := 3, cells := 0, slots := 0, locals := 70 } : Room)) {Q : Int → SS → Prop} (hQ : RetI F Q) {x1 x2 x3 x4 : Int} {s : SS} (h : B_Md_waysOf_3 Q (fun x1 x2 x3 x4 s => AtS F 3 [(0, .ref (F.2.1.1 10)), (1, vI x1), (2, vI x2), (3, vI x3), (4, vI x4)] [] s) (fun x1 x2 x3 x4 s => AtS F 37 [(0, .ref (F.2.1.1 10)), (1, vI x1), (2, vI x2), (3, vI x3), (4, vI x4)] [] s) (fun x1 x2 x3 x4 x5 s => AtS F 61 [(0, .ref (F.2.1.1 10)), (1, vI x1), (2, vI x2), (3, vI x3), (4, vI x4), (5, vI x5)] [] s) (fun x1 x2 x3 x4 x5 s => AtS F 100 [(0, .ref (F.2.1.1 10)), (1, vI x1), (2, vI x2), (3, vI x3), (4, vI x4), (5, vI x5)] [] s) (fun x1 x2 x3 x4 x5 x6 x7 s => AtS F 149 [(0, .ref (F.2.1.1 10)), (1, vI x1), (2, vI x2), (3, vI x3), (4, vI x4), (5, vI x5), (6, vI x6), (7, vI x7)] [] s) (fun x4 x5 s => AtS F 257 [(0, .ref (F.2.1.1 10)), (4, vI x4), (5, vI x5)] [] s) x1 x2 x3 x4 s) : AtS F 3 [(0, .ref (F.2.1.1 10)), (1, vI x1), (2, vI x2), (3, vI x3), (4, vI x4)] [] s := by
  unfold B_Md_waysOf_3 at h
  refine r_iload ok 4 d_Md_waysOf_3 rfl ?_
  refine r_sipush ok 1024 d_Md_waysOf_5 (by decide) ?_
  refine r_icmp_ge ok 34 d_Md_waysOf_8 (by decide) h.1 (by decide) (fun c => ?_) (fun c => ?_)
  · replace h := h.2.1 c
    refine r_iconst ok 0 d_Md_waysOf_34 rfl ?_
    refine r_istore ok [(4, vI 0), (0, .ref (F.2.1.1 10)), (1, vI x1), (2, vI x2), (3, vI x3)] d_Md_waysOf_35 hm (by decide) rfl ?_
    exact r_sub [1, 2, 3, 4, 0] rfl h
  · replace h := h.2.2 c
    refine r_aload_n ok 0 d_Md_waysOf_11 rfl rfl ?_
    refine g_Md_ways ok d_Md_waysOf_12 ?_
    refine r_iload ok 4 d_Md_waysOf_15 rfl ?_
    refine r_iload ok 4 d_Md_waysOf_17 rfl ?_
    refine r_if_ne ok 26 d_Md_waysOf_19 (by decide) h.1 (fun c => ?_) (fun c => ?_)
    · replace h := h.2.1 c
      refine r_iconst ok 0 d_Md_waysOf_26 rfl ?_
      refine r_iast ok 111 d_Md_waysOf_27 (by decide) rfl h.1 ?_
      replace h := h.2 _ rfl
      generalize sA s 111 x4 0 = s1 at h ⊢
      refine r_iinc ok 4 (x4 + 1) [(4, vI (x4 + 1)), (0, .ref (F.2.1.1 10)), (1, vI x1), (2, vI x2), (3, vI x3)] d_Md_waysOf_28 rfl rfl hm (by decide) rfl ?_
      refine r_goto ok 3 d_Md_waysOf_31 (by decide) ?_
      exact r_sub [1, 2, 3, 4, 0] rfl h
    · replace h := h.2.2 c
      refine r_iconst ok 1 d_Md_waysOf_22 rfl ?_
      refine r_goto ok 27 d_Md_waysOf_23 (by decide) ?_
      refine r_iast ok 111 d_Md_waysOf_27 (by decide) rfl h.1 ?_
      replace h := h.2 _ rfl
      generalize sA s 111 x4 1 = s2 at h ⊢
      refine r_iinc ok 4 (x4 + 1) [(4, vI (x4 + 1)), (0, .ref (F.2.1.1 10)), (1, vI x1), (2, vI x2), (3, vI x3)] d_Md_waysOf_28 rfl rfl hm (by decide) rfl ?_
      refine r_goto ok 3 d_Md_waysOf_31 (by decide) ?_
      exact r_sub [1, 2, 3, 4, 0] rfl h
set_option maxHeartbeats 4000000 in
set_option maxRecDepth 100000 in
theorem K_Md_waysOf_37 {F : FT} (hD : ∀ σ, va_D F.2.2.1 (GW F.2.1 σ)) (hm : F.2.2.2.2.2.2.2.2.2.2.2.2.2.2.1 = 8) (ok : OkF F prog_12_method_82_code "LastSeenModel" ({ frames := 3, cells := 0, slots := 0, locals := 70 } : Room)) {Q : Int → SS → Prop} (hQ : RetI F Q) {x1 x2 x3 x4 : Int} {s : SS} (h : B_Md_waysOf_37 Q (fun x1 x2 x3 x4 s => AtS F 3 [(0, .ref (F.2.1.1 10)), (1, vI x1), (2, vI x2), (3, vI x3), (4, vI x4)] [] s) (fun x1 x2 x3 x4 s => AtS F 37 [(0, .ref (F.2.1.1 10)), (1, vI x1), (2, vI x2), (3, vI x3), (4, vI x4)] [] s) (fun x1 x2 x3 x4 x5 s => AtS F 61 [(0, .ref (F.2.1.1 10)), (1, vI x1), (2, vI x2), (3, vI x3), (4, vI x4), (5, vI x5)] [] s) (fun x1 x2 x3 x4 x5 s => AtS F 100 [(0, .ref (F.2.1.1 10)), (1, vI x1), (2, vI x2), (3, vI x3), (4, vI x4), (5, vI x5)] [] s) (fun x1 x2 x3 x4 x5 x6 x7 s => AtS F 149 [(0, .ref (F.2.1.1 10)), (1, vI x1), (2, vI x2), (3, vI x3), (4, vI x4), (5, vI x5), (6, vI x6), (7, vI x7)] [] s) (fun x4 x5 s => AtS F 257 [(0, .ref (F.2.1.1 10)), (4, vI x4), (5, vI x5)] [] s) x1 x2 x3 x4 s) : AtS F 37 [(0, .ref (F.2.1.1 10)), (1, vI x1), (2, vI x2), (3, vI x3), (4, vI x4)] [] s := by
  unfold B_Md_waysOf_37 at h
  refine r_iload ok 4 d_Md_waysOf_37 rfl ?_
  refine r_aload_n ok 0 d_Md_waysOf_39 rfl rfl ?_
  refine g_Md_sets ok d_Md_waysOf_40 ?_
  refine r_icmp_ge ok 251 d_Md_waysOf_43 (by decide) h.1 h.2.1 (fun c => ?_) (fun c => ?_)
  · replace h := h.2.2.1 c
    refine r_iconst ok 0 d_Md_waysOf_251 rfl ?_
    refine r_istore ok [(4, vI 0), (0, .ref (F.2.1.1 10)), (1, vI x1), (2, vI x2), (3, vI x3)] d_Md_waysOf_252 hm (by decide) rfl ?_
    refine r_iconst ok 0 d_Md_waysOf_254 rfl ?_
    refine r_istore ok [(5, vI 0), (4, vI 0), (0, .ref (F.2.1.1 10)), (1, vI x1), (2, vI x2), (3, vI x3)] d_Md_waysOf_255 hm (by decide) rfl ?_
    exact r_sub [2, 1, 0] rfl h
  · replace h := h.2.2.2 c
    refine r_iload_n ok 1 d_Md_waysOf_46 rfl rfl ?_
    refine r_iload ok 4 d_Md_waysOf_47 rfl ?_
    refine r_ishr ok d_Md_waysOf_49 ?_
    refine r_iconst ok 1 d_Md_waysOf_50 rfl ?_
    refine r_iand ok d_Md_waysOf_51 ?_
    refine r_if_ne ok 58 d_Md_waysOf_52 (by decide) h.1 (fun c => ?_) (fun c => ?_)
    · replace h := h.2.1 c
      refine r_iconst ok 0 d_Md_waysOf_58 rfl ?_
      refine r_istore ok [(5, vI 0), (0, .ref (F.2.1.1 10)), (1, vI x1), (2, vI x2), (3, vI x3), (4, vI x4)] d_Md_waysOf_59 hm (by decide) rfl ?_
      exact r_sub [1, 2, 3, 4, 5, 0] rfl h
    · replace h := h.2.2 c
      refine r_goto ok 245 d_Md_waysOf_55 (by decide) ?_
      refine r_iinc ok 4 (x4 + 1) [(4, vI (x4 + 1)), (0, .ref (F.2.1.1 10)), (1, vI x1), (2, vI x2), (3, vI x3)] d_Md_waysOf_245 rfl rfl hm (by decide) rfl ?_
      refine r_goto ok 37 d_Md_waysOf_248 (by decide) ?_
      exact r_sub [1, 2, 3, 4, 0] rfl h
set_option maxHeartbeats 4000000 in
set_option maxRecDepth 100000 in
theorem K_Md_waysOf_61 {F : FT} (hD : ∀ σ, va_D F.2.2.1 (GW F.2.1 σ)) (hm : F.2.2.2.2.2.2.2.2.2.2.2.2.2.2.1 = 8) (ok : OkF F prog_12_method_82_code "LastSeenModel" ({ frames := 3, cells := 0, slots := 0, locals := 70 } : Room)) {Q : Int → SS → Prop} (hQ : RetI F Q) {x1 x2 x3 x4 x5 : Int} {s : SS} (h : B_Md_waysOf_61 Q (fun x1 x2 x3 x4 s => AtS F 3 [(0, .ref (F.2.1.1 10)), (1, vI x1), (2, vI x2), (3, vI x3), (4, vI x4)] [] s) (fun x1 x2 x3 x4 s => AtS F 37 [(0, .ref (F.2.1.1 10)), (1, vI x1), (2, vI x2), (3, vI x3), (4, vI x4)] [] s) (fun x1 x2 x3 x4 x5 s => AtS F 61 [(0, .ref (F.2.1.1 10)), (1, vI x1), (2, vI x2), (3, vI x3), (4, vI x4), (5, vI x5)] [] s) (fun x1 x2 x3 x4 x5 s => AtS F 100 [(0, .ref (F.2.1.1 10)), (1, vI x1), (2, vI x2), (3, vI x3), (4, vI x4), (5, vI x5)] [] s) (fun x1 x2 x3 x4 x5 x6 x7 s => AtS F 149 [(0, .ref (F.2.1.1 10)), (1, vI x1), (2, vI x2), (3, vI x3), (4, vI x4), (5, vI x5), (6, vI x6), (7, vI x7)] [] s) (fun x4 x5 s => AtS F 257 [(0, .ref (F.2.1.1 10)), (4, vI x4), (5, vI x5)] [] s) x1 x2 x3 x4 x5 s) : AtS F 61 [(0, .ref (F.2.1.1 10)), (1, vI x1), (2, vI x2), (3, vI x3), (4, vI x4), (5, vI x5)] [] s := by
  unfold B_Md_waysOf_61 at h
  refine r_iload ok 5 d_Md_waysOf_61 rfl ?_
  refine r_sipush ok 1024 d_Md_waysOf_63 (by decide) ?_
  refine r_icmp_ge ok 97 d_Md_waysOf_66 (by decide) h.1 (by decide) (fun c => ?_) (fun c => ?_)
  · replace h := h.2.1 c
    refine r_iconst ok 0 d_Md_waysOf_97 rfl ?_
    refine r_istore ok [(5, vI 0), (0, .ref (F.2.1.1 10)), (1, vI x1), (2, vI x2), (3, vI x3), (4, vI x4)] d_Md_waysOf_98 hm (by decide) rfl ?_
    exact r_sub [1, 2, 3, 4, 5, 0] rfl h
  · replace h := h.2.2 c
    refine r_aload_n ok 0 d_Md_waysOf_69 rfl rfl ?_
    refine g_Md_waysBefore ok d_Md_waysOf_70 ?_
    refine r_iload ok 5 d_Md_waysOf_73 rfl ?_
    refine r_aload_n ok 0 d_Md_waysOf_75 rfl rfl ?_
    refine g_Md_ways ok d_Md_waysOf_76 ?_
    refine r_iload ok 5 d_Md_waysOf_79 rfl ?_
    refine r_iald ok 111 d_Md_waysOf_81 (by decide) rfl h.1 ?_
    replace h := h.2
    refine r_iast ok 112 d_Md_waysOf_82 (by decide) rfl h.1 ?_
    replace h := h.2 _ rfl
    generalize sA s 112 x5 (s.2 111 x5) = s3 at h ⊢
    refine r_aload_n ok 0 d_Md_waysOf_83 rfl rfl ?_
    refine g_Md_ways ok d_Md_waysOf_84 ?_
    refine r_iload ok 5 d_Md_waysOf_87 rfl ?_
    refine r_iconst ok 0 d_Md_waysOf_89 rfl ?_
    refine r_iast ok 111 d_Md_waysOf_90 (by decide) rfl h.1 ?_
    replace h := h.2 _ rfl
    generalize sA s3 111 x5 0 = s4 at h ⊢
    refine r_iinc ok 5 (x5 + 1) [(5, vI (x5 + 1)), (0, .ref (F.2.1.1 10)), (1, vI x1), (2, vI x2), (3, vI x3), (4, vI x4)] d_Md_waysOf_91 rfl rfl hm (by decide) rfl ?_
    refine r_goto ok 61 d_Md_waysOf_94 (by decide) ?_
    exact r_sub [1, 2, 3, 4, 5, 0] rfl h
set_option maxHeartbeats 4000000 in
set_option maxRecDepth 100000 in
theorem K_Md_waysOf_100 {F : FT} (hD : ∀ σ, va_D F.2.2.1 (GW F.2.1 σ)) (hm : F.2.2.2.2.2.2.2.2.2.2.2.2.2.2.1 = 8) (ok : OkF F prog_12_method_82_code "LastSeenModel" ({ frames := 3, cells := 0, slots := 0, locals := 70 } : Room)) {Q : Int → SS → Prop} (hQ : RetI F Q) {x1 x2 x3 x4 x5 : Int} {s : SS} (h : B_Md_waysOf_100 Q (fun x1 x2 x3 x4 s => AtS F 3 [(0, .ref (F.2.1.1 10)), (1, vI x1), (2, vI x2), (3, vI x3), (4, vI x4)] [] s) (fun x1 x2 x3 x4 s => AtS F 37 [(0, .ref (F.2.1.1 10)), (1, vI x1), (2, vI x2), (3, vI x3), (4, vI x4)] [] s) (fun x1 x2 x3 x4 x5 s => AtS F 61 [(0, .ref (F.2.1.1 10)), (1, vI x1), (2, vI x2), (3, vI x3), (4, vI x4), (5, vI x5)] [] s) (fun x1 x2 x3 x4 x5 s => AtS F 100 [(0, .ref (F.2.1.1 10)), (1, vI x1), (2, vI x2), (3, vI x3), (4, vI x4), (5, vI x5)] [] s) (fun x1 x2 x3 x4 x5 x6 x7 s => AtS F 149 [(0, .ref (F.2.1.1 10)), (1, vI x1), (2, vI x2), (3, vI x3), (4, vI x4), (5, vI x5), (6, vI x6), (7, vI x7)] [] s) (fun x4 x5 s => AtS F 257 [(0, .ref (F.2.1.1 10)), (4, vI x4), (5, vI x5)] [] s) x1 x2 x3 x4 x5 s) : AtS F 100 [(0, .ref (F.2.1.1 10)), (1, vI x1), (2, vI x2), (3, vI x3), (4, vI x4), (5, vI x5)] [] s := by
  unfold B_Md_waysOf_100 at h
  refine r_iload ok 5 d_Md_waysOf_100 rfl ?_
  refine r_aload_n ok 0 d_Md_waysOf_102 rfl rfl ?_
  refine g_Md_missed ok d_Md_waysOf_103 ?_
  refine r_icmp_ge ok 245 d_Md_waysOf_106 (by decide) h.1 h.2.1 (fun c => ?_) (fun c => ?_)
  · replace h := h.2.2.1 c
    refine r_iinc ok 4 (x4 + 1) [(4, vI (x4 + 1)), (0, .ref (F.2.1.1 10)), (1, vI x1), (2, vI x2), (3, vI x3), (5, vI x5)] d_Md_waysOf_245 rfl rfl hm (by decide) rfl ?_
    refine r_goto ok 37 d_Md_waysOf_248 (by decide) ?_
    exact r_sub [1, 2, 3, 4, 0] rfl h
  · replace h := h.2.2.2 c
    refine r_aload_n ok 0 d_Md_waysOf_109 rfl rfl ?_
    refine r_iload ok 4 d_Md_waysOf_110 rfl ?_
    refine r_iload ok 5 d_Md_waysOf_112 rfl ?_
    refine r_callVi (As := [vI x4, vI x5]) (rest := []) ok 10 rfl rfl rfl wl_Md_426 wi_y_Md_mayGet ws_y_Md_mayGet wn_Md wc_y_Md_mayGet (by decide) (by decide) hh_Md_mayGet (Nat.le_of_ble_eq_true rfl) rfl d_Md_waysOf_114 (L_Md_mayGet F.1 F.2.1 F.2.2.1 hD h) (fun r6 s5 h => ?_)
    refine r_if_eq ok 239 d_Md_waysOf_117 (by decide) h.1 (fun c => ?_) (fun c => ?_)
    · replace h := h.2.1 c
      refine r_iinc ok 5 (x5 + 1) [(5, vI (x5 + 1)), (0, .ref (F.2.1.1 10)), (1, vI x1), (2, vI x2), (3, vI x3), (4, vI x4)] d_Md_waysOf_239 rfl rfl hm (by decide) rfl ?_
      refine r_goto ok 100 d_Md_waysOf_242 (by decide) ?_
      exact r_sub [1, 2, 3, 4, 5, 0] rfl h
    · replace h := h.2.2 c
      refine r_iload ok 4 d_Md_waysOf_120 rfl ?_
      refine r_iload_n ok 2 d_Md_waysOf_122 rfl rfl ?_
      refine r_icmp_ne ok 135 d_Md_waysOf_123 (by decide) h.1 h.2.1 (fun c => ?_) (fun c => ?_)
      · replace h := h.2.2.1 c
        refine r_iconst ok 1 d_Md_waysOf_135 rfl ?_
        refine r_aload_n ok 0 d_Md_waysOf_136 rfl rfl ?_
        refine g_Md_first1 ok d_Md_waysOf_137 ?_
        refine r_iload ok 5 d_Md_waysOf_140 rfl ?_
        refine r_iald ok 110 d_Md_waysOf_142 (by decide) rfl h.1 ?_
        replace h := h.2
        refine r_ishl ok d_Md_waysOf_143 ?_
        refine r_istore ok [(6, vI (shl 1 (s5.2 110 x5))), (0, .ref (F.2.1.1 10)), (1, vI x1), (2, vI x2), (3, vI x3), (4, vI x4), (5, vI x5)] d_Md_waysOf_144 hm (by decide) rfl ?_
        refine r_iconst ok 0 d_Md_waysOf_146 rfl ?_
        refine r_istore ok [(7, vI 0), (6, vI (shl 1 (s5.2 110 x5))), (0, .ref (F.2.1.1 10)), (1, vI x1), (2, vI x2), (3, vI x3), (4, vI x4), (5, vI x5)] d_Md_waysOf_147 hm (by decide) rfl ?_
        exact r_sub [2, 3, 4, 5, 6, 7, 1, 0] rfl h
      · replace h := h.2.2.2 c
        refine r_iload ok 5 d_Md_waysOf_126 rfl ?_
        refine r_iload_n ok 3 d_Md_waysOf_128 rfl rfl ?_
        refine r_icmp_eq ok 135 d_Md_waysOf_129 (by decide) h.1 h.2.1 (fun c => ?_) (fun c => ?_)
        · replace h := h.2.2.1 c
          refine r_iconst ok 1 d_Md_waysOf_135 rfl ?_
          refine r_aload_n ok 0 d_Md_waysOf_136 rfl rfl ?_
          refine g_Md_first1 ok d_Md_waysOf_137 ?_
          refine r_iload ok 5 d_Md_waysOf_140 rfl ?_
          refine r_iald ok 110 d_Md_waysOf_142 (by decide) rfl h.1 ?_
          replace h := h.2
          refine r_ishl ok d_Md_waysOf_143 ?_
          refine r_istore ok [(6, vI (shl 1 (s5.2 110 x5))), (0, .ref (F.2.1.1 10)), (1, vI x1), (2, vI x2), (3, vI x3), (4, vI x4), (5, vI x5)] d_Md_waysOf_144 hm (by decide) rfl ?_
          refine r_iconst ok 0 d_Md_waysOf_146 rfl ?_
          refine r_istore ok [(7, vI 0), (6, vI (shl 1 (s5.2 110 x5))), (0, .ref (F.2.1.1 10)), (1, vI x1), (2, vI x2), (3, vI x3), (4, vI x4), (5, vI x5)] d_Md_waysOf_147 hm (by decide) rfl ?_
          exact r_sub [2, 3, 4, 5, 6, 7, 1, 0] rfl h
        · replace h := h.2.2.2 c
          refine r_goto ok 239 d_Md_waysOf_132 (by decide) ?_
          refine r_iinc ok 5 (x5 + 1) [(5, vI (x5 + 1)), (0, .ref (F.2.1.1 10)), (1, vI x1), (2, vI x2), (3, vI x3), (4, vI x4)] d_Md_waysOf_239 rfl rfl hm (by decide) rfl ?_
          refine r_goto ok 100 d_Md_waysOf_242 (by decide) ?_
          exact r_sub [1, 2, 3, 4, 5, 0] rfl h
set_option maxHeartbeats 4000000 in
set_option maxRecDepth 100000 in
theorem K_Md_waysOf_149 {F : FT} (hD : ∀ σ, va_D F.2.2.1 (GW F.2.1 σ)) (hm : F.2.2.2.2.2.2.2.2.2.2.2.2.2.2.1 = 8) (ok : OkF F prog_12_method_82_code "LastSeenModel" ({ frames := 3, cells := 0, slots := 0, locals := 70 } : Room)) {Q : Int → SS → Prop} (hQ : RetI F Q) {x1 x2 x3 x4 x5 x6 x7 : Int} {s : SS} (h : B_Md_waysOf_149 Q (fun x1 x2 x3 x4 s => AtS F 3 [(0, .ref (F.2.1.1 10)), (1, vI x1), (2, vI x2), (3, vI x3), (4, vI x4)] [] s) (fun x1 x2 x3 x4 s => AtS F 37 [(0, .ref (F.2.1.1 10)), (1, vI x1), (2, vI x2), (3, vI x3), (4, vI x4)] [] s) (fun x1 x2 x3 x4 x5 s => AtS F 61 [(0, .ref (F.2.1.1 10)), (1, vI x1), (2, vI x2), (3, vI x3), (4, vI x4), (5, vI x5)] [] s) (fun x1 x2 x3 x4 x5 s => AtS F 100 [(0, .ref (F.2.1.1 10)), (1, vI x1), (2, vI x2), (3, vI x3), (4, vI x4), (5, vI x5)] [] s) (fun x1 x2 x3 x4 x5 x6 x7 s => AtS F 149 [(0, .ref (F.2.1.1 10)), (1, vI x1), (2, vI x2), (3, vI x3), (4, vI x4), (5, vI x5), (6, vI x6), (7, vI x7)] [] s) (fun x4 x5 s => AtS F 257 [(0, .ref (F.2.1.1 10)), (4, vI x4), (5, vI x5)] [] s) x1 x2 x3 x4 x5 x6 x7 s) : AtS F 149 [(0, .ref (F.2.1.1 10)), (1, vI x1), (2, vI x2), (3, vI x3), (4, vI x4), (5, vI x5), (6, vI x6), (7, vI x7)] [] s := by
  unfold B_Md_waysOf_149 at h
  refine r_iload ok 7 d_Md_waysOf_149 rfl ?_
  refine r_sipush ok 1024 d_Md_waysOf_151 (by decide) ?_
  refine r_icmp_ge ok 239 d_Md_waysOf_154 (by decide) h.1 (by decide) (fun c => ?_) (fun c => ?_)
  · replace h := h.2.1 c
    refine r_iinc ok 5 (x5 + 1) [(5, vI (x5 + 1)), (0, .ref (F.2.1.1 10)), (1, vI x1), (2, vI x2), (3, vI x3), (4, vI x4), (6, vI x6), (7, vI x7)] d_Md_waysOf_239 rfl rfl hm (by decide) rfl ?_
    refine r_goto ok 100 d_Md_waysOf_242 (by decide) ?_
    exact r_sub [1, 2, 3, 4, 5, 0] rfl h
  · replace h := h.2.2 c
    refine r_iload ok 7 d_Md_waysOf_157 rfl ?_
    refine r_iload ok 6 d_Md_waysOf_159 rfl ?_
    refine r_iand ok d_Md_waysOf_161 ?_
    refine r_if_ne ok 233 d_Md_waysOf_162 (by decide) h.1 (fun c => ?_) (fun c => ?_)
    · replace h := h.2.1 c
      refine r_iinc ok 7 (x7 + 1) [(7, vI (x7 + 1)), (0, .ref (F.2.1.1 10)), (1, vI x1), (2, vI x2), (3, vI x3), (4, vI x4), (5, vI x5), (6, vI x6)] d_Md_waysOf_233 rfl rfl hm (by decide) rfl ?_
      refine r_goto ok 149 d_Md_waysOf_236 (by decide) ?_
      exact r_sub [1, 2, 3, 4, 5, 6, 7, 0] rfl h
    · replace h := h.2.2 c
      refine r_aload_n ok 0 d_Md_waysOf_165 rfl rfl ?_
      refine g_Md_waysBefore ok d_Md_waysOf_166 ?_
      refine r_iload ok 7 d_Md_waysOf_169 rfl ?_
      refine r_iald ok 112 d_Md_waysOf_171 (by decide) rfl h.1 ?_
      replace h := h.2
      refine r_if_le ok 233 d_Md_waysOf_172 (by decide) h.1 (fun c => ?_) (fun c => ?_)
      · replace h := h.2.1 c
        refine r_iinc ok 7 (x7 + 1) [(7, vI (x7 + 1)), (0, .ref (F.2.1.1 10)), (1, vI x1), (2, vI x2), (3, vI x3), (4, vI x4), (5, vI x5), (6, vI x6)] d_Md_waysOf_233 rfl rfl hm (by decide) rfl ?_
        refine r_goto ok 149 d_Md_waysOf_236 (by decide) ?_
        exact r_sub [1, 2, 3, 4, 5, 6, 7, 0] rfl h
      · replace h := h.2.2 c
        refine r_aload_n ok 0 d_Md_waysOf_175 rfl rfl ?_
        refine g_Md_ways ok d_Md_waysOf_176 ?_
        refine r_iload ok 7 d_Md_waysOf_179 rfl ?_
        refine r_iload ok 6 d_Md_waysOf_181 rfl ?_
        refine r_ior ok d_Md_waysOf_183 ?_
        refine r_aload_n ok 0 d_Md_waysOf_184 rfl rfl ?_
        refine g_Md_ways ok d_Md_waysOf_185 ?_
        refine r_iload ok 7 d_Md_waysOf_188 rfl ?_
        refine r_iload ok 6 d_Md_waysOf_190 rfl ?_
        refine r_ior ok d_Md_waysOf_192 ?_
        refine r_iald ok 111 d_Md_waysOf_193 (by decide) rfl h.1 ?_
        replace h := h.2
        refine r_aload_n ok 0 d_Md_waysOf_194 rfl rfl ?_
        refine g_Md_waysBefore ok d_Md_waysOf_195 ?_
        refine r_iload ok 7 d_Md_waysOf_198 rfl ?_
        refine r_iald ok 112 d_Md_waysOf_200 (by decide) rfl h.1 ?_
        replace h := h.2
        refine r_iadd ok d_Md_waysOf_201 ?_
        refine r_ldcw ok 1000000 wk_Md_429 d_Md_waysOf_202 (by decide) ?_
        refine r_icmp_le ok 214 d_Md_waysOf_205 (by decide) h.1 (by decide) (fun c => ?_) (fun c => ?_)
        · replace h := h.2.1 c
          refine r_aload_n ok 0 d_Md_waysOf_214 rfl rfl ?_
          refine g_Md_ways ok d_Md_waysOf_215 ?_
          refine r_iload ok 7 d_Md_waysOf_218 rfl ?_
          refine r_iload ok 6 d_Md_waysOf_220 rfl ?_
          refine r_ior ok d_Md_waysOf_222 ?_
          refine r_iald ok 111 d_Md_waysOf_223 (by decide) rfl h.1 ?_
          replace h := h.2
          refine r_aload_n ok 0 d_Md_waysOf_224 rfl rfl ?_
          refine g_Md_waysBefore ok d_Md_waysOf_225 ?_
          refine r_iload ok 7 d_Md_waysOf_228 rfl ?_
          refine r_iald ok 112 d_Md_waysOf_230 (by decide) rfl h.1 ?_
          replace h := h.2
          refine r_iadd ok d_Md_waysOf_231 ?_
          refine r_iast ok 111 d_Md_waysOf_232 (by decide) rfl h.1 ?_
          replace h := h.2 _ rfl
          generalize sA s 111 (bor x7 x6) ((s.2 111 (bor x7 x6)) + (s.2 112 x7)) = s7 at h ⊢
          refine r_iinc ok 7 (x7 + 1) [(7, vI (x7 + 1)), (0, .ref (F.2.1.1 10)), (1, vI x1), (2, vI x2), (3, vI x3), (4, vI x4), (5, vI x5), (6, vI x6)] d_Md_waysOf_233 rfl rfl hm (by decide) rfl ?_
          refine r_goto ok 149 d_Md_waysOf_236 (by decide) ?_
          exact r_sub [1, 2, 3, 4, 5, 6, 7, 0] rfl h
        · replace h := h.2.2 c
          refine r_ldcw ok 1000000 wk_Md_429 d_Md_waysOf_208 (by decide) ?_
          refine r_goto ok 232 d_Md_waysOf_211 (by decide) ?_
          refine r_iast ok 111 d_Md_waysOf_232 (by decide) rfl h.1 ?_
          replace h := h.2 _ rfl
          generalize sA s 111 (bor x7 x6) 1000000 = s8 at h ⊢
          refine r_iinc ok 7 (x7 + 1) [(7, vI (x7 + 1)), (0, .ref (F.2.1.1 10)), (1, vI x1), (2, vI x2), (3, vI x3), (4, vI x4), (5, vI x5), (6, vI x6)] d_Md_waysOf_233 rfl rfl hm (by decide) rfl ?_
          refine r_goto ok 149 d_Md_waysOf_236 (by decide) ?_
          exact r_sub [1, 2, 3, 4, 5, 6, 7, 0] rfl h
set_option maxHeartbeats 4000000 in
set_option maxRecDepth 100000 in
theorem K_Md_waysOf_257 {F : FT} (hD : ∀ σ, va_D F.2.2.1 (GW F.2.1 σ)) (hm : F.2.2.2.2.2.2.2.2.2.2.2.2.2.2.1 = 8) (ok : OkF F prog_12_method_82_code "LastSeenModel" ({ frames := 3, cells := 0, slots := 0, locals := 70 } : Room)) {Q : Int → SS → Prop} (hQ : RetI F Q) {x4 x5 : Int} {s : SS} (h : B_Md_waysOf_257 Q (fun x1 x2 x3 x4 s => AtS F 3 [(0, .ref (F.2.1.1 10)), (1, vI x1), (2, vI x2), (3, vI x3), (4, vI x4)] [] s) (fun x1 x2 x3 x4 s => AtS F 37 [(0, .ref (F.2.1.1 10)), (1, vI x1), (2, vI x2), (3, vI x3), (4, vI x4)] [] s) (fun x1 x2 x3 x4 x5 s => AtS F 61 [(0, .ref (F.2.1.1 10)), (1, vI x1), (2, vI x2), (3, vI x3), (4, vI x4), (5, vI x5)] [] s) (fun x1 x2 x3 x4 x5 s => AtS F 100 [(0, .ref (F.2.1.1 10)), (1, vI x1), (2, vI x2), (3, vI x3), (4, vI x4), (5, vI x5)] [] s) (fun x1 x2 x3 x4 x5 x6 x7 s => AtS F 149 [(0, .ref (F.2.1.1 10)), (1, vI x1), (2, vI x2), (3, vI x3), (4, vI x4), (5, vI x5), (6, vI x6), (7, vI x7)] [] s) (fun x4 x5 s => AtS F 257 [(0, .ref (F.2.1.1 10)), (4, vI x4), (5, vI x5)] [] s) x4 x5 s) : AtS F 257 [(0, .ref (F.2.1.1 10)), (4, vI x4), (5, vI x5)] [] s := by
  unfold B_Md_waysOf_257 at h
  refine r_iload ok 2 d_Md_waysOf_257 rfl ?_
  refine r_sipush ok 1024 d_Md_waysOf_259 (by decide) ?_
  refine r_icmp_ge ok 305 d_Md_waysOf_262 (by decide) h.1 (by decide) (fun c => ?_) (fun c => ?_)
  · replace h := h.2.1 c
    refine r_iload ok 1 d_Md_waysOf_305 rfl ?_
    exact hQ _ _ _ _ _ (ok_code ok) d_Md_waysOf_307 h
  · replace h := h.2.2 c
    refine r_iload ok 1 d_Md_waysOf_265 rfl ?_
    refine r_aload_n ok 0 d_Md_waysOf_267 rfl rfl ?_
    refine g_Md_ways ok d_Md_waysOf_268 ?_
    refine r_iload ok 2 d_Md_waysOf_271 rfl ?_
    refine r_iald ok 111 d_Md_waysOf_273 (by decide) rfl h.1 ?_
    replace h := h.2
    refine r_iadd ok d_Md_waysOf_274 ?_
    refine r_ldcw ok 1000000 wk_Md_429 d_Md_waysOf_275 (by decide) ?_
    refine r_icmp_le ok 287 d_Md_waysOf_278 (by decide) h.1 (by decide) (fun c => ?_) (fun c => ?_)
    · replace h := h.2.1 c
      refine r_iload ok 1 d_Md_waysOf_287 rfl ?_
      refine r_aload_n ok 0 d_Md_waysOf_289 rfl rfl ?_
      refine g_Md_ways ok d_Md_waysOf_290 ?_
      refine r_iload ok 2 d_Md_waysOf_293 rfl ?_
      refine r_iald ok 111 d_Md_waysOf_295 (by decide) rfl h.1 ?_
      replace h := h.2
      refine r_iadd ok d_Md_waysOf_296 ?_
      refine r_istore ok [(4, vI (x4 + (s.2 111 x5))), (0, .ref (F.2.1.1 10)), (5, vI x5)] d_Md_waysOf_297 hm (by decide) rfl ?_
      refine r_iinc ok 2 (x5 + 1) [(5, vI (x5 + 1)), (4, vI (x4 + (s.2 111 x5))), (0, .ref (F.2.1.1 10))] d_Md_waysOf_299 rfl rfl hm (by decide) rfl ?_
      refine r_goto ok 257 d_Md_waysOf_302 (by decide) ?_
      exact r_sub [2, 1, 0] rfl h
    · replace h := h.2.2 c
      refine r_ldcw ok 1000000 wk_Md_429 d_Md_waysOf_281 (by decide) ?_
      refine r_goto ok 297 d_Md_waysOf_284 (by decide) ?_
      refine r_istore ok [(4, vI 1000000), (0, .ref (F.2.1.1 10)), (5, vI x5)] d_Md_waysOf_297 hm (by decide) rfl ?_
      refine r_iinc ok 2 (x5 + 1) [(5, vI (x5 + 1)), (4, vI 1000000), (0, .ref (F.2.1.1 10))] d_Md_waysOf_299 rfl rfl hm (by decide) rfl ?_
      refine r_goto ok 257 d_Md_waysOf_302 (by decide) ?_
      exact r_sub [2, 1, 0] rfl h
set_option maxHeartbeats 4000000 in
set_option maxRecDepth 100000 in
theorem K_Md_waysOf_e {F : FT} (hD : ∀ σ, va_D F.2.2.1 (GW F.2.1 σ)) (hm : F.2.2.2.2.2.2.2.2.2.2.2.2.2.2.1 = 8) (ok : OkF F prog_12_method_82_code "LastSeenModel" ({ frames := 3, cells := 0, slots := 0, locals := 70 } : Room)) {Q : Int → SS → Prop} (hQ : RetI F Q) {x1 x2 x3 : Int} {s : SS} (h : B_Md_waysOf_e Q (fun x1 x2 x3 x4 s => AtS F 3 [(0, .ref (F.2.1.1 10)), (1, vI x1), (2, vI x2), (3, vI x3), (4, vI x4)] [] s) (fun x1 x2 x3 x4 s => AtS F 37 [(0, .ref (F.2.1.1 10)), (1, vI x1), (2, vI x2), (3, vI x3), (4, vI x4)] [] s) (fun x1 x2 x3 x4 x5 s => AtS F 61 [(0, .ref (F.2.1.1 10)), (1, vI x1), (2, vI x2), (3, vI x3), (4, vI x4), (5, vI x5)] [] s) (fun x1 x2 x3 x4 x5 s => AtS F 100 [(0, .ref (F.2.1.1 10)), (1, vI x1), (2, vI x2), (3, vI x3), (4, vI x4), (5, vI x5)] [] s) (fun x1 x2 x3 x4 x5 x6 x7 s => AtS F 149 [(0, .ref (F.2.1.1 10)), (1, vI x1), (2, vI x2), (3, vI x3), (4, vI x4), (5, vI x5), (6, vI x6), (7, vI x7)] [] s) (fun x4 x5 s => AtS F 257 [(0, .ref (F.2.1.1 10)), (4, vI x4), (5, vI x5)] [] s) x1 x2 x3 s) : AtS F 0 [(0, .ref (F.2.1.1 10)), (1, vI x1), (2, vI x2), (3, vI x3)] [] s := by
  unfold B_Md_waysOf_e at h
  refine r_iconst ok 0 d_Md_waysOf_0 rfl ?_
  refine r_istore ok [(4, vI 0), (0, .ref (F.2.1.1 10)), (1, vI x1), (2, vI x2), (3, vI x3)] d_Md_waysOf_1 hm (by decide) rfl ?_
  exact r_sub [1, 2, 3, 4, 0] rfl h
theorem L_Md_waysOf (l : Launch) (G : GE) (A : Nat → Prop) (hD : ∀ σ, va_D A (GW G σ)) {x1 x2 x3 : Int} {s : SS} {Q : Int → SS → Prop} (h : Sp_Md_waysOf x1 x2 x3 s Q) : Met l y_Md_waysOf (Cond.code y_Md_waysOf prog_12_method_82_code 8 (some .int) :: lw_ok) ({ frames := 3, cells := 0, slots := 0, locals := 70 } : Room) (va_Pc [.ref (G.1 10), vI x1, vI x2, vI x3] (gB G s)) (va_Qi (fun (r : Int32) (s2 : SS) => ∃ x : Int, r = iI x ∧ Q x s2) (fun s2 t => gB G s2 t) A) 0 0 A := by
  refine met_i hD (by decide) ⟨rfl, rfl⟩ (Nat.le_of_ble_eq_true rfl) (lv := [(0, .ref (G.1 10)), (1, vI x1), (2, vI x2), (3, vI x3)]) rfl (fun F h1 h2 h3 hm ok hQ => ?_)
  subst h1 h2 h3
  have hDF := hD
  exact K_Md_waysOf_e hDF hm ok hQ (h _ _ _ _ _ _ (fun _ _ _ _ _ hb => K_Md_waysOf_3 hDF hm ok hQ hb) (fun _ _ _ _ _ hb => K_Md_waysOf_37 hDF hm ok hQ hb) (fun _ _ _ _ _ _ hb => K_Md_waysOf_61 hDF hm ok hQ hb) (fun _ _ _ _ _ _ hb => K_Md_waysOf_100 hDF hm ok hQ hb) (fun _ _ _ _ _ _ _ _ hb => K_Md_waysOf_149 hDF hm ok hQ hb) (fun _ _ _ hb => K_Md_waysOf_257 hDF hm ok hQ hb))
theorem d_Md_areSets_0 : decode prog_12_method_83_code 0 = .ok (.iload_n 1, 1) := by decide +kernel
theorem d_Md_areSets_1 : decode prog_12_method_83_code 1 = .ok (.i2l, 1) := by decide +kernel
theorem d_Md_areSets_2 : decode prog_12_method_83_code 2 = .ok (.lconst 0, 1) := by decide +kernel
theorem d_Md_areSets_3 : decode prog_12_method_83_code 3 = .ok (.iconst 1, 1) := by decide +kernel
theorem d_Md_areSets_4 : decode prog_12_method_83_code 4 = .ok (.aload_n 0, 1) := by decide +kernel
theorem d_Md_areSets_5 : decode prog_12_method_83_code 5 = .ok (.getfield 401, 3) := by decide +kernel
theorem d_Md_areSets_8 : decode prog_12_method_83_code 8 = .ok (.ishl, 1) := by decide +kernel
theorem d_Md_areSets_9 : decode prog_12_method_83_code 9 = .ok (.iconst 1, 1) := by decide +kernel
theorem d_Md_areSets_10 : decode prog_12_method_83_code 10 = .ok (.isub, 1) := by decide +kernel
theorem d_Md_areSets_11 : decode prog_12_method_83_code 11 = .ok (.i2l, 1) := by decide +kernel
theorem d_Md_areSets_12 : decode prog_12_method_83_code 12 = .ok (.invokestatic 191, 3) := by decide +kernel
theorem d_Md_areSets_15 : decode prog_12_method_83_code 15 = .ok (.ireturn, 1) := by decide +kernel
set_option maxHeartbeats 4000000 in
set_option maxRecDepth 100000 in
theorem K_Md_areSets_e {F : FT} (hD : ∀ σ, va_D F.2.2.1 (GW F.2.1 σ)) (hm : F.2.2.2.2.2.2.2.2.2.2.2.2.2.2.1 = 2) (ok : OkF F prog_12_method_83_code "LastSeenModel" ({ frames := 1, cells := 0, slots := 0, locals := 25 } : Room)) {Q : Int → SS → Prop} (hQ : RetZ F Q) {x1 : Int} {s : SS} (h : Sp_Md_areSets x1 s Q) : AtS F 0 [(0, .ref (F.2.1.1 10)), (1, vI x1)] [] s := by
  unfold Sp_Md_areSets at h
  refine r_iload_n ok 1 d_Md_areSets_0 rfl rfl ?_
  refine r_i2l ok d_Md_areSets_1 h.1 ?_
  replace h := h.2
  refine r_lconst ok 0 d_Md_areSets_2 (by decide) ?_
  refine r_iconst ok 1 d_Md_areSets_3 rfl ?_
  refine r_aload_n ok 0 d_Md_areSets_4 rfl rfl ?_
  refine g_Md_sets ok d_Md_areSets_5 ?_
  refine r_ishl ok d_Md_areSets_8 ?_
  refine r_iconst ok 1 d_Md_areSets_9 rfl ?_
  refine r_isub ok d_Md_areSets_10 ?_
  refine r_i2l ok d_Md_areSets_11 h.1 ?_
  replace h := h.2
  refine r_callSi (As := [vJ x1, vJ 0, vJ ((shl 1 (s.1 46)) - 1)]) (rest := []) ok wl_Md_191 wt_y_Md_isIn wn_Md wc_y_Md_isIn (by decide) (by decide) hh_Md_isIn (Nat.le_of_ble_eq_true rfl) rfl d_Md_areSets_12 (L_Md_isIn F.1 F.2.1 F.2.2.1 hD h) (fun r2 s1 h => ?_)
  exact hQ _ _ _ _ _ (ok_code ok) d_Md_areSets_15 h.1 h.2
theorem L_Md_areSets (l : Launch) (G : GE) (A : Nat → Prop) (hD : ∀ σ, va_D A (GW G σ)) {x1 : Int} {s : SS} {Q : Int → SS → Prop} (h : Sp_Md_areSets x1 s Q) : Met l y_Md_areSets (Cond.code y_Md_areSets prog_12_method_83_code 2 (some .boolean) :: lw_ok) ({ frames := 1, cells := 0, slots := 0, locals := 25 } : Room) (va_Pc [.ref (G.1 10), vI x1] (gB G s)) (va_Qi (fun (r : Int32) (s2 : SS) => ∃ x : Int, r = iI x ∧ Q x s2) (fun s2 t => gB G s2 t) A) 0 0 A := by
  refine met_z hD (by decide) ⟨rfl, rfl⟩ (Nat.le_of_ble_eq_true rfl) (lv := [(0, .ref (G.1 10)), (1, vI x1)]) rfl (fun F h1 h2 h3 hm ok hQ => ?_)
  subst h1 h2 h3
  have hDF := hD
  exact K_Md_areSets_e hDF hm ok hQ h
theorem d_Md_namings_0 : decode prog_12_method_84_code 0 = .ok (.aload_n 0, 1) := by decide +kernel
theorem d_Md_namings_1 : decode prog_12_method_84_code 1 = .ok (.iload_n 1, 1) := by decide +kernel
theorem d_Md_namings_2 : decode prog_12_method_84_code 2 = .ok (.invokevirtual 430, 3) := by decide +kernel
theorem d_Md_namings_5 : decode prog_12_method_84_code 5 = .ok (.ifCond .ne 6, 3) := by decide +kernel
theorem d_Md_namings_8 : decode prog_12_method_84_code 8 = .ok (.bipush (-2), 2) := by decide +kernel
theorem d_Md_namings_10 : decode prog_12_method_84_code 10 = .ok (.ireturn, 1) := by decide +kernel
theorem d_Md_namings_11 : decode prog_12_method_84_code 11 = .ok (.aload_n 0, 1) := by decide +kernel
theorem d_Md_namings_12 : decode prog_12_method_84_code 12 = .ok (.invokevirtual 433, 3) := by decide +kernel
theorem d_Md_namings_15 : decode prog_12_method_84_code 15 = .ok (.aload_n 0, 1) := by decide +kernel
theorem d_Md_namings_16 : decode prog_12_method_84_code 16 = .ok (.iload_n 1, 1) := by decide +kernel
theorem d_Md_namings_17 : decode prog_12_method_84_code 17 = .ok (.iconst (-1), 1) := by decide +kernel
theorem d_Md_namings_18 : decode prog_12_method_84_code 18 = .ok (.iconst (-1), 1) := by decide +kernel
theorem d_Md_namings_19 : decode prog_12_method_84_code 19 = .ok (.invokevirtual 436, 3) := by decide +kernel
theorem d_Md_namings_22 : decode prog_12_method_84_code 22 = .ok (.ireturn, 1) := by decide +kernel
set_option maxHeartbeats 4000000 in
set_option maxRecDepth 100000 in
theorem K_Md_namings_e {F : FT} (hD : ∀ σ, va_D F.2.2.1 (GW F.2.1 σ)) (hm : F.2.2.2.2.2.2.2.2.2.2.2.2.2.2.1 = 2) (ok : OkF F prog_12_method_84_code "LastSeenModel" ({ frames := 4, cells := 0, slots := 0, locals := 97 } : Room)) {Q : Int → SS → Prop} (hQ : RetI F Q) {x1 : Int} {s : SS} (h : Sp_Md_namings x1 s Q) : AtS F 0 [(0, .ref (F.2.1.1 10)), (1, vI x1)] [] s := by
  unfold Sp_Md_namings at h
  refine r_aload_n ok 0 d_Md_namings_0 rfl rfl ?_
  refine r_iload_n ok 1 d_Md_namings_1 rfl rfl ?_
  refine r_callVi (As := [vI x1]) (rest := []) ok 10 rfl rfl rfl wl_Md_430 wi_y_Md_areSets ws_y_Md_areSets wn_Md wc_y_Md_areSets (by decide) (by decide) hh_Md_areSets (Nat.le_of_ble_eq_true rfl) rfl d_Md_namings_2 (L_Md_areSets F.1 F.2.1 F.2.2.1 hD h) (fun r2 s1 h => ?_)
  refine r_if_ne ok 11 d_Md_namings_5 (by decide) h.1 (fun c => ?_) (fun c => ?_)
  · replace h := h.2.1 c
    refine r_aload_n ok 0 d_Md_namings_11 rfl rfl ?_
    refine r_callVv (As := []) (rest := []) ok 10 rfl rfl rfl wl_Md_433 wi_y_Md_findFirsts ws_y_Md_findFirsts wn_Md wc_y_Md_findFirsts (by decide) (by decide) hh_Md_findFirsts (Nat.le_of_ble_eq_true rfl) rfl d_Md_namings_12 (L_Md_findFirsts F.1 F.2.1 F.2.2.1 hD h) (fun s3 h => ?_)
    refine r_aload_n ok 0 d_Md_namings_15 rfl rfl ?_
    refine r_iload_n ok 1 d_Md_namings_16 rfl rfl ?_
    refine r_iconst ok (-1) d_Md_namings_17 rfl ?_
    refine r_iconst ok (-1) d_Md_namings_18 rfl ?_
    refine r_callVi (As := [vI x1, vI (-1), vI (-1)]) (rest := []) ok 10 rfl rfl rfl wl_Md_436 wi_y_Md_waysOf ws_y_Md_waysOf wn_Md wc_y_Md_waysOf (by decide) (by decide) hh_Md_waysOf (Nat.le_of_ble_eq_true rfl) rfl d_Md_namings_19 (L_Md_waysOf F.1 F.2.1 F.2.2.1 hD h) (fun r5 s4 h => ?_)
    exact hQ _ _ _ _ _ (ok_code ok) d_Md_namings_22 h
  · replace h := h.2.2 c
    refine r_bipush ok (-2) d_Md_namings_8 (by decide) ?_
    exact hQ _ _ _ _ _ (ok_code ok) d_Md_namings_10 h
theorem L_Md_namings (l : Launch) (G : GE) (A : Nat → Prop) (hD : ∀ σ, va_D A (GW G σ)) {x1 : Int} {s : SS} {Q : Int → SS → Prop} (h : Sp_Md_namings x1 s Q) : Met l y_Md_namings (Cond.code y_Md_namings prog_12_method_84_code 2 (some .int) :: lw_ok) ({ frames := 4, cells := 0, slots := 0, locals := 97 } : Room) (va_Pc [.ref (G.1 10), vI x1] (gB G s)) (va_Qi (fun (r : Int32) (s2 : SS) => ∃ x : Int, r = iI x ∧ Q x s2) (fun s2 t => gB G s2 t) A) 0 0 A := by
  refine met_i hD (by decide) ⟨rfl, rfl⟩ (Nat.le_of_ble_eq_true rfl) (lv := [(0, .ref (G.1 10)), (1, vI x1)]) rfl (fun F h1 h2 h3 hm ok hQ => ?_)
  subst h1 h2 h3
  have hDF := hD
  exact K_Md_namings_e hDF hm ok hQ h
theorem d_Md_onlyOf_0 : decode prog_12_method_85_code 0 = .ok (.aload_n 0, 1) := by decide +kernel
theorem d_Md_onlyOf_1 : decode prog_12_method_85_code 1 = .ok (.invokevirtual 433, 3) := by decide +kernel
theorem d_Md_onlyOf_4 : decode prog_12_method_85_code 4 = .ok (.iconst (-1), 1) := by decide +kernel
theorem d_Md_onlyOf_5 : decode prog_12_method_85_code 5 = .ok (.istore_n 3, 1) := by decide +kernel
theorem d_Md_onlyOf_6 : decode prog_12_method_85_code 6 = .ok (.iconst 0, 1) := by decide +kernel
theorem d_Md_onlyOf_7 : decode prog_12_method_85_code 7 = .ok (.istore 4, 2) := by decide +kernel
theorem d_Md_onlyOf_9 : decode prog_12_method_85_code 9 = .ok (.iload 4, 2) := by decide +kernel
theorem d_Md_onlyOf_11 : decode prog_12_method_85_code 11 = .ok (.aload_n 0, 1) := by decide +kernel
theorem d_Md_onlyOf_12 : decode prog_12_method_85_code 12 = .ok (.getfield 411, 3) := by decide +kernel
theorem d_Md_onlyOf_15 : decode prog_12_method_85_code 15 = .ok (.if_icmp .ge 32, 3) := by decide +kernel
theorem d_Md_onlyOf_18 : decode prog_12_method_85_code 18 = .ok (.aload_n 0, 1) := by decide +kernel
theorem d_Md_onlyOf_19 : decode prog_12_method_85_code 19 = .ok (.iload_n 2, 1) := by decide +kernel
theorem d_Md_onlyOf_20 : decode prog_12_method_85_code 20 = .ok (.iload_n 1, 1) := by decide +kernel
theorem d_Md_onlyOf_21 : decode prog_12_method_85_code 21 = .ok (.iload 4, 2) := by decide +kernel
theorem d_Md_onlyOf_23 : decode prog_12_method_85_code 23 = .ok (.invokevirtual 436, 3) := by decide +kernel
theorem d_Md_onlyOf_26 : decode prog_12_method_85_code 26 = .ok (.ifCond .ne 6, 3) := by decide +kernel
theorem d_Md_onlyOf_29 : decode prog_12_method_85_code 29 = .ok (.goto 12, 3) := by decide +kernel
theorem d_Md_onlyOf_32 : decode prog_12_method_85_code 32 = .ok (.iload_n 3, 1) := by decide +kernel
theorem d_Md_onlyOf_33 : decode prog_12_method_85_code 33 = .ok (.ifCond .lt 5, 3) := by decide +kernel
theorem d_Md_onlyOf_36 : decode prog_12_method_85_code 36 = .ok (.iconst (-1), 1) := by decide +kernel
theorem d_Md_onlyOf_37 : decode prog_12_method_85_code 37 = .ok (.ireturn, 1) := by decide +kernel
theorem d_Md_onlyOf_38 : decode prog_12_method_85_code 38 = .ok (.iload 4, 2) := by decide +kernel
theorem d_Md_onlyOf_40 : decode prog_12_method_85_code 40 = .ok (.istore_n 3, 1) := by decide +kernel
theorem d_Md_onlyOf_41 : decode prog_12_method_85_code 41 = .ok (.iinc 4 1, 3) := by decide +kernel
theorem d_Md_onlyOf_44 : decode prog_12_method_85_code 44 = .ok (.goto (-35), 3) := by decide +kernel
theorem d_Md_onlyOf_47 : decode prog_12_method_85_code 47 = .ok (.iload_n 3, 1) := by decide +kernel
theorem d_Md_onlyOf_48 : decode prog_12_method_85_code 48 = .ok (.ireturn, 1) := by decide +kernel
set_option maxHeartbeats 4000000 in
set_option maxRecDepth 100000 in
theorem K_Md_onlyOf_9 {F : FT} (hD : ∀ σ, va_D F.2.2.1 (GW F.2.1 σ)) (hm : F.2.2.2.2.2.2.2.2.2.2.2.2.2.2.1 = 5) (ok : OkF F prog_12_method_85_code "LastSeenModel" ({ frames := 4, cells := 0, slots := 0, locals := 97 } : Room)) {Q : Int → SS → Prop} (hQ : RetI F Q) {x1 x2 x3 x4 : Int} {s : SS} (h : B_Md_onlyOf_9 Q (fun x1 x2 x3 x4 s => AtS F 9 [(0, .ref (F.2.1.1 10)), (1, vI x1), (2, vI x2), (3, vI x3), (4, vI x4)] [] s) x1 x2 x3 x4 s) : AtS F 9 [(0, .ref (F.2.1.1 10)), (1, vI x1), (2, vI x2), (3, vI x3), (4, vI x4)] [] s := by
  unfold B_Md_onlyOf_9 at h
  refine r_iload ok 4 d_Md_onlyOf_9 rfl ?_
  refine r_aload_n ok 0 d_Md_onlyOf_11 rfl rfl ?_
  refine g_Md_missed ok d_Md_onlyOf_12 ?_
  refine r_icmp_ge ok 47 d_Md_onlyOf_15 (by decide) h.1 h.2.1 (fun c => ?_) (fun c => ?_)
  · replace h := h.2.2.1 c
    refine r_iload_n ok 3 d_Md_onlyOf_47 rfl rfl ?_
    exact hQ _ _ _ _ _ (ok_code ok) d_Md_onlyOf_48 h
  · replace h := h.2.2.2 c
    refine r_aload_n ok 0 d_Md_onlyOf_18 rfl rfl ?_
    refine r_iload_n ok 2 d_Md_onlyOf_19 rfl rfl ?_
    refine r_iload_n ok 1 d_Md_onlyOf_20 rfl rfl ?_
    refine r_iload ok 4 d_Md_onlyOf_21 rfl ?_
    refine r_callVi (As := [vI x2, vI x1, vI x4]) (rest := []) ok 10 rfl rfl rfl wl_Md_436 wi_y_Md_waysOf ws_y_Md_waysOf wn_Md wc_y_Md_waysOf (by decide) (by decide) hh_Md_waysOf (Nat.le_of_ble_eq_true rfl) rfl d_Md_onlyOf_23 (L_Md_waysOf F.1 F.2.1 F.2.2.1 hD h) (fun r3 s2 h => ?_)
    refine r_if_ne ok 32 d_Md_onlyOf_26 (by decide) h.1 (fun c => ?_) (fun c => ?_)
    · replace h := h.2.1 c
      refine r_iload_n ok 3 d_Md_onlyOf_32 rfl rfl ?_
      refine r_if_lt ok 38 d_Md_onlyOf_33 (by decide) h.1 (fun c => ?_) (fun c => ?_)
      · replace h := h.2.1 c
        refine r_iload ok 4 d_Md_onlyOf_38 rfl ?_
        refine r_istore_n ok [(3, vI x4), (0, .ref (F.2.1.1 10)), (1, vI x1), (2, vI x2), (4, vI x4)] d_Md_onlyOf_40 rfl hm (by decide) rfl ?_
        refine r_iinc ok 4 (x4 + 1) [(4, vI (x4 + 1)), (3, vI x4), (0, .ref (F.2.1.1 10)), (1, vI x1), (2, vI x2)] d_Md_onlyOf_41 rfl rfl hm (by decide) rfl ?_
        refine r_goto ok 9 d_Md_onlyOf_44 (by decide) ?_
        exact r_sub [2, 3, 4, 1, 0] rfl h
      · replace h := h.2.2 c
        refine r_iconst ok (-1) d_Md_onlyOf_36 rfl ?_
        exact hQ _ _ _ _ _ (ok_code ok) d_Md_onlyOf_37 h
    · replace h := h.2.2 c
      refine r_goto ok 41 d_Md_onlyOf_29 (by decide) ?_
      refine r_iinc ok 4 (x4 + 1) [(4, vI (x4 + 1)), (0, .ref (F.2.1.1 10)), (1, vI x1), (2, vI x2), (3, vI x3)] d_Md_onlyOf_41 rfl rfl hm (by decide) rfl ?_
      refine r_goto ok 9 d_Md_onlyOf_44 (by decide) ?_
      exact r_sub [1, 2, 3, 4, 0] rfl h
set_option maxHeartbeats 4000000 in
set_option maxRecDepth 100000 in
theorem K_Md_onlyOf_e {F : FT} (hD : ∀ σ, va_D F.2.2.1 (GW F.2.1 σ)) (hm : F.2.2.2.2.2.2.2.2.2.2.2.2.2.2.1 = 5) (ok : OkF F prog_12_method_85_code "LastSeenModel" ({ frames := 4, cells := 0, slots := 0, locals := 97 } : Room)) {Q : Int → SS → Prop} (hQ : RetI F Q) {x1 x2 : Int} {s : SS} (h : B_Md_onlyOf_e Q (fun x1 x2 x3 x4 s => AtS F 9 [(0, .ref (F.2.1.1 10)), (1, vI x1), (2, vI x2), (3, vI x3), (4, vI x4)] [] s) x1 x2 s) : AtS F 0 [(0, .ref (F.2.1.1 10)), (1, vI x1), (2, vI x2)] [] s := by
  unfold B_Md_onlyOf_e at h
  refine r_aload_n ok 0 d_Md_onlyOf_0 rfl rfl ?_
  refine r_callVv (As := []) (rest := []) ok 10 rfl rfl rfl wl_Md_433 wi_y_Md_findFirsts ws_y_Md_findFirsts wn_Md wc_y_Md_findFirsts (by decide) (by decide) hh_Md_findFirsts (Nat.le_of_ble_eq_true rfl) rfl d_Md_onlyOf_1 (L_Md_findFirsts F.1 F.2.1 F.2.2.1 hD h) (fun s1 h => ?_)
  refine r_iconst ok (-1) d_Md_onlyOf_4 rfl ?_
  refine r_istore_n ok [(3, vI (-1)), (0, .ref (F.2.1.1 10)), (1, vI x1), (2, vI x2)] d_Md_onlyOf_5 rfl hm (by decide) rfl ?_
  refine r_iconst ok 0 d_Md_onlyOf_6 rfl ?_
  refine r_istore ok [(4, vI 0), (3, vI (-1)), (0, .ref (F.2.1.1 10)), (1, vI x1), (2, vI x2)] d_Md_onlyOf_7 hm (by decide) rfl ?_
  exact r_sub [2, 3, 4, 1, 0] rfl h
theorem L_Md_onlyOf (l : Launch) (G : GE) (A : Nat → Prop) (hD : ∀ σ, va_D A (GW G σ)) {x1 x2 : Int} {s : SS} {Q : Int → SS → Prop} (h : Sp_Md_onlyOf x1 x2 s Q) : Met l y_Md_onlyOf (Cond.code y_Md_onlyOf prog_12_method_85_code 5 (some .int) :: lw_ok) ({ frames := 4, cells := 0, slots := 0, locals := 97 } : Room) (va_Pc [.ref (G.1 10), vI x1, vI x2] (gB G s)) (va_Qi (fun (r : Int32) (s2 : SS) => ∃ x : Int, r = iI x ∧ Q x s2) (fun s2 t => gB G s2 t) A) 0 0 A := by
  refine met_i hD (by decide) ⟨rfl, rfl⟩ (Nat.le_of_ble_eq_true rfl) (lv := [(0, .ref (G.1 10)), (1, vI x1), (2, vI x2)]) rfl (fun F h1 h2 h3 hm ok hQ => ?_)
  subst h1 h2 h3
  have hDF := hD
  exact K_Md_onlyOf_e hDF hm ok hQ (h _ (fun _ _ _ _ _ hb => K_Md_onlyOf_9 hDF hm ok hQ hb))
theorem d_Md_only_0 : decode prog_12_method_86_code 0 = .ok (.aload_n 0, 1) := by decide +kernel
theorem d_Md_only_1 : decode prog_12_method_86_code 1 = .ok (.iload_n 1, 1) := by decide +kernel
theorem d_Md_only_2 : decode prog_12_method_86_code 2 = .ok (.invokevirtual 420, 3) := by decide +kernel
theorem d_Md_only_5 : decode prog_12_method_86_code 5 = .ok (.ifCond .ne 5, 3) := by decide +kernel
theorem d_Md_only_8 : decode prog_12_method_86_code 8 = .ok (.iconst (-1), 1) := by decide +kernel
theorem d_Md_only_9 : decode prog_12_method_86_code 9 = .ok (.ireturn, 1) := by decide +kernel
theorem d_Md_only_10 : decode prog_12_method_86_code 10 = .ok (.aload_n 0, 1) := by decide +kernel
theorem d_Md_only_11 : decode prog_12_method_86_code 11 = .ok (.iload_n 2, 1) := by decide +kernel
theorem d_Md_only_12 : decode prog_12_method_86_code 12 = .ok (.invokevirtual 430, 3) := by decide +kernel
theorem d_Md_only_15 : decode prog_12_method_86_code 15 = .ok (.ifCond .eq 11, 3) := by decide +kernel
theorem d_Md_only_18 : decode prog_12_method_86_code 18 = .ok (.iload_n 2, 1) := by decide +kernel
theorem d_Md_only_19 : decode prog_12_method_86_code 19 = .ok (.iload_n 1, 1) := by decide +kernel
theorem d_Md_only_20 : decode prog_12_method_86_code 20 = .ok (.ishr, 1) := by decide +kernel
theorem d_Md_only_21 : decode prog_12_method_86_code 21 = .ok (.iconst 1, 1) := by decide +kernel
theorem d_Md_only_22 : decode prog_12_method_86_code 22 = .ok (.iand, 1) := by decide +kernel
theorem d_Md_only_23 : decode prog_12_method_86_code 23 = .ok (.ifCond .ne 6, 3) := by decide +kernel
theorem d_Md_only_26 : decode prog_12_method_86_code 26 = .ok (.bipush (-2), 2) := by decide +kernel
theorem d_Md_only_28 : decode prog_12_method_86_code 28 = .ok (.ireturn, 1) := by decide +kernel
theorem d_Md_only_29 : decode prog_12_method_86_code 29 = .ok (.aload_n 0, 1) := by decide +kernel
theorem d_Md_only_30 : decode prog_12_method_86_code 30 = .ok (.iload_n 1, 1) := by decide +kernel
theorem d_Md_only_31 : decode prog_12_method_86_code 31 = .ok (.iload_n 2, 1) := by decide +kernel
theorem d_Md_only_32 : decode prog_12_method_86_code 32 = .ok (.invokevirtual 439, 3) := by decide +kernel
theorem d_Md_only_35 : decode prog_12_method_86_code 35 = .ok (.istore_n 3, 1) := by decide +kernel
theorem d_Md_only_36 : decode prog_12_method_86_code 36 = .ok (.iload_n 3, 1) := by decide +kernel
theorem d_Md_only_37 : decode prog_12_method_86_code 37 = .ok (.ifCond .ge 8, 3) := by decide +kernel
theorem d_Md_only_40 : decode prog_12_method_86_code 40 = .ok (.bipush (-5), 2) := by decide +kernel
theorem d_Md_only_42 : decode prog_12_method_86_code 42 = .ok (.goto 9, 3) := by decide +kernel
theorem d_Md_only_45 : decode prog_12_method_86_code 45 = .ok (.aload_n 0, 1) := by decide +kernel
theorem d_Md_only_46 : decode prog_12_method_86_code 46 = .ok (.getfield 157, 3) := by decide +kernel
theorem d_Md_only_49 : decode prog_12_method_86_code 49 = .ok (.iload_n 3, 1) := by decide +kernel
theorem d_Md_only_50 : decode prog_12_method_86_code 50 = .ok (.iaload, 1) := by decide +kernel
theorem d_Md_only_51 : decode prog_12_method_86_code 51 = .ok (.ireturn, 1) := by decide +kernel
set_option maxHeartbeats 4000000 in
set_option maxRecDepth 100000 in
theorem K_Md_only_e {F : FT} (hD : ∀ σ, va_D F.2.2.1 (GW F.2.1 σ)) (hm : F.2.2.2.2.2.2.2.2.2.2.2.2.2.2.1 = 4) (ok : OkF F prog_12_method_86_code "LastSeenModel" ({ frames := 5, cells := 0, slots := 0, locals := 121 } : Room)) {Q : Int → SS → Prop} (hQ : RetI F Q) {x1 x2 : Int} {s : SS} (h : Sp_Md_only x1 x2 s Q) : AtS F 0 [(0, .ref (F.2.1.1 10)), (1, vI x1), (2, vI x2)] [] s := by
  unfold Sp_Md_only at h
  refine r_aload_n ok 0 d_Md_only_0 rfl rfl ?_
  refine r_iload_n ok 1 d_Md_only_1 rfl rfl ?_
  refine r_callVi (As := [vI x1]) (rest := []) ok 10 rfl rfl rfl wl_Md_420 wi_y_Md_isSet ws_y_Md_isSet wn_Md wc_y_Md_isSet (by decide) (by decide) hh_Md_isSet (Nat.le_of_ble_eq_true rfl) rfl d_Md_only_2 (L_Md_isSet F.1 F.2.1 F.2.2.1 hD h) (fun r2 s1 h => ?_)
  refine r_if_ne ok 10 d_Md_only_5 (by decide) h.1 (fun c => ?_) (fun c => ?_)
  · replace h := h.2.1 c
    refine r_aload_n ok 0 d_Md_only_10 rfl rfl ?_
    refine r_iload_n ok 2 d_Md_only_11 rfl rfl ?_
    refine r_callVi (As := [vI x2]) (rest := []) ok 10 rfl rfl rfl wl_Md_430 wi_y_Md_areSets ws_y_Md_areSets wn_Md wc_y_Md_areSets (by decide) (by decide) hh_Md_areSets (Nat.le_of_ble_eq_true rfl) rfl d_Md_only_12 (L_Md_areSets F.1 F.2.1 F.2.2.1 hD h) (fun r4 s3 h => ?_)
    refine r_if_eq ok 26 d_Md_only_15 (by decide) h.1 (fun c => ?_) (fun c => ?_)
    · replace h := h.2.1 c
      refine r_bipush ok (-2) d_Md_only_26 (by decide) ?_
      exact hQ _ _ _ _ _ (ok_code ok) d_Md_only_28 h
    · replace h := h.2.2 c
      refine r_iload_n ok 2 d_Md_only_18 rfl rfl ?_
      refine r_iload_n ok 1 d_Md_only_19 rfl rfl ?_
      refine r_ishr ok d_Md_only_20 ?_
      refine r_iconst ok 1 d_Md_only_21 rfl ?_
      refine r_iand ok d_Md_only_22 ?_
      refine r_if_ne ok 29 d_Md_only_23 (by decide) h.1 (fun c => ?_) (fun c => ?_)
      · replace h := h.2.1 c
        refine r_aload_n ok 0 d_Md_only_29 rfl rfl ?_
        refine r_iload_n ok 1 d_Md_only_30 rfl rfl ?_
        refine r_iload_n ok 2 d_Md_only_31 rfl rfl ?_
        refine r_callVi (As := [vI x1, vI x2]) (rest := []) ok 10 rfl rfl rfl wl_Md_439 wi_y_Md_onlyOf ws_y_Md_onlyOf wn_Md wc_y_Md_onlyOf (by decide) (by decide) hh_Md_onlyOf (Nat.le_of_ble_eq_true rfl) rfl d_Md_only_32 (L_Md_onlyOf F.1 F.2.1 F.2.2.1 hD h) (fun r6 s5 h => ?_)
        refine r_istore_n ok [(3, vI r6), (0, .ref (F.2.1.1 10)), (1, vI x1), (2, vI x2)] d_Md_only_35 rfl hm (by decide) rfl ?_
        refine r_iload_n ok 0 d_Md_only_36 rfl rfl ?_
        refine r_if_ge ok 45 d_Md_only_37 (by decide) h.1 (fun c => ?_) (fun c => ?_)
        · replace h := h.2.1 c
          refine r_aload_n ok 1 d_Md_only_45 rfl rfl ?_
          refine g_Md_missing ok d_Md_only_46 ?_
          refine r_iload_n ok 0 d_Md_only_49 rfl rfl ?_
          refine r_iald ok 106 d_Md_only_50 (by decide) rfl h.1 ?_
          replace h := h.2
          exact hQ _ _ _ _ _ (ok_code ok) d_Md_only_51 h
        · replace h := h.2.2 c
          refine r_bipush ok (-5) d_Md_only_40 (by decide) ?_
          refine r_goto ok 51 d_Md_only_42 (by decide) ?_
          exact hQ _ _ _ _ _ (ok_code ok) d_Md_only_51 h
      · replace h := h.2.2 c
        refine r_bipush ok (-2) d_Md_only_26 (by decide) ?_
        exact hQ _ _ _ _ _ (ok_code ok) d_Md_only_28 h
  · replace h := h.2.2 c
    refine r_iconst ok (-1) d_Md_only_8 rfl ?_
    exact hQ _ _ _ _ _ (ok_code ok) d_Md_only_9 h
theorem L_Md_only (l : Launch) (G : GE) (A : Nat → Prop) (hD : ∀ σ, va_D A (GW G σ)) {x1 x2 : Int} {s : SS} {Q : Int → SS → Prop} (h : Sp_Md_only x1 x2 s Q) : Met l y_Md_only (Cond.code y_Md_only prog_12_method_86_code 4 (some .int) :: lw_ok) ({ frames := 5, cells := 0, slots := 0, locals := 121 } : Room) (va_Pc [.ref (G.1 10), vI x1, vI x2] (gB G s)) (va_Qi (fun (r : Int32) (s2 : SS) => ∃ x : Int, r = iI x ∧ Q x s2) (fun s2 t => gB G s2 t) A) 0 0 A := by
  refine met_i hD (by decide) ⟨rfl, rfl⟩ (Nat.le_of_ble_eq_true rfl) (lv := [(0, .ref (G.1 10)), (1, vI x1), (2, vI x2)]) rfl (fun F h1 h2 h3 hm ok hQ => ?_)
  subst h1 h2 h3
  have hDF := hD
  exact K_Md_only_e hDF hm ok hQ h
theorem d_Md_why_0 : decode prog_12_method_87_code 0 = .ok (.aload_n 0, 1) := by decide +kernel
theorem d_Md_why_1 : decode prog_12_method_87_code 1 = .ok (.iload_n 1, 1) := by decide +kernel
theorem d_Md_why_2 : decode prog_12_method_87_code 2 = .ok (.invokevirtual 430, 3) := by decide +kernel
theorem d_Md_why_5 : decode prog_12_method_87_code 5 = .ok (.ifCond .ne 6, 3) := by decide +kernel
theorem d_Md_why_8 : decode prog_12_method_87_code 8 = .ok (.bipush (-2), 2) := by decide +kernel
theorem d_Md_why_10 : decode prog_12_method_87_code 10 = .ok (.ireturn, 1) := by decide +kernel
theorem d_Md_why_11 : decode prog_12_method_87_code 11 = .ok (.aload_n 0, 1) := by decide +kernel
theorem d_Md_why_12 : decode prog_12_method_87_code 12 = .ok (.invokevirtual 433, 3) := by decide +kernel
theorem d_Md_why_15 : decode prog_12_method_87_code 15 = .ok (.iconst 0, 1) := by decide +kernel
theorem d_Md_why_16 : decode prog_12_method_87_code 16 = .ok (.istore_n 2, 1) := by decide +kernel
theorem d_Md_why_17 : decode prog_12_method_87_code 17 = .ok (.iconst 1, 1) := by decide +kernel
theorem d_Md_why_18 : decode prog_12_method_87_code 18 = .ok (.istore_n 3, 1) := by decide +kernel
theorem d_Md_why_19 : decode prog_12_method_87_code 19 = .ok (.iload_n 3, 1) := by decide +kernel
theorem d_Md_why_20 : decode prog_12_method_87_code 20 = .ok (.iload_n 1, 1) := by decide +kernel
theorem d_Md_why_21 : decode prog_12_method_87_code 21 = .ok (.if_icmp .gt 47, 3) := by decide +kernel
theorem d_Md_why_24 : decode prog_12_method_87_code 24 = .ok (.iload_n 3, 1) := by decide +kernel
theorem d_Md_why_25 : decode prog_12_method_87_code 25 = .ok (.iload_n 1, 1) := by decide +kernel
theorem d_Md_why_26 : decode prog_12_method_87_code 26 = .ok (.iconst (-1), 1) := by decide +kernel
theorem d_Md_why_27 : decode prog_12_method_87_code 27 = .ok (.ixor, 1) := by decide +kernel
theorem d_Md_why_28 : decode prog_12_method_87_code 28 = .ok (.iand, 1) := by decide +kernel
theorem d_Md_why_29 : decode prog_12_method_87_code 29 = .ok (.ifCond .ne 33, 3) := by decide +kernel
theorem d_Md_why_32 : decode prog_12_method_87_code 32 = .ok (.iload_n 2, 1) := by decide +kernel
theorem d_Md_why_33 : decode prog_12_method_87_code 33 = .ok (.ifCond .eq 17, 3) := by decide +kernel
theorem d_Md_why_36 : decode prog_12_method_87_code 36 = .ok (.iload_n 3, 1) := by decide +kernel
theorem d_Md_why_37 : decode prog_12_method_87_code 37 = .ok (.invokestatic 293, 3) := by decide +kernel
theorem d_Md_why_40 : decode prog_12_method_87_code 40 = .ok (.iload_n 2, 1) := by decide +kernel
theorem d_Md_why_41 : decode prog_12_method_87_code 41 = .ok (.invokestatic 293, 3) := by decide +kernel
theorem d_Md_why_44 : decode prog_12_method_87_code 44 = .ok (.if_icmp .lt 6, 3) := by decide +kernel
theorem d_Md_why_47 : decode prog_12_method_87_code 47 = .ok (.goto 15, 3) := by decide +kernel
theorem d_Md_why_50 : decode prog_12_method_87_code 50 = .ok (.aload_n 0, 1) := by decide +kernel
theorem d_Md_why_51 : decode prog_12_method_87_code 51 = .ok (.iload_n 3, 1) := by decide +kernel
theorem d_Md_why_52 : decode prog_12_method_87_code 52 = .ok (.iconst (-1), 1) := by decide +kernel
theorem d_Md_why_53 : decode prog_12_method_87_code 53 = .ok (.iconst (-1), 1) := by decide +kernel
theorem d_Md_why_54 : decode prog_12_method_87_code 54 = .ok (.invokevirtual 436, 3) := by decide +kernel
theorem d_Md_why_57 : decode prog_12_method_87_code 57 = .ok (.ifCond .ne 5, 3) := by decide +kernel
theorem d_Md_why_60 : decode prog_12_method_87_code 60 = .ok (.iload_n 3, 1) := by decide +kernel
theorem d_Md_why_61 : decode prog_12_method_87_code 61 = .ok (.istore_n 2, 1) := by decide +kernel
theorem d_Md_why_62 : decode prog_12_method_87_code 62 = .ok (.iinc 3 1, 3) := by decide +kernel
theorem d_Md_why_65 : decode prog_12_method_87_code 65 = .ok (.goto (-46), 3) := by decide +kernel
theorem d_Md_why_68 : decode prog_12_method_87_code 68 = .ok (.iload_n 2, 1) := by decide +kernel
theorem d_Md_why_69 : decode prog_12_method_87_code 69 = .ok (.ireturn, 1) := by decide +kernel
set_option maxHeartbeats 4000000 in
set_option maxRecDepth 100000 in
theorem K_Md_why_19 {F : FT} (hD : ∀ σ, va_D F.2.2.1 (GW F.2.1 σ)) (hm : F.2.2.2.2.2.2.2.2.2.2.2.2.2.2.1 = 4) (ok : OkF F prog_12_method_87_code "LastSeenModel" ({ frames := 4, cells := 0, slots := 0, locals := 97 } : Room)) {Q : Int → SS → Prop} (hQ : RetI F Q) {x1 x2 x3 : Int} {s : SS} (h : B_Md_why_19 Q (fun x1 x2 x3 s => AtS F 19 [(0, .ref (F.2.1.1 10)), (1, vI x1), (2, vI x2), (3, vI x3)] [] s) x1 x2 x3 s) : AtS F 19 [(0, .ref (F.2.1.1 10)), (1, vI x1), (2, vI x2), (3, vI x3)] [] s := by
  unfold B_Md_why_19 at h
  refine r_iload_n ok 3 d_Md_why_19 rfl rfl ?_
  refine r_iload_n ok 1 d_Md_why_20 rfl rfl ?_
  refine r_icmp_gt ok 68 d_Md_why_21 (by decide) h.1 h.2.1 (fun c => ?_) (fun c => ?_)
  · replace h := h.2.2.1 c
    refine r_iload_n ok 2 d_Md_why_68 rfl rfl ?_
    exact hQ _ _ _ _ _ (ok_code ok) d_Md_why_69 h
  · replace h := h.2.2.2 c
    refine r_iload_n ok 3 d_Md_why_24 rfl rfl ?_
    refine r_iload_n ok 1 d_Md_why_25 rfl rfl ?_
    refine r_iconst ok (-1) d_Md_why_26 rfl ?_
    refine r_ixor ok d_Md_why_27 ?_
    refine r_iand ok d_Md_why_28 ?_
    refine r_if_ne ok 62 d_Md_why_29 (by decide) h.1 (fun c => ?_) (fun c => ?_)
    · replace h := h.2.1 c
      refine r_iinc ok 3 (x3 + 1) [(3, vI (x3 + 1)), (0, .ref (F.2.1.1 10)), (1, vI x1), (2, vI x2)] d_Md_why_62 rfl rfl hm (by decide) rfl ?_
      refine r_goto ok 19 d_Md_why_65 (by decide) ?_
      exact r_sub [1, 2, 3, 0] rfl h
    · replace h := h.2.2 c
      refine r_iload_n ok 2 d_Md_why_32 rfl rfl ?_
      refine r_if_eq ok 50 d_Md_why_33 (by decide) h.1 (fun c => ?_) (fun c => ?_)
      · replace h := h.2.1 c
        refine r_aload_n ok 0 d_Md_why_50 rfl rfl ?_
        refine r_iload_n ok 3 d_Md_why_51 rfl rfl ?_
        refine r_iconst ok (-1) d_Md_why_52 rfl ?_
        refine r_iconst ok (-1) d_Md_why_53 rfl ?_
        refine r_callVi (As := [vI x3, vI (-1), vI (-1)]) (rest := []) ok 10 rfl rfl rfl wl_Md_436 wi_y_Md_waysOf ws_y_Md_waysOf wn_Md wc_y_Md_waysOf (by decide) (by decide) hh_Md_waysOf (Nat.le_of_ble_eq_true rfl) rfl d_Md_why_54 (L_Md_waysOf F.1 F.2.1 F.2.2.1 hD h) (fun r5 s4 h => ?_)
        refine r_if_ne ok 62 d_Md_why_57 (by decide) h.1 (fun c => ?_) (fun c => ?_)
        · replace h := h.2.1 c
          refine r_iinc ok 3 (x3 + 1) [(3, vI (x3 + 1)), (0, .ref (F.2.1.1 10)), (1, vI x1), (2, vI x2)] d_Md_why_62 rfl rfl hm (by decide) rfl ?_
          refine r_goto ok 19 d_Md_why_65 (by decide) ?_
          exact r_sub [1, 2, 3, 0] rfl h
        · replace h := h.2.2 c
          refine r_iload_n ok 3 d_Md_why_60 rfl rfl ?_
          refine r_istore_n ok [(2, vI x3), (0, .ref (F.2.1.1 10)), (1, vI x1), (3, vI x3)] d_Md_why_61 rfl hm (by decide) rfl ?_
          refine r_iinc ok 3 (x3 + 1) [(3, vI (x3 + 1)), (2, vI x3), (0, .ref (F.2.1.1 10)), (1, vI x1)] d_Md_why_62 rfl rfl hm (by decide) rfl ?_
          refine r_goto ok 19 d_Md_why_65 (by decide) ?_
          exact r_sub [2, 3, 1, 0] rfl h
      · replace h := h.2.2 c
        refine r_iload_n ok 3 d_Md_why_36 rfl rfl ?_
        refine r_callSi (As := [vI x3]) (rest := []) ok wl_Md_293 wt_y_Md_bits wn_Md wc_y_Md_bits (by decide) (by decide) hh_Md_bits (Nat.le_of_ble_eq_true rfl) rfl d_Md_why_37 (L_Md_bits F.1 F.2.1 F.2.2.1 hD h) (fun r7 s6 h => ?_)
        refine r_iload_n ok 2 d_Md_why_40 rfl rfl ?_
        refine r_callSi (As := [vI x2]) (rest := [vI r7]) ok wl_Md_293 wt_y_Md_bits wn_Md wc_y_Md_bits (by decide) (by decide) hh_Md_bits (Nat.le_of_ble_eq_true rfl) rfl d_Md_why_41 (L_Md_bits F.1 F.2.1 F.2.2.1 hD h) (fun r9 s8 h => ?_)
        refine r_icmp_lt ok 50 d_Md_why_44 (by decide) h.1 h.2.1 (fun c => ?_) (fun c => ?_)
        · replace h := h.2.2.1 c
          refine r_aload_n ok 0 d_Md_why_50 rfl rfl ?_
          refine r_iload_n ok 3 d_Md_why_51 rfl rfl ?_
          refine r_iconst ok (-1) d_Md_why_52 rfl ?_
          refine r_iconst ok (-1) d_Md_why_53 rfl ?_
          refine r_callVi (As := [vI x3, vI (-1), vI (-1)]) (rest := []) ok 10 rfl rfl rfl wl_Md_436 wi_y_Md_waysOf ws_y_Md_waysOf wn_Md wc_y_Md_waysOf (by decide) (by decide) hh_Md_waysOf (Nat.le_of_ble_eq_true rfl) rfl d_Md_why_54 (L_Md_waysOf F.1 F.2.1 F.2.2.1 hD h) (fun r11 s10 h => ?_)
          refine r_if_ne ok 62 d_Md_why_57 (by decide) h.1 (fun c => ?_) (fun c => ?_)
          · replace h := h.2.1 c
            refine r_iinc ok 3 (x3 + 1) [(3, vI (x3 + 1)), (0, .ref (F.2.1.1 10)), (1, vI x1), (2, vI x2)] d_Md_why_62 rfl rfl hm (by decide) rfl ?_
            refine r_goto ok 19 d_Md_why_65 (by decide) ?_
            exact r_sub [1, 2, 3, 0] rfl h
          · replace h := h.2.2 c
            refine r_iload_n ok 3 d_Md_why_60 rfl rfl ?_
            refine r_istore_n ok [(2, vI x3), (0, .ref (F.2.1.1 10)), (1, vI x1), (3, vI x3)] d_Md_why_61 rfl hm (by decide) rfl ?_
            refine r_iinc ok 3 (x3 + 1) [(3, vI (x3 + 1)), (2, vI x3), (0, .ref (F.2.1.1 10)), (1, vI x1)] d_Md_why_62 rfl rfl hm (by decide) rfl ?_
            refine r_goto ok 19 d_Md_why_65 (by decide) ?_
            exact r_sub [2, 3, 1, 0] rfl h
        · replace h := h.2.2.2 c
          refine r_goto ok 62 d_Md_why_47 (by decide) ?_
          refine r_iinc ok 3 (x3 + 1) [(3, vI (x3 + 1)), (0, .ref (F.2.1.1 10)), (1, vI x1), (2, vI x2)] d_Md_why_62 rfl rfl hm (by decide) rfl ?_
          refine r_goto ok 19 d_Md_why_65 (by decide) ?_
          exact r_sub [1, 2, 3, 0] rfl h
set_option maxHeartbeats 4000000 in
set_option maxRecDepth 100000 in
theorem K_Md_why_e {F : FT} (hD : ∀ σ, va_D F.2.2.1 (GW F.2.1 σ)) (hm : F.2.2.2.2.2.2.2.2.2.2.2.2.2.2.1 = 4) (ok : OkF F prog_12_method_87_code "LastSeenModel" ({ frames := 4, cells := 0, slots := 0, locals := 97 } : Room)) {Q : Int → SS → Prop} (hQ : RetI F Q) {x1 : Int} {s : SS} (h : B_Md_why_e Q (fun x1 x2 x3 s => AtS F 19 [(0, .ref (F.2.1.1 10)), (1, vI x1), (2, vI x2), (3, vI x3)] [] s) x1 s) : AtS F 0 [(0, .ref (F.2.1.1 10)), (1, vI x1)] [] s := by
  unfold B_Md_why_e at h
  refine r_aload_n ok 0 d_Md_why_0 rfl rfl ?_
  refine r_iload_n ok 1 d_Md_why_1 rfl rfl ?_
  refine r_callVi (As := [vI x1]) (rest := []) ok 10 rfl rfl rfl wl_Md_430 wi_y_Md_areSets ws_y_Md_areSets wn_Md wc_y_Md_areSets (by decide) (by decide) hh_Md_areSets (Nat.le_of_ble_eq_true rfl) rfl d_Md_why_2 (L_Md_areSets F.1 F.2.1 F.2.2.1 hD h) (fun r2 s1 h => ?_)
  refine r_if_ne ok 11 d_Md_why_5 (by decide) h.1 (fun c => ?_) (fun c => ?_)
  · replace h := h.2.1 c
    refine r_aload_n ok 0 d_Md_why_11 rfl rfl ?_
    refine r_callVv (As := []) (rest := []) ok 10 rfl rfl rfl wl_Md_433 wi_y_Md_findFirsts ws_y_Md_findFirsts wn_Md wc_y_Md_findFirsts (by decide) (by decide) hh_Md_findFirsts (Nat.le_of_ble_eq_true rfl) rfl d_Md_why_12 (L_Md_findFirsts F.1 F.2.1 F.2.2.1 hD h) (fun s3 h => ?_)
    refine r_iconst ok 0 d_Md_why_15 rfl ?_
    refine r_istore_n ok [(2, vI 0), (0, .ref (F.2.1.1 10)), (1, vI x1)] d_Md_why_16 rfl hm (by decide) rfl ?_
    refine r_iconst ok 1 d_Md_why_17 rfl ?_
    refine r_istore_n ok [(3, vI 1), (2, vI 0), (0, .ref (F.2.1.1 10)), (1, vI x1)] d_Md_why_18 rfl hm (by decide) rfl ?_
    exact r_sub [2, 3, 1, 0] rfl h
  · replace h := h.2.2 c
    refine r_bipush ok (-2) d_Md_why_8 (by decide) ?_
    exact hQ _ _ _ _ _ (ok_code ok) d_Md_why_10 h
theorem L_Md_why (l : Launch) (G : GE) (A : Nat → Prop) (hD : ∀ σ, va_D A (GW G σ)) {x1 : Int} {s : SS} {Q : Int → SS → Prop} (h : Sp_Md_why x1 s Q) : Met l y_Md_why (Cond.code y_Md_why prog_12_method_87_code 4 (some .int) :: lw_ok) ({ frames := 4, cells := 0, slots := 0, locals := 97 } : Room) (va_Pc [.ref (G.1 10), vI x1] (gB G s)) (va_Qi (fun (r : Int32) (s2 : SS) => ∃ x : Int, r = iI x ∧ Q x s2) (fun s2 t => gB G s2 t) A) 0 0 A := by
  refine met_i hD (by decide) ⟨rfl, rfl⟩ (Nat.le_of_ble_eq_true rfl) (lv := [(0, .ref (G.1 10)), (1, vI x1)]) rfl (fun F h1 h2 h3 hm ok hQ => ?_)
  subst h1 h2 h3
  have hDF := hD
  exact K_Md_why_e hDF hm ok hQ (h _ (fun _ _ _ _ hb => K_Md_why_19 hDF hm ok hQ hb))
theorem d_Md_give_0 : decode prog_12_method_88_code 0 = .ok (.aload_n 0, 1) := by decide +kernel
theorem d_Md_give_1 : decode prog_12_method_88_code 1 = .ok (.iload_n 1, 1) := by decide +kernel
theorem d_Md_give_2 : decode prog_12_method_88_code 2 = .ok (.invokevirtual 420, 3) := by decide +kernel
theorem d_Md_give_5 : decode prog_12_method_88_code 5 = .ok (.ifCond .ne 5, 3) := by decide +kernel
theorem d_Md_give_8 : decode prog_12_method_88_code 8 = .ok (.iconst (-1), 1) := by decide +kernel
theorem d_Md_give_9 : decode prog_12_method_88_code 9 = .ok (.ireturn, 1) := by decide +kernel
theorem d_Md_give_10 : decode prog_12_method_88_code 10 = .ok (.iconst 0, 1) := by decide +kernel
theorem d_Md_give_11 : decode prog_12_method_88_code 11 = .ok (.istore_n 2, 1) := by decide +kernel
theorem d_Md_give_12 : decode prog_12_method_88_code 12 = .ok (.iconst 0, 1) := by decide +kernel
theorem d_Md_give_13 : decode prog_12_method_88_code 13 = .ok (.istore_n 3, 1) := by decide +kernel
theorem d_Md_give_14 : decode prog_12_method_88_code 14 = .ok (.iload_n 3, 1) := by decide +kernel
theorem d_Md_give_15 : decode prog_12_method_88_code 15 = .ok (.aload_n 0, 1) := by decide +kernel
theorem d_Md_give_16 : decode prog_12_method_88_code 16 = .ok (.getfield 401, 3) := by decide +kernel
theorem d_Md_give_19 : decode prog_12_method_88_code 19 = .ok (.if_icmp .ge 34, 3) := by decide +kernel
theorem d_Md_give_22 : decode prog_12_method_88_code 22 = .ok (.iload_n 2, 1) := by decide +kernel
theorem d_Md_give_23 : decode prog_12_method_88_code 23 = .ok (.aload_n 0, 1) := by decide +kernel
theorem d_Md_give_24 : decode prog_12_method_88_code 24 = .ok (.getfield 136, 3) := by decide +kernel
theorem d_Md_give_27 : decode prog_12_method_88_code 27 = .ok (.iload_n 3, 1) := by decide +kernel
theorem d_Md_give_28 : decode prog_12_method_88_code 28 = .ok (.iaload, 1) := by decide +kernel
theorem d_Md_give_29 : decode prog_12_method_88_code 29 = .ok (.aload_n 0, 1) := by decide +kernel
theorem d_Md_give_30 : decode prog_12_method_88_code 30 = .ok (.getfield 136, 3) := by decide +kernel
theorem d_Md_give_33 : decode prog_12_method_88_code 33 = .ok (.iload_n 1, 1) := by decide +kernel
theorem d_Md_give_34 : decode prog_12_method_88_code 34 = .ok (.iaload, 1) := by decide +kernel
theorem d_Md_give_35 : decode prog_12_method_88_code 35 = .ok (.if_icmp .ne 9, 3) := by decide +kernel
theorem d_Md_give_38 : decode prog_12_method_88_code 38 = .ok (.iconst 1, 1) := by decide +kernel
theorem d_Md_give_39 : decode prog_12_method_88_code 39 = .ok (.iload_n 3, 1) := by decide +kernel
theorem d_Md_give_40 : decode prog_12_method_88_code 40 = .ok (.ishl, 1) := by decide +kernel
theorem d_Md_give_41 : decode prog_12_method_88_code 41 = .ok (.goto 4, 3) := by decide +kernel
theorem d_Md_give_44 : decode prog_12_method_88_code 44 = .ok (.iconst 0, 1) := by decide +kernel
theorem d_Md_give_45 : decode prog_12_method_88_code 45 = .ok (.ior, 1) := by decide +kernel
theorem d_Md_give_46 : decode prog_12_method_88_code 46 = .ok (.istore_n 2, 1) := by decide +kernel
theorem d_Md_give_47 : decode prog_12_method_88_code 47 = .ok (.iinc 3 1, 3) := by decide +kernel
theorem d_Md_give_50 : decode prog_12_method_88_code 50 = .ok (.goto (-36), 3) := by decide +kernel
theorem d_Md_give_53 : decode prog_12_method_88_code 53 = .ok (.aload_n 0, 1) := by decide +kernel
theorem d_Md_give_54 : decode prog_12_method_88_code 54 = .ok (.getfield 151, 3) := by decide +kernel
theorem d_Md_give_57 : decode prog_12_method_88_code 57 = .ok (.iload_n 1, 1) := by decide +kernel
theorem d_Md_give_58 : decode prog_12_method_88_code 58 = .ok (.iaload, 1) := by decide +kernel
theorem d_Md_give_59 : decode prog_12_method_88_code 59 = .ok (.ifCond .lt 7, 3) := by decide +kernel
theorem d_Md_give_62 : decode prog_12_method_88_code 62 = .ok (.iconst (-1), 1) := by decide +kernel
theorem d_Md_give_63 : decode prog_12_method_88_code 63 = .ok (.goto 9, 3) := by decide +kernel
theorem d_Md_give_66 : decode prog_12_method_88_code 66 = .ok (.aload_n 0, 1) := by decide +kernel
theorem d_Md_give_67 : decode prog_12_method_88_code 67 = .ok (.iload_n 1, 1) := by decide +kernel
theorem d_Md_give_68 : decode prog_12_method_88_code 68 = .ok (.iload_n 2, 1) := by decide +kernel
theorem d_Md_give_69 : decode prog_12_method_88_code 69 = .ok (.invokevirtual 439, 3) := by decide +kernel
theorem d_Md_give_72 : decode prog_12_method_88_code 72 = .ok (.istore_n 3, 1) := by decide +kernel
theorem d_Md_give_73 : decode prog_12_method_88_code 73 = .ok (.iload_n 3, 1) := by decide +kernel
theorem d_Md_give_74 : decode prog_12_method_88_code 74 = .ok (.ifCond .ge 6, 3) := by decide +kernel
theorem d_Md_give_77 : decode prog_12_method_88_code 77 = .ok (.bipush (-3), 2) := by decide +kernel
theorem d_Md_give_79 : decode prog_12_method_88_code 79 = .ok (.ireturn, 1) := by decide +kernel
theorem d_Md_give_80 : decode prog_12_method_88_code 80 = .ok (.aload_n 0, 1) := by decide +kernel
theorem d_Md_give_81 : decode prog_12_method_88_code 81 = .ok (.getfield 151, 3) := by decide +kernel
theorem d_Md_give_84 : decode prog_12_method_88_code 84 = .ok (.iload_n 1, 1) := by decide +kernel
theorem d_Md_give_85 : decode prog_12_method_88_code 85 = .ok (.aload_n 0, 1) := by decide +kernel
theorem d_Md_give_86 : decode prog_12_method_88_code 86 = .ok (.getfield 157, 3) := by decide +kernel
theorem d_Md_give_89 : decode prog_12_method_88_code 89 = .ok (.iload_n 3, 1) := by decide +kernel
theorem d_Md_give_90 : decode prog_12_method_88_code 90 = .ok (.iaload, 1) := by decide +kernel
theorem d_Md_give_91 : decode prog_12_method_88_code 91 = .ok (.iastore, 1) := by decide +kernel
theorem d_Md_give_92 : decode prog_12_method_88_code 92 = .ok (.aload_n 0, 1) := by decide +kernel
theorem d_Md_give_93 : decode prog_12_method_88_code 93 = .ok (.dup, 1) := by decide +kernel
theorem d_Md_give_94 : decode prog_12_method_88_code 94 = .ok (.getfield 442, 3) := by decide +kernel
theorem d_Md_give_97 : decode prog_12_method_88_code 97 = .ok (.iconst 1, 1) := by decide +kernel
theorem d_Md_give_98 : decode prog_12_method_88_code 98 = .ok (.iadd, 1) := by decide +kernel
theorem d_Md_give_99 : decode prog_12_method_88_code 99 = .ok (.putfield 442, 3) := by decide +kernel
theorem d_Md_give_102 : decode prog_12_method_88_code 102 = .ok (.aload_n 0, 1) := by decide +kernel
theorem d_Md_give_103 : decode prog_12_method_88_code 103 = .ok (.getfield 154, 3) := by decide +kernel
theorem d_Md_give_106 : decode prog_12_method_88_code 106 = .ok (.iload_n 1, 1) := by decide +kernel
theorem d_Md_give_107 : decode prog_12_method_88_code 107 = .ok (.aload_n 0, 1) := by decide +kernel
theorem d_Md_give_108 : decode prog_12_method_88_code 108 = .ok (.getfield 442, 3) := by decide +kernel
theorem d_Md_give_111 : decode prog_12_method_88_code 111 = .ok (.iastore, 1) := by decide +kernel
theorem d_Md_give_112 : decode prog_12_method_88_code 112 = .ok (.aload_n 0, 1) := by decide +kernel
theorem d_Md_give_113 : decode prog_12_method_88_code 113 = .ok (.getfield 157, 3) := by decide +kernel
theorem d_Md_give_116 : decode prog_12_method_88_code 116 = .ok (.iload_n 3, 1) := by decide +kernel
theorem d_Md_give_117 : decode prog_12_method_88_code 117 = .ok (.iaload, 1) := by decide +kernel
theorem d_Md_give_118 : decode prog_12_method_88_code 118 = .ok (.ireturn, 1) := by decide +kernel
set_option maxHeartbeats 4000000 in
set_option maxRecDepth 100000 in
theorem K_Md_give_14 {F : FT} (hD : ∀ σ, va_D F.2.2.1 (GW F.2.1 σ)) (hm : F.2.2.2.2.2.2.2.2.2.2.2.2.2.2.1 = 4) (ok : OkF F prog_12_method_88_code "LastSeenModel" ({ frames := 5, cells := 0, slots := 0, locals := 121 } : Room)) {Q : Int → SS → Prop} (hQ : RetI F Q) {x1 x2 x3 : Int} {s : SS} (h : B_Md_give_14 Q (fun x1 x2 x3 s => AtS F 14 [(0, .ref (F.2.1.1 10)), (1, vI x1), (2, vI x2), (3, vI x3)] [] s) (fun x1 y0 s => AtS F 72 [(0, .ref (F.2.1.1 10)), (1, vI x1)] [vI y0] s) x1 x2 x3 s) : AtS F 14 [(0, .ref (F.2.1.1 10)), (1, vI x1), (2, vI x2), (3, vI x3)] [] s := by
  unfold B_Md_give_14 at h
  refine r_iload_n ok 3 d_Md_give_14 rfl rfl ?_
  refine r_aload_n ok 0 d_Md_give_15 rfl rfl ?_
  refine g_Md_sets ok d_Md_give_16 ?_
  refine r_icmp_ge ok 53 d_Md_give_19 (by decide) h.1 h.2.1 (fun c => ?_) (fun c => ?_)
  · replace h := h.2.2.1 c
    refine r_aload_n ok 0 d_Md_give_53 rfl rfl ?_
    refine g_Md_given ok d_Md_give_54 ?_
    refine r_iload_n ok 1 d_Md_give_57 rfl rfl ?_
    refine r_iald ok 104 d_Md_give_58 (by decide) rfl h.1 ?_
    replace h := h.2
    refine r_if_lt ok 66 d_Md_give_59 (by decide) h.1 (fun c => ?_) (fun c => ?_)
    · replace h := h.2.1 c
      refine r_aload_n ok 0 d_Md_give_66 rfl rfl ?_
      refine r_iload_n ok 1 d_Md_give_67 rfl rfl ?_
      refine r_iload_n ok 2 d_Md_give_68 rfl rfl ?_
      refine r_callVi (As := [vI x1, vI x2]) (rest := []) ok 10 rfl rfl rfl wl_Md_439 wi_y_Md_onlyOf ws_y_Md_onlyOf wn_Md wc_y_Md_onlyOf (by decide) (by decide) hh_Md_onlyOf (Nat.le_of_ble_eq_true rfl) rfl d_Md_give_69 (L_Md_onlyOf F.1 F.2.1 F.2.2.1 hD h) (fun r4 s3 h => ?_)
      exact r_sub [0, 1] rfl h
    · replace h := h.2.2 c
      refine r_iconst ok (-1) d_Md_give_62 rfl ?_
      refine r_goto ok 72 d_Md_give_63 (by decide) ?_
      exact r_sub [0, 1] rfl h
  · replace h := h.2.2.2 c
    refine r_iload_n ok 2 d_Md_give_22 rfl rfl ?_
    refine r_aload_n ok 0 d_Md_give_23 rfl rfl ?_
    refine g_Md_setGrave ok d_Md_give_24 ?_
    refine r_iload_n ok 3 d_Md_give_27 rfl rfl ?_
    refine r_iald ok 99 d_Md_give_28 (by decide) rfl h.1 ?_
    replace h := h.2
    refine r_aload_n ok 0 d_Md_give_29 rfl rfl ?_
    refine g_Md_setGrave ok d_Md_give_30 ?_
    refine r_iload_n ok 1 d_Md_give_33 rfl rfl ?_
    refine r_iald ok 99 d_Md_give_34 (by decide) rfl h.1 ?_
    replace h := h.2
    refine r_icmp_ne ok 44 d_Md_give_35 (by decide) h.1 h.2.1 (fun c => ?_) (fun c => ?_)
    · replace h := h.2.2.1 c
      refine r_iconst ok 0 d_Md_give_44 rfl ?_
      refine r_ior ok d_Md_give_45 ?_
      refine r_istore_n ok [(2, vI (bor x2 0)), (0, .ref (F.2.1.1 10)), (1, vI x1), (3, vI x3)] d_Md_give_46 rfl hm (by decide) rfl ?_
      refine r_iinc ok 3 (x3 + 1) [(3, vI (x3 + 1)), (2, vI (bor x2 0)), (0, .ref (F.2.1.1 10)), (1, vI x1)] d_Md_give_47 rfl rfl hm (by decide) rfl ?_
      refine r_goto ok 14 d_Md_give_50 (by decide) ?_
      exact r_sub [2, 3, 1, 0] rfl h
    · replace h := h.2.2.2 c
      refine r_iconst ok 1 d_Md_give_38 rfl ?_
      refine r_iload_n ok 3 d_Md_give_39 rfl rfl ?_
      refine r_ishl ok d_Md_give_40 ?_
      refine r_goto ok 45 d_Md_give_41 (by decide) ?_
      refine r_ior ok d_Md_give_45 ?_
      refine r_istore_n ok [(2, vI (bor x2 (shl 1 x3))), (0, .ref (F.2.1.1 10)), (1, vI x1), (3, vI x3)] d_Md_give_46 rfl hm (by decide) rfl ?_
      refine r_iinc ok 3 (x3 + 1) [(3, vI (x3 + 1)), (2, vI (bor x2 (shl 1 x3))), (0, .ref (F.2.1.1 10)), (1, vI x1)] d_Md_give_47 rfl rfl hm (by decide) rfl ?_
      refine r_goto ok 14 d_Md_give_50 (by decide) ?_
      exact r_sub [2, 3, 1, 0] rfl h
set_option maxHeartbeats 4000000 in
set_option maxRecDepth 100000 in
theorem K_Md_give_72 {F : FT} (hD : ∀ σ, va_D F.2.2.1 (GW F.2.1 σ)) (hm : F.2.2.2.2.2.2.2.2.2.2.2.2.2.2.1 = 4) (ok : OkF F prog_12_method_88_code "LastSeenModel" ({ frames := 5, cells := 0, slots := 0, locals := 121 } : Room)) {Q : Int → SS → Prop} (hQ : RetI F Q) {x1 y0 : Int} {s : SS} (h : B_Md_give_72 Q (fun x1 x2 x3 s => AtS F 14 [(0, .ref (F.2.1.1 10)), (1, vI x1), (2, vI x2), (3, vI x3)] [] s) (fun x1 y0 s => AtS F 72 [(0, .ref (F.2.1.1 10)), (1, vI x1)] [vI y0] s) x1 y0 s) : AtS F 72 [(0, .ref (F.2.1.1 10)), (1, vI x1)] [vI y0] s := by
  unfold B_Md_give_72 at h
  refine r_istore_n ok [(3, vI y0), (0, .ref (F.2.1.1 10)), (1, vI x1)] d_Md_give_72 rfl hm (by decide) rfl ?_
  refine r_iload_n ok 0 d_Md_give_73 rfl rfl ?_
  refine r_if_ge ok 80 d_Md_give_74 (by decide) h.1 (fun c => ?_) (fun c => ?_)
  · replace h := h.2.1 c
    refine r_aload_n ok 1 d_Md_give_80 rfl rfl ?_
    refine g_Md_given ok d_Md_give_81 ?_
    refine r_iload_n ok 2 d_Md_give_84 rfl rfl ?_
    refine r_aload_n ok 1 d_Md_give_85 rfl rfl ?_
    refine g_Md_missing ok d_Md_give_86 ?_
    refine r_iload_n ok 0 d_Md_give_89 rfl rfl ?_
    refine r_iald ok 106 d_Md_give_90 (by decide) rfl h.1 ?_
    replace h := h.2
    refine r_iast ok 104 d_Md_give_91 (by decide) rfl h.1 ?_
    replace h := h.2 _ rfl
    generalize sA s 104 x1 (s.2 106 y0) = s5 at h ⊢
    refine r_aload_n ok 1 d_Md_give_92 rfl rfl ?_
    refine r_dup ok d_Md_give_93 rfl ?_
    refine g_Md_giving ok d_Md_give_94 ?_
    refine r_iconst ok 1 d_Md_give_97 rfl ?_
    refine r_iadd ok d_Md_give_98 ?_
    refine p_Md_giving ok d_Md_give_99 ?_
    replace h := h _ rfl
    generalize sF s5 48 ((s5.1 48) + 1) = s6 at h ⊢
    refine r_aload_n ok 1 d_Md_give_102 rfl rfl ?_
    refine g_Md_givenAt ok d_Md_give_103 ?_
    refine r_iload_n ok 2 d_Md_give_106 rfl rfl ?_
    refine r_aload_n ok 1 d_Md_give_107 rfl rfl ?_
    refine g_Md_giving ok d_Md_give_108 ?_
    refine r_iast ok 105 d_Md_give_111 (by decide) rfl h.1 ?_
    replace h := h.2 _ rfl
    generalize sA s6 105 x1 (s6.1 48) = s7 at h ⊢
    refine r_aload_n ok 1 d_Md_give_112 rfl rfl ?_
    refine g_Md_missing ok d_Md_give_113 ?_
    refine r_iload_n ok 0 d_Md_give_116 rfl rfl ?_
    refine r_iald ok 106 d_Md_give_117 (by decide) rfl h.1 ?_
    replace h := h.2
    exact hQ _ _ _ _ _ (ok_code ok) d_Md_give_118 h
  · replace h := h.2.2 c
    refine r_bipush ok (-3) d_Md_give_77 (by decide) ?_
    exact hQ _ _ _ _ _ (ok_code ok) d_Md_give_79 h
set_option maxHeartbeats 4000000 in
set_option maxRecDepth 100000 in
theorem K_Md_give_e {F : FT} (hD : ∀ σ, va_D F.2.2.1 (GW F.2.1 σ)) (hm : F.2.2.2.2.2.2.2.2.2.2.2.2.2.2.1 = 4) (ok : OkF F prog_12_method_88_code "LastSeenModel" ({ frames := 5, cells := 0, slots := 0, locals := 121 } : Room)) {Q : Int → SS → Prop} (hQ : RetI F Q) {x1 : Int} {s : SS} (h : B_Md_give_e Q (fun x1 x2 x3 s => AtS F 14 [(0, .ref (F.2.1.1 10)), (1, vI x1), (2, vI x2), (3, vI x3)] [] s) (fun x1 y0 s => AtS F 72 [(0, .ref (F.2.1.1 10)), (1, vI x1)] [vI y0] s) x1 s) : AtS F 0 [(0, .ref (F.2.1.1 10)), (1, vI x1)] [] s := by
  unfold B_Md_give_e at h
  refine r_aload_n ok 0 d_Md_give_0 rfl rfl ?_
  refine r_iload_n ok 1 d_Md_give_1 rfl rfl ?_
  refine r_callVi (As := [vI x1]) (rest := []) ok 10 rfl rfl rfl wl_Md_420 wi_y_Md_isSet ws_y_Md_isSet wn_Md wc_y_Md_isSet (by decide) (by decide) hh_Md_isSet (Nat.le_of_ble_eq_true rfl) rfl d_Md_give_2 (L_Md_isSet F.1 F.2.1 F.2.2.1 hD h) (fun r2 s1 h => ?_)
  refine r_if_ne ok 10 d_Md_give_5 (by decide) h.1 (fun c => ?_) (fun c => ?_)
  · replace h := h.2.1 c
    refine r_iconst ok 0 d_Md_give_10 rfl ?_
    refine r_istore_n ok [(2, vI 0), (0, .ref (F.2.1.1 10)), (1, vI x1)] d_Md_give_11 rfl hm (by decide) rfl ?_
    refine r_iconst ok 0 d_Md_give_12 rfl ?_
    refine r_istore_n ok [(3, vI 0), (2, vI 0), (0, .ref (F.2.1.1 10)), (1, vI x1)] d_Md_give_13 rfl hm (by decide) rfl ?_
    exact r_sub [2, 3, 1, 0] rfl h
  · replace h := h.2.2 c
    refine r_iconst ok (-1) d_Md_give_8 rfl ?_
    exact hQ _ _ _ _ _ (ok_code ok) d_Md_give_9 h
theorem L_Md_give (l : Launch) (G : GE) (A : Nat → Prop) (hD : ∀ σ, va_D A (GW G σ)) {x1 : Int} {s : SS} {Q : Int → SS → Prop} (h : Sp_Md_give x1 s Q) : Met l y_Md_give (Cond.code y_Md_give prog_12_method_88_code 4 (some .int) :: lw_ok) ({ frames := 5, cells := 0, slots := 0, locals := 121 } : Room) (va_Pc [.ref (G.1 10), vI x1] (gB G s)) (va_Qi (fun (r : Int32) (s2 : SS) => ∃ x : Int, r = iI x ∧ Q x s2) (fun s2 t => gB G s2 t) A) 0 0 A := by
  refine met_i hD (by decide) ⟨rfl, rfl⟩ (Nat.le_of_ble_eq_true rfl) (lv := [(0, .ref (G.1 10)), (1, vI x1)]) rfl (fun F h1 h2 h3 hm ok hQ => ?_)
  subst h1 h2 h3
  have hDF := hD
  exact K_Md_give_e hDF hm ok hQ (h _ _ (fun _ _ _ _ hb => K_Md_give_14 hDF hm ok hQ hb) (fun _ _ _ hb => K_Md_give_72 hDF hm ok hQ hb))
theorem d_Md_take_0 : decode prog_12_method_89_code 0 = .ok (.aload_n 0, 1) := by decide +kernel
theorem d_Md_take_1 : decode prog_12_method_89_code 1 = .ok (.iload_n 1, 1) := by decide +kernel
theorem d_Md_take_2 : decode prog_12_method_89_code 2 = .ok (.invokevirtual 420, 3) := by decide +kernel
theorem d_Md_take_5 : decode prog_12_method_89_code 5 = .ok (.ifCond .ne 5, 3) := by decide +kernel
theorem d_Md_take_8 : decode prog_12_method_89_code 8 = .ok (.iconst (-1), 1) := by decide +kernel
theorem d_Md_take_9 : decode prog_12_method_89_code 9 = .ok (.ireturn, 1) := by decide +kernel
theorem d_Md_take_10 : decode prog_12_method_89_code 10 = .ok (.aload_n 0, 1) := by decide +kernel
theorem d_Md_take_11 : decode prog_12_method_89_code 11 = .ok (.getfield 151, 3) := by decide +kernel
theorem d_Md_take_14 : decode prog_12_method_89_code 14 = .ok (.iload_n 1, 1) := by decide +kernel
theorem d_Md_take_15 : decode prog_12_method_89_code 15 = .ok (.iaload, 1) := by decide +kernel
theorem d_Md_take_16 : decode prog_12_method_89_code 16 = .ok (.ifCond .ge 6, 3) := by decide +kernel
theorem d_Md_take_19 : decode prog_12_method_89_code 19 = .ok (.bipush (-3), 2) := by decide +kernel
theorem d_Md_take_21 : decode prog_12_method_89_code 21 = .ok (.ireturn, 1) := by decide +kernel
theorem d_Md_take_22 : decode prog_12_method_89_code 22 = .ok (.iconst 0, 1) := by decide +kernel
theorem d_Md_take_23 : decode prog_12_method_89_code 23 = .ok (.istore_n 2, 1) := by decide +kernel
theorem d_Md_take_24 : decode prog_12_method_89_code 24 = .ok (.aload_n 0, 1) := by decide +kernel
theorem d_Md_take_25 : decode prog_12_method_89_code 25 = .ok (.getfield 154, 3) := by decide +kernel
theorem d_Md_take_28 : decode prog_12_method_89_code 28 = .ok (.iload_n 1, 1) := by decide +kernel
theorem d_Md_take_29 : decode prog_12_method_89_code 29 = .ok (.iaload, 1) := by decide +kernel
theorem d_Md_take_30 : decode prog_12_method_89_code 30 = .ok (.istore_n 3, 1) := by decide +kernel
theorem d_Md_take_31 : decode prog_12_method_89_code 31 = .ok (.iconst 0, 1) := by decide +kernel
theorem d_Md_take_32 : decode prog_12_method_89_code 32 = .ok (.istore 4, 2) := by decide +kernel
theorem d_Md_take_34 : decode prog_12_method_89_code 34 = .ok (.iload 4, 2) := by decide +kernel
theorem d_Md_take_36 : decode prog_12_method_89_code 36 = .ok (.aload_n 0, 1) := by decide +kernel
theorem d_Md_take_37 : decode prog_12_method_89_code 37 = .ok (.getfield 401, 3) := by decide +kernel
theorem d_Md_take_40 : decode prog_12_method_89_code 40 = .ok (.if_icmp .ge 60, 3) := by decide +kernel
theorem d_Md_take_43 : decode prog_12_method_89_code 43 = .ok (.aload_n 0, 1) := by decide +kernel
theorem d_Md_take_44 : decode prog_12_method_89_code 44 = .ok (.getfield 151, 3) := by decide +kernel
theorem d_Md_take_47 : decode prog_12_method_89_code 47 = .ok (.iload 4, 2) := by decide +kernel
theorem d_Md_take_49 : decode prog_12_method_89_code 49 = .ok (.iaload, 1) := by decide +kernel
theorem d_Md_take_50 : decode prog_12_method_89_code 50 = .ok (.ifCond .lt 44, 3) := by decide +kernel
theorem d_Md_take_53 : decode prog_12_method_89_code 53 = .ok (.aload_n 0, 1) := by decide +kernel
theorem d_Md_take_54 : decode prog_12_method_89_code 54 = .ok (.getfield 136, 3) := by decide +kernel
theorem d_Md_take_57 : decode prog_12_method_89_code 57 = .ok (.iload 4, 2) := by decide +kernel
theorem d_Md_take_59 : decode prog_12_method_89_code 59 = .ok (.iaload, 1) := by decide +kernel
theorem d_Md_take_60 : decode prog_12_method_89_code 60 = .ok (.aload_n 0, 1) := by decide +kernel
theorem d_Md_take_61 : decode prog_12_method_89_code 61 = .ok (.getfield 136, 3) := by decide +kernel
theorem d_Md_take_64 : decode prog_12_method_89_code 64 = .ok (.iload_n 1, 1) := by decide +kernel
theorem d_Md_take_65 : decode prog_12_method_89_code 65 = .ok (.iaload, 1) := by decide +kernel
theorem d_Md_take_66 : decode prog_12_method_89_code 66 = .ok (.if_icmp .ne 28, 3) := by decide +kernel
theorem d_Md_take_69 : decode prog_12_method_89_code 69 = .ok (.aload_n 0, 1) := by decide +kernel
theorem d_Md_take_70 : decode prog_12_method_89_code 70 = .ok (.getfield 154, 3) := by decide +kernel
theorem d_Md_take_73 : decode prog_12_method_89_code 73 = .ok (.iload 4, 2) := by decide +kernel
theorem d_Md_take_75 : decode prog_12_method_89_code 75 = .ok (.iaload, 1) := by decide +kernel
theorem d_Md_take_76 : decode prog_12_method_89_code 76 = .ok (.iload_n 3, 1) := by decide +kernel
theorem d_Md_take_77 : decode prog_12_method_89_code 77 = .ok (.if_icmp .ge 6, 3) := by decide +kernel
theorem d_Md_take_80 : decode prog_12_method_89_code 80 = .ok (.goto 14, 3) := by decide +kernel
theorem d_Md_take_83 : decode prog_12_method_89_code 83 = .ok (.aload_n 0, 1) := by decide +kernel
theorem d_Md_take_84 : decode prog_12_method_89_code 84 = .ok (.getfield 151, 3) := by decide +kernel
theorem d_Md_take_87 : decode prog_12_method_89_code 87 = .ok (.iload 4, 2) := by decide +kernel
theorem d_Md_take_89 : decode prog_12_method_89_code 89 = .ok (.iconst (-1), 1) := by decide +kernel
theorem d_Md_take_90 : decode prog_12_method_89_code 90 = .ok (.iastore, 1) := by decide +kernel
theorem d_Md_take_91 : decode prog_12_method_89_code 91 = .ok (.iinc 2 1, 3) := by decide +kernel
theorem d_Md_take_94 : decode prog_12_method_89_code 94 = .ok (.iinc 4 1, 3) := by decide +kernel
theorem d_Md_take_97 : decode prog_12_method_89_code 97 = .ok (.goto (-63), 3) := by decide +kernel
theorem d_Md_take_100 : decode prog_12_method_89_code 100 = .ok (.iload_n 2, 1) := by decide +kernel
theorem d_Md_take_101 : decode prog_12_method_89_code 101 = .ok (.ireturn, 1) := by decide +kernel
set_option maxHeartbeats 4000000 in
set_option maxRecDepth 100000 in
theorem K_Md_take_34 {F : FT} (hD : ∀ σ, va_D F.2.2.1 (GW F.2.1 σ)) (hm : F.2.2.2.2.2.2.2.2.2.2.2.2.2.2.1 = 5) (ok : OkF F prog_12_method_89_code "LastSeenModel" ({ frames := 1, cells := 0, slots := 0, locals := 21 } : Room)) {Q : Int → SS → Prop} (hQ : RetI F Q) {x1 x2 x3 x4 : Int} {s : SS} (h : B_Md_take_34 Q (fun x1 x2 x3 x4 s => AtS F 34 [(0, .ref (F.2.1.1 10)), (1, vI x1), (2, vI x2), (3, vI x3), (4, vI x4)] [] s) x1 x2 x3 x4 s) : AtS F 34 [(0, .ref (F.2.1.1 10)), (1, vI x1), (2, vI x2), (3, vI x3), (4, vI x4)] [] s := by
  unfold B_Md_take_34 at h
  refine r_iload ok 4 d_Md_take_34 rfl ?_
  refine r_aload_n ok 0 d_Md_take_36 rfl rfl ?_
  refine g_Md_sets ok d_Md_take_37 ?_
  refine r_icmp_ge ok 100 d_Md_take_40 (by decide) h.1 h.2.1 (fun c => ?_) (fun c => ?_)
  · replace h := h.2.2.1 c
    refine r_iload_n ok 2 d_Md_take_100 rfl rfl ?_
    exact hQ _ _ _ _ _ (ok_code ok) d_Md_take_101 h
  · replace h := h.2.2.2 c
    refine r_aload_n ok 0 d_Md_take_43 rfl rfl ?_
    refine g_Md_given ok d_Md_take_44 ?_
    refine r_iload ok 4 d_Md_take_47 rfl ?_
    refine r_iald ok 104 d_Md_take_49 (by decide) rfl h.1 ?_
    replace h := h.2
    refine r_if_lt ok 94 d_Md_take_50 (by decide) h.1 (fun c => ?_) (fun c => ?_)
    · replace h := h.2.1 c
      refine r_iinc ok 4 (x4 + 1) [(4, vI (x4 + 1)), (0, .ref (F.2.1.1 10)), (1, vI x1), (2, vI x2), (3, vI x3)] d_Md_take_94 rfl rfl hm (by decide) rfl ?_
      refine r_goto ok 34 d_Md_take_97 (by decide) ?_
      exact r_sub [1, 2, 3, 4, 0] rfl h
    · replace h := h.2.2 c
      refine r_aload_n ok 0 d_Md_take_53 rfl rfl ?_
      refine g_Md_setGrave ok d_Md_take_54 ?_
      refine r_iload ok 4 d_Md_take_57 rfl ?_
      refine r_iald ok 99 d_Md_take_59 (by decide) rfl h.1 ?_
      replace h := h.2
      refine r_aload_n ok 0 d_Md_take_60 rfl rfl ?_
      refine g_Md_setGrave ok d_Md_take_61 ?_
      refine r_iload_n ok 1 d_Md_take_64 rfl rfl ?_
      refine r_iald ok 99 d_Md_take_65 (by decide) rfl h.1 ?_
      replace h := h.2
      refine r_icmp_ne ok 94 d_Md_take_66 (by decide) h.1 h.2.1 (fun c => ?_) (fun c => ?_)
      · replace h := h.2.2.1 c
        refine r_iinc ok 4 (x4 + 1) [(4, vI (x4 + 1)), (0, .ref (F.2.1.1 10)), (1, vI x1), (2, vI x2), (3, vI x3)] d_Md_take_94 rfl rfl hm (by decide) rfl ?_
        refine r_goto ok 34 d_Md_take_97 (by decide) ?_
        exact r_sub [1, 2, 3, 4, 0] rfl h
      · replace h := h.2.2.2 c
        refine r_aload_n ok 0 d_Md_take_69 rfl rfl ?_
        refine g_Md_givenAt ok d_Md_take_70 ?_
        refine r_iload ok 4 d_Md_take_73 rfl ?_
        refine r_iald ok 105 d_Md_take_75 (by decide) rfl h.1 ?_
        replace h := h.2
        refine r_iload_n ok 3 d_Md_take_76 rfl rfl ?_
        refine r_icmp_ge ok 83 d_Md_take_77 (by decide) h.1 h.2.1 (fun c => ?_) (fun c => ?_)
        · replace h := h.2.2.1 c
          refine r_aload_n ok 0 d_Md_take_83 rfl rfl ?_
          refine g_Md_given ok d_Md_take_84 ?_
          refine r_iload ok 4 d_Md_take_87 rfl ?_
          refine r_iconst ok (-1) d_Md_take_89 rfl ?_
          refine r_iast ok 104 d_Md_take_90 (by decide) rfl h.1 ?_
          replace h := h.2 _ rfl
          generalize sA s 104 x4 (-1) = s3 at h ⊢
          refine r_iinc ok 2 (x2 + 1) [(2, vI (x2 + 1)), (0, .ref (F.2.1.1 10)), (1, vI x1), (3, vI x3), (4, vI x4)] d_Md_take_91 rfl rfl hm (by decide) rfl ?_
          refine r_iinc ok 4 (x4 + 1) [(4, vI (x4 + 1)), (2, vI (x2 + 1)), (0, .ref (F.2.1.1 10)), (1, vI x1), (3, vI x3)] d_Md_take_94 rfl rfl hm (by decide) rfl ?_
          refine r_goto ok 34 d_Md_take_97 (by decide) ?_
          exact r_sub [2, 3, 1, 4, 0] rfl h
        · replace h := h.2.2.2 c
          refine r_goto ok 94 d_Md_take_80 (by decide) ?_
          refine r_iinc ok 4 (x4 + 1) [(4, vI (x4 + 1)), (0, .ref (F.2.1.1 10)), (1, vI x1), (2, vI x2), (3, vI x3)] d_Md_take_94 rfl rfl hm (by decide) rfl ?_
          refine r_goto ok 34 d_Md_take_97 (by decide) ?_
          exact r_sub [1, 2, 3, 4, 0] rfl h
set_option maxHeartbeats 4000000 in
set_option maxRecDepth 100000 in
theorem K_Md_take_e {F : FT} (hD : ∀ σ, va_D F.2.2.1 (GW F.2.1 σ)) (hm : F.2.2.2.2.2.2.2.2.2.2.2.2.2.2.1 = 5) (ok : OkF F prog_12_method_89_code "LastSeenModel" ({ frames := 1, cells := 0, slots := 0, locals := 21 } : Room)) {Q : Int → SS → Prop} (hQ : RetI F Q) {x1 : Int} {s : SS} (h : B_Md_take_e Q (fun x1 x2 x3 x4 s => AtS F 34 [(0, .ref (F.2.1.1 10)), (1, vI x1), (2, vI x2), (3, vI x3), (4, vI x4)] [] s) x1 s) : AtS F 0 [(0, .ref (F.2.1.1 10)), (1, vI x1)] [] s := by
  unfold B_Md_take_e at h
  refine r_aload_n ok 0 d_Md_take_0 rfl rfl ?_
  refine r_iload_n ok 1 d_Md_take_1 rfl rfl ?_
  refine r_callVi (As := [vI x1]) (rest := []) ok 10 rfl rfl rfl wl_Md_420 wi_y_Md_isSet ws_y_Md_isSet wn_Md wc_y_Md_isSet (by decide) (by decide) hh_Md_isSet (Nat.le_of_ble_eq_true rfl) rfl d_Md_take_2 (L_Md_isSet F.1 F.2.1 F.2.2.1 hD h) (fun r2 s1 h => ?_)
  refine r_if_ne ok 10 d_Md_take_5 (by decide) h.1 (fun c => ?_) (fun c => ?_)
  · replace h := h.2.1 c
    refine r_aload_n ok 0 d_Md_take_10 rfl rfl ?_
    refine g_Md_given ok d_Md_take_11 ?_
    refine r_iload_n ok 1 d_Md_take_14 rfl rfl ?_
    refine r_iald ok 104 d_Md_take_15 (by decide) rfl h.1 ?_
    replace h := h.2
    refine r_if_ge ok 22 d_Md_take_16 (by decide) h.1 (fun c => ?_) (fun c => ?_)
    · replace h := h.2.1 c
      refine r_iconst ok 0 d_Md_take_22 rfl ?_
      refine r_istore_n ok [(2, vI 0), (0, .ref (F.2.1.1 10)), (1, vI x1)] d_Md_take_23 rfl hm (by decide) rfl ?_
      refine r_aload_n ok 1 d_Md_take_24 rfl rfl ?_
      refine g_Md_givenAt ok d_Md_take_25 ?_
      refine r_iload_n ok 2 d_Md_take_28 rfl rfl ?_
      refine r_iald ok 105 d_Md_take_29 (by decide) rfl h.1 ?_
      replace h := h.2
      refine r_istore_n ok [(3, vI (s1.2 105 x1)), (2, vI 0), (0, .ref (F.2.1.1 10)), (1, vI x1)] d_Md_take_30 rfl hm (by decide) rfl ?_
      refine r_iconst ok 0 d_Md_take_31 rfl ?_
      refine r_istore ok [(4, vI 0), (3, vI (s1.2 105 x1)), (2, vI 0), (0, .ref (F.2.1.1 10)), (1, vI x1)] d_Md_take_32 hm (by decide) rfl ?_
      exact r_sub [3, 4, 2, 1, 0] rfl h
    · replace h := h.2.2 c
      refine r_bipush ok (-3) d_Md_take_19 (by decide) ?_
      exact hQ _ _ _ _ _ (ok_code ok) d_Md_take_21 h
  · replace h := h.2.2 c
    refine r_iconst ok (-1) d_Md_take_8 rfl ?_
    exact hQ _ _ _ _ _ (ok_code ok) d_Md_take_9 h
theorem L_Md_take (l : Launch) (G : GE) (A : Nat → Prop) (hD : ∀ σ, va_D A (GW G σ)) {x1 : Int} {s : SS} {Q : Int → SS → Prop} (h : Sp_Md_take x1 s Q) : Met l y_Md_take (Cond.code y_Md_take prog_12_method_89_code 5 (some .int) :: lw_ok) ({ frames := 1, cells := 0, slots := 0, locals := 21 } : Room) (va_Pc [.ref (G.1 10), vI x1] (gB G s)) (va_Qi (fun (r : Int32) (s2 : SS) => ∃ x : Int, r = iI x ∧ Q x s2) (fun s2 t => gB G s2 t) A) 0 0 A := by
  refine met_i hD (by decide) ⟨rfl, rfl⟩ (Nat.le_of_ble_eq_true rfl) (lv := [(0, .ref (G.1 10)), (1, vI x1)]) rfl (fun F h1 h2 h3 hm ok hQ => ?_)
  subst h1 h2 h3
  have hDF := hD
  exact K_Md_take_e hDF hm ok hQ (h _ (fun _ _ _ _ _ hb => K_Md_take_34 hDF hm ok hQ hb))
theorem d_Md_named_0 : decode prog_12_method_90_code 0 = .ok (.aload_n 0, 1) := by decide +kernel
theorem d_Md_named_1 : decode prog_12_method_90_code 1 = .ok (.iload_n 1, 1) := by decide +kernel
theorem d_Md_named_2 : decode prog_12_method_90_code 2 = .ok (.invokevirtual 420, 3) := by decide +kernel
theorem d_Md_named_5 : decode prog_12_method_90_code 5 = .ok (.ifCond .ne 7, 3) := by decide +kernel
theorem d_Md_named_8 : decode prog_12_method_90_code 8 = .ok (.iconst (-1), 1) := by decide +kernel
theorem d_Md_named_9 : decode prog_12_method_90_code 9 = .ok (.goto 23, 3) := by decide +kernel
theorem d_Md_named_12 : decode prog_12_method_90_code 12 = .ok (.aload_n 0, 1) := by decide +kernel
theorem d_Md_named_13 : decode prog_12_method_90_code 13 = .ok (.getfield 151, 3) := by decide +kernel
theorem d_Md_named_16 : decode prog_12_method_90_code 16 = .ok (.iload_n 1, 1) := by decide +kernel
theorem d_Md_named_17 : decode prog_12_method_90_code 17 = .ok (.iaload, 1) := by decide +kernel
theorem d_Md_named_18 : decode prog_12_method_90_code 18 = .ok (.ifCond .ge 8, 3) := by decide +kernel
theorem d_Md_named_21 : decode prog_12_method_90_code 21 = .ok (.bipush (-5), 2) := by decide +kernel
theorem d_Md_named_23 : decode prog_12_method_90_code 23 = .ok (.goto 9, 3) := by decide +kernel
theorem d_Md_named_26 : decode prog_12_method_90_code 26 = .ok (.aload_n 0, 1) := by decide +kernel
theorem d_Md_named_27 : decode prog_12_method_90_code 27 = .ok (.getfield 151, 3) := by decide +kernel
theorem d_Md_named_30 : decode prog_12_method_90_code 30 = .ok (.iload_n 1, 1) := by decide +kernel
theorem d_Md_named_31 : decode prog_12_method_90_code 31 = .ok (.iaload, 1) := by decide +kernel
theorem d_Md_named_32 : decode prog_12_method_90_code 32 = .ok (.ireturn, 1) := by decide +kernel
set_option maxHeartbeats 4000000 in
set_option maxRecDepth 100000 in
theorem K_Md_named_e {F : FT} (hD : ∀ σ, va_D F.2.2.1 (GW F.2.1 σ)) (hm : F.2.2.2.2.2.2.2.2.2.2.2.2.2.2.1 = 2) (ok : OkF F prog_12_method_90_code "LastSeenModel" ({ frames := 1, cells := 0, slots := 0, locals := 21 } : Room)) {Q : Int → SS → Prop} (hQ : RetI F Q) {x1 : Int} {s : SS} (h : Sp_Md_named x1 s Q) : AtS F 0 [(0, .ref (F.2.1.1 10)), (1, vI x1)] [] s := by
  unfold Sp_Md_named at h
  refine r_aload_n ok 0 d_Md_named_0 rfl rfl ?_
  refine r_iload_n ok 1 d_Md_named_1 rfl rfl ?_
  refine r_callVi (As := [vI x1]) (rest := []) ok 10 rfl rfl rfl wl_Md_420 wi_y_Md_isSet ws_y_Md_isSet wn_Md wc_y_Md_isSet (by decide) (by decide) hh_Md_isSet (Nat.le_of_ble_eq_true rfl) rfl d_Md_named_2 (L_Md_isSet F.1 F.2.1 F.2.2.1 hD h) (fun r2 s1 h => ?_)
  refine r_if_ne ok 12 d_Md_named_5 (by decide) h.1 (fun c => ?_) (fun c => ?_)
  · replace h := h.2.1 c
    refine r_aload_n ok 0 d_Md_named_12 rfl rfl ?_
    refine g_Md_given ok d_Md_named_13 ?_
    refine r_iload_n ok 1 d_Md_named_16 rfl rfl ?_
    refine r_iald ok 104 d_Md_named_17 (by decide) rfl h.1 ?_
    replace h := h.2
    refine r_if_ge ok 26 d_Md_named_18 (by decide) h.1 (fun c => ?_) (fun c => ?_)
    · replace h := h.2.1 c
      refine r_aload_n ok 0 d_Md_named_26 rfl rfl ?_
      refine g_Md_given ok d_Md_named_27 ?_
      refine r_iload_n ok 1 d_Md_named_30 rfl rfl ?_
      refine r_iald ok 104 d_Md_named_31 (by decide) rfl h.1 ?_
      replace h := h.2
      exact hQ _ _ _ _ _ (ok_code ok) d_Md_named_32 h
    · replace h := h.2.2 c
      refine r_bipush ok (-5) d_Md_named_21 (by decide) ?_
      refine r_goto ok 32 d_Md_named_23 (by decide) ?_
      exact hQ _ _ _ _ _ (ok_code ok) d_Md_named_32 h
  · replace h := h.2.2 c
    refine r_iconst ok (-1) d_Md_named_8 rfl ?_
    refine r_goto ok 32 d_Md_named_9 (by decide) ?_
    exact hQ _ _ _ _ _ (ok_code ok) d_Md_named_32 h
theorem L_Md_named (l : Launch) (G : GE) (A : Nat → Prop) (hD : ∀ σ, va_D A (GW G σ)) {x1 : Int} {s : SS} {Q : Int → SS → Prop} (h : Sp_Md_named x1 s Q) : Met l y_Md_named (Cond.code y_Md_named prog_12_method_90_code 2 (some .int) :: lw_ok) ({ frames := 1, cells := 0, slots := 0, locals := 21 } : Room) (va_Pc [.ref (G.1 10), vI x1] (gB G s)) (va_Qi (fun (r : Int32) (s2 : SS) => ∃ x : Int, r = iI x ∧ Q x s2) (fun s2 t => gB G s2 t) A) 0 0 A := by
  refine met_i hD (by decide) ⟨rfl, rfl⟩ (Nat.le_of_ble_eq_true rfl) (lv := [(0, .ref (G.1 10)), (1, vI x1)]) rfl (fun F h1 h2 h3 hm ok hQ => ?_)
  subst h1 h2 h3
  have hDF := hD
  exact K_Md_named_e hDF hm ok hQ h
end
