section
theorem d_Gr_describe_0 : decode prog_3_method_12_code 0 = .ok (.aload_n 0, 1) := by decide +kernel
theorem d_Gr_describe_1 : decode prog_3_method_12_code 1 = .ok (.getfield 34, 3) := by decide +kernel
theorem d_Gr_describe_4 : decode prog_3_method_12_code 4 = .ok (.iload_n 1, 1) := by decide +kernel
theorem d_Gr_describe_5 : decode prog_3_method_12_code 5 = .ok (.iload_n 2, 1) := by decide +kernel
theorem d_Gr_describe_6 : decode prog_3_method_12_code 6 = .ok (.iastore, 1) := by decide +kernel
theorem d_Gr_describe_7 : decode prog_3_method_12_code 7 = .ok (.aload_n 0, 1) := by decide +kernel
theorem d_Gr_describe_8 : decode prog_3_method_12_code 8 = .ok (.getfield 37, 3) := by decide +kernel
theorem d_Gr_describe_11 : decode prog_3_method_12_code 11 = .ok (.iload_n 1, 1) := by decide +kernel
theorem d_Gr_describe_12 : decode prog_3_method_12_code 12 = .ok (.iload_n 3, 1) := by decide +kernel
theorem d_Gr_describe_13 : decode prog_3_method_12_code 13 = .ok (.iastore, 1) := by decide +kernel
theorem d_Gr_describe_14 : decode prog_3_method_12_code 14 = .ok (.aload_n 0, 1) := by decide +kernel
theorem d_Gr_describe_15 : decode prog_3_method_12_code 15 = .ok (.getfield 40, 3) := by decide +kernel
theorem d_Gr_describe_18 : decode prog_3_method_12_code 18 = .ok (.iload_n 1, 1) := by decide +kernel
theorem d_Gr_describe_19 : decode prog_3_method_12_code 19 = .ok (.iload 4, 2) := by decide +kernel
theorem d_Gr_describe_21 : decode prog_3_method_12_code 21 = .ok (.iastore, 1) := by decide +kernel
theorem d_Gr_describe_22 : decode prog_3_method_12_code 22 = .ok (.return_, 1) := by decide +kernel
set_option maxHeartbeats 4000000 in
set_option maxRecDepth 100000 in
theorem K_Gr_describe_e {F : FT} (hD : ∀ σ, va_D F.2.2.1 (GW F.2.1 σ)) (hm : F.2.2.2.2.2.2.2.2.2.2.2.2.2.2.1 = 5) (ok : OkF F prog_3_method_12_code "LastSeen$Graves" ({ frames := 0, cells := 0, slots := 0, locals := 0 } : Room)) {Q : SS → Prop} (hQ : RetV F Q) {x1 x2 x3 x4 : Int} {s : SS} (h : Sp_Gr_describe x1 x2 x3 x4 s Q) : AtS F 0 [(0, .ref (F.2.1.1 9)), (1, vI x1), (2, vI x2), (3, vI x3), (4, vI x4)] [] s := by
  unfold Sp_Gr_describe at h
  refine r_aload_n ok 0 d_Gr_describe_0 rfl rfl ?_
  refine g_Gr_height ok d_Gr_describe_1 ?_
  refine r_iload_n ok 1 d_Gr_describe_4 rfl rfl ?_
  refine r_iload_n ok 2 d_Gr_describe_5 rfl rfl ?_
  refine r_iast ok 53 d_Gr_describe_6 (by decide) rfl h.1 ?_
  replace h := h.2 _ rfl
  generalize sA s 53 x1 x2 = s1 at h ⊢
  refine r_aload_n ok 0 d_Gr_describe_7 rfl rfl ?_
  refine g_Gr_had ok d_Gr_describe_8 ?_
  refine r_iload_n ok 1 d_Gr_describe_11 rfl rfl ?_
  refine r_iload_n ok 3 d_Gr_describe_12 rfl rfl ?_
  refine r_iast ok 54 d_Gr_describe_13 (by decide) rfl h.1 ?_
  replace h := h.2 _ rfl
  generalize sA s1 54 x1 x3 = s2 at h ⊢
  refine r_aload_n ok 0 d_Gr_describe_14 rfl rfl ?_
  refine g_Gr_hadNot ok d_Gr_describe_15 ?_
  refine r_iload_n ok 1 d_Gr_describe_18 rfl rfl ?_
  refine r_iload ok 4 d_Gr_describe_19 rfl ?_
  refine r_iast ok 55 d_Gr_describe_21 (by decide) rfl h.1 ?_
  replace h := h.2 _ rfl
  generalize sA s2 55 x1 x4 = s3 at h ⊢
  exact hQ _ _ _ _ (ok_code ok) d_Gr_describe_22 h
theorem L_Gr_describe (l : Launch) (G : GE) (A : Nat → Prop) (hD : ∀ σ, va_D A (GW G σ)) {x1 x2 x3 x4 : Int} {s : SS} {Q : SS → Prop} (h : Sp_Gr_describe x1 x2 x3 x4 s Q) : Met l y_Gr_describe (Cond.code y_Gr_describe prog_3_method_12_code 5 (none) :: lw_ok) ({ frames := 0, cells := 0, slots := 0, locals := 0 } : Room) (va_Pc [.ref (G.1 9), vI x1, vI x2, vI x3, vI x4] (gB G s)) (va_Qv (fun (s2 : SS) => Q s2) (fun s2 t => gB G s2 t) A) 0 0 A := by
  refine met_v hD (by decide) ⟨rfl, rfl⟩ (Nat.le_of_ble_eq_true rfl) (lv := [(0, .ref (G.1 9)), (1, vI x1), (2, vI x2), (3, vI x3), (4, vI x4)]) rfl (fun F h1 h2 h3 hm ok hQ => ?_)
  subst h1 h2 h3
  have hDF := hD
  exact K_Gr_describe_e hDF hm ok hQ h
theorem d_LS_missing_0 : decode prog_1_method_29_code 0 = .ok (.aload_n 0, 1) := by decide +kernel
theorem d_LS_missing_1 : decode prog_1_method_29_code 1 = .ok (.iload_n 1, 1) := by decide +kernel
theorem d_LS_missing_2 : decode prog_1_method_29_code 2 = .ok (.invokevirtual 133, 3) := by decide +kernel
theorem d_LS_missing_5 : decode prog_1_method_29_code 5 = .ok (.ifCond .ne 5, 3) := by decide +kernel
theorem d_LS_missing_8 : decode prog_1_method_29_code 8 = .ok (.iconst (-1), 1) := by decide +kernel
theorem d_LS_missing_9 : decode prog_1_method_29_code 9 = .ok (.ireturn, 1) := by decide +kernel
theorem d_LS_missing_10 : decode prog_1_method_29_code 10 = .ok (.iload_n 2, 1) := by decide +kernel
theorem d_LS_missing_11 : decode prog_1_method_29_code 11 = .ok (.ifCond .eq 13, 3) := by decide +kernel
theorem d_LS_missing_14 : decode prog_1_method_29_code 14 = .ok (.iload_n 2, 1) := by decide +kernel
theorem d_LS_missing_15 : decode prog_1_method_29_code 15 = .ok (.invokestatic 299, 3) := by decide +kernel
theorem d_LS_missing_18 : decode prog_1_method_29_code 18 = .ok (.ifCond .ne 6, 3) := by decide +kernel
theorem d_LS_missing_21 : decode prog_1_method_29_code 21 = .ok (.bipush (-2), 2) := by decide +kernel
theorem d_LS_missing_23 : decode prog_1_method_29_code 23 = .ok (.ireturn, 1) := by decide +kernel
theorem d_LS_missing_24 : decode prog_1_method_29_code 24 = .ok (.iload_n 3, 1) := by decide +kernel
theorem d_LS_missing_25 : decode prog_1_method_29_code 25 = .ok (.iload 4, 2) := by decide +kernel
theorem d_LS_missing_27 : decode prog_1_method_29_code 27 = .ok (.invokestatic 302, 3) := by decide +kernel
theorem d_LS_missing_30 : decode prog_1_method_29_code 30 = .ok (.ifCond .ne 6, 3) := by decide +kernel
theorem d_LS_missing_33 : decode prog_1_method_29_code 33 = .ok (.bipush (-2), 2) := by decide +kernel
theorem d_LS_missing_35 : decode prog_1_method_29_code 35 = .ok (.ireturn, 1) := by decide +kernel
theorem d_LS_missing_36 : decode prog_1_method_29_code 36 = .ok (.aload_n 0, 1) := by decide +kernel
theorem d_LS_missing_37 : decode prog_1_method_29_code 37 = .ok (.getfield 70, 3) := by decide +kernel
theorem d_LS_missing_40 : decode prog_1_method_29_code 40 = .ok (.iload_n 1, 1) := by decide +kernel
theorem d_LS_missing_41 : decode prog_1_method_29_code 41 = .ok (.invokevirtual 312, 3) := by decide +kernel
theorem d_LS_missing_44 : decode prog_1_method_29_code 44 = .ok (.istore 5, 2) := by decide +kernel
theorem d_LS_missing_46 : decode prog_1_method_29_code 46 = .ok (.iload 5, 2) := by decide +kernel
theorem d_LS_missing_48 : decode prog_1_method_29_code 48 = .ok (.ifCond .ge 31, 3) := by decide +kernel
theorem d_LS_missing_51 : decode prog_1_method_29_code 51 = .ok (.aload_n 0, 1) := by decide +kernel
theorem d_LS_missing_52 : decode prog_1_method_29_code 52 = .ok (.getfield 70, 3) := by decide +kernel
theorem d_LS_missing_55 : decode prog_1_method_29_code 55 = .ok (.invokevirtual 315, 3) := by decide +kernel
theorem d_LS_missing_58 : decode prog_1_method_29_code 58 = .ok (.bipush 10, 2) := by decide +kernel
theorem d_LS_missing_60 : decode prog_1_method_29_code 60 = .ok (.if_icmp .lt 6, 3) := by decide +kernel
theorem d_LS_missing_63 : decode prog_1_method_29_code 63 = .ok (.bipush (-4), 2) := by decide +kernel
theorem d_LS_missing_65 : decode prog_1_method_29_code 65 = .ok (.ireturn, 1) := by decide +kernel
theorem d_LS_missing_66 : decode prog_1_method_29_code 66 = .ok (.aload_n 0, 1) := by decide +kernel
theorem d_LS_missing_67 : decode prog_1_method_29_code 67 = .ok (.getfield 70, 3) := by decide +kernel
theorem d_LS_missing_70 : decode prog_1_method_29_code 70 = .ok (.iload_n 1, 1) := by decide +kernel
theorem d_LS_missing_71 : decode prog_1_method_29_code 71 = .ok (.invokevirtual 318, 3) := by decide +kernel
theorem d_LS_missing_74 : decode prog_1_method_29_code 74 = .ok (.istore 5, 2) := by decide +kernel
theorem d_LS_missing_76 : decode prog_1_method_29_code 76 = .ok (.goto 18, 3) := by decide +kernel
theorem d_LS_missing_79 : decode prog_1_method_29_code 79 = .ok (.aload_n 0, 1) := by decide +kernel
theorem d_LS_missing_80 : decode prog_1_method_29_code 80 = .ok (.getfield 70, 3) := by decide +kernel
theorem d_LS_missing_83 : decode prog_1_method_29_code 83 = .ok (.iload 5, 2) := by decide +kernel
theorem d_LS_missing_85 : decode prog_1_method_29_code 85 = .ok (.invokevirtual 321, 3) := by decide +kernel
theorem d_LS_missing_88 : decode prog_1_method_29_code 88 = .ok (.ifCond .eq 6, 3) := by decide +kernel
theorem d_LS_missing_91 : decode prog_1_method_29_code 91 = .ok (.bipush (-3), 2) := by decide +kernel
theorem d_LS_missing_93 : decode prog_1_method_29_code 93 = .ok (.ireturn, 1) := by decide +kernel
theorem d_LS_missing_94 : decode prog_1_method_29_code 94 = .ok (.aload_n 0, 1) := by decide +kernel
theorem d_LS_missing_95 : decode prog_1_method_29_code 95 = .ok (.getfield 70, 3) := by decide +kernel
theorem d_LS_missing_98 : decode prog_1_method_29_code 98 = .ok (.iload 5, 2) := by decide +kernel
theorem d_LS_missing_100 : decode prog_1_method_29_code 100 = .ok (.iload_n 2, 1) := by decide +kernel
theorem d_LS_missing_101 : decode prog_1_method_29_code 101 = .ok (.iload_n 3, 1) := by decide +kernel
theorem d_LS_missing_102 : decode prog_1_method_29_code 102 = .ok (.iload 4, 2) := by decide +kernel
theorem d_LS_missing_104 : decode prog_1_method_29_code 104 = .ok (.invokevirtual 324, 3) := by decide +kernel
theorem d_LS_missing_107 : decode prog_1_method_29_code 107 = .ok (.aload_n 0, 1) := by decide +kernel
theorem d_LS_missing_108 : decode prog_1_method_29_code 108 = .ok (.getfield 70, 3) := by decide +kernel
theorem d_LS_missing_111 : decode prog_1_method_29_code 111 = .ok (.invokevirtual 315, 3) := by decide +kernel
theorem d_LS_missing_114 : decode prog_1_method_29_code 114 = .ok (.ireturn, 1) := by decide +kernel
set_option maxHeartbeats 4000000 in
set_option maxRecDepth 100000 in
theorem K_LS_missing_24 {F : FT} (hD : ∀ σ, va_D F.2.2.1 (GW F.2.1 σ)) (hm : F.2.2.2.2.2.2.2.2.2.2.2.2.2.2.1 = 6) (ok : OkF F prog_1_method_29_code "LastSeen" ({ frames := 3, cells := 0, slots := 0, locals := 64 } : Room)) {Q : Int → SS → Prop} (hQ : RetI F Q) {x1 x2 x3 x4 : Int} {s : SS} (h : B_LS_missing_24 Q (fun x1 x2 x3 x4 s => AtS F 24 [(0, .ref (F.2.1.1 0)), (1, vI x1), (2, vI x2), (3, vI x3), (4, vI x4)] [] s) x1 x2 x3 x4 s) : AtS F 24 [(0, .ref (F.2.1.1 0)), (1, vI x1), (2, vI x2), (3, vI x3), (4, vI x4)] [] s := by
  unfold B_LS_missing_24 at h
  refine r_iload_n ok 3 d_LS_missing_24 rfl rfl ?_
  refine r_iload ok 4 d_LS_missing_25 rfl ?_
  refine r_callSi (As := [vI x3, vI x4]) (rest := []) ok wl_LS_302 wt_y_Gr_areMarks wn_Gr wc_y_Gr_areMarks (by decide) (by decide) hh_Gr_areMarks (Nat.le_of_ble_eq_true rfl) rfl d_LS_missing_27 (L_Gr_areMarks F.1 F.2.1 F.2.2.1 hD h) (fun r6 s5 h => ?_)
  refine r_if_ne ok 36 d_LS_missing_30 (by decide) h.1 (fun c => ?_) (fun c => ?_)
  · replace h := h.2.1 c
    refine r_aload_n ok 0 d_LS_missing_36 rfl rfl ?_
    refine g_LS_graves ok d_LS_missing_37 ?_
    refine r_iload_n ok 1 d_LS_missing_40 rfl rfl ?_
    refine r_callVi (As := [vI x1]) (rest := []) ok 9 rfl rfl rfl wl_LS_312 wi_y_Gr_lostIndex ws_y_Gr_lostIndex wn_Gr wc_y_Gr_lostIndex (by decide) (by decide) hh_Gr_lostIndex (Nat.le_of_ble_eq_true rfl) rfl d_LS_missing_41 (L_Gr_lostIndex F.1 F.2.1 F.2.2.1 hD h) (fun r8 s7 h => ?_)
    refine r_istore ok [(5, vI r8), (0, .ref (F.2.1.1 0)), (1, vI x1), (2, vI x2), (3, vI x3), (4, vI x4)] d_LS_missing_44 hm (by decide) rfl ?_
    refine r_iload ok 0 d_LS_missing_46 rfl ?_
    refine r_if_ge ok 79 d_LS_missing_48 (by decide) h.1 (fun c => ?_) (fun c => ?_)
    · replace h := h.2.1 c
      refine r_aload_n ok 1 d_LS_missing_79 rfl rfl ?_
      refine g_LS_graves ok d_LS_missing_80 ?_
      refine r_iload ok 0 d_LS_missing_83 rfl ?_
      refine r_callVi (As := [vI r8]) (rest := []) ok 9 rfl rfl rfl wl_LS_321 wi_y_Gr_isTaken ws_y_Gr_isTaken wn_Gr wc_y_Gr_isTaken (by decide) (by decide) hh_Gr_isTaken (Nat.le_of_ble_eq_true rfl) rfl d_LS_missing_85 (L_Gr_isTaken F.1 F.2.1 F.2.2.1 hD h) (fun r10 s9 h => ?_)
      refine r_if_eq ok 94 d_LS_missing_88 (by decide) h.1 (fun c => ?_) (fun c => ?_)
      · replace h := h.2.1 c
        refine r_aload_n ok 1 d_LS_missing_94 rfl rfl ?_
        refine g_LS_graves ok d_LS_missing_95 ?_
        refine r_iload ok 0 d_LS_missing_98 rfl ?_
        refine r_iload_n ok 3 d_LS_missing_100 rfl rfl ?_
        refine r_iload_n ok 4 d_LS_missing_101 rfl rfl ?_
        refine r_iload ok 5 d_LS_missing_102 rfl ?_
        refine r_callVv (As := [vI r8, vI x2, vI x3, vI x4]) (rest := []) ok 9 rfl rfl rfl wl_LS_324 wi_y_Gr_describe ws_y_Gr_describe wn_Gr wc_y_Gr_describe (by decide) (by decide) hh_Gr_describe (Nat.le_of_ble_eq_true rfl) rfl d_LS_missing_104 (L_Gr_describe F.1 F.2.1 F.2.2.1 hD h) (fun s11 h => ?_)
        refine r_aload_n ok 1 d_LS_missing_107 rfl rfl ?_
        refine g_LS_graves ok d_LS_missing_108 ?_
        refine r_callVi (As := []) (rest := []) ok 9 rfl rfl rfl wl_LS_315 wi_y_Gr_lost ws_y_Gr_lost wn_Gr wc_y_Gr_lost (by decide) (by decide) hh_Gr_lost (Nat.le_of_ble_eq_true rfl) rfl d_LS_missing_111 (L_Gr_lost F.1 F.2.1 F.2.2.1 hD h) (fun r13 s12 h => ?_)
        exact hQ _ _ _ _ _ (ok_code ok) d_LS_missing_114 h
      · replace h := h.2.2 c
        refine r_bipush ok (-3) d_LS_missing_91 (by decide) ?_
        exact hQ _ _ _ _ _ (ok_code ok) d_LS_missing_93 h
    · replace h := h.2.2 c
      refine r_aload_n ok 1 d_LS_missing_51 rfl rfl ?_
      refine g_LS_graves ok d_LS_missing_52 ?_
      refine r_callVi (As := []) (rest := []) ok 9 rfl rfl rfl wl_LS_315 wi_y_Gr_lost ws_y_Gr_lost wn_Gr wc_y_Gr_lost (by decide) (by decide) hh_Gr_lost (Nat.le_of_ble_eq_true rfl) rfl d_LS_missing_55 (L_Gr_lost F.1 F.2.1 F.2.2.1 hD h) (fun r15 s14 h => ?_)
      refine r_bipush ok 10 d_LS_missing_58 (by decide) ?_
      refine r_icmp_lt ok 66 d_LS_missing_60 (by decide) h.1 (by decide) (fun c => ?_) (fun c => ?_)
      · replace h := h.2.1 c
        refine r_aload_n ok 1 d_LS_missing_66 rfl rfl ?_
        refine g_LS_graves ok d_LS_missing_67 ?_
        refine r_iload_n ok 2 d_LS_missing_70 rfl rfl ?_
        refine r_callVi (As := [vI x1]) (rest := []) ok 9 rfl rfl rfl wl_LS_318 wi_y_Gr_addLost ws_y_Gr_addLost wn_Gr wc_y_Gr_addLost (by decide) (by decide) hh_Gr_addLost (Nat.le_of_ble_eq_true rfl) rfl d_LS_missing_71 (L_Gr_addLost F.1 F.2.1 F.2.2.1 hD h) (fun r17 s16 h => ?_)
        refine r_istore ok [(5, vI r17), (0, .ref (F.2.1.1 0)), (1, vI x1), (2, vI x2), (3, vI x3), (4, vI x4)] d_LS_missing_74 hm (by decide) rfl ?_
        refine r_goto ok 94 d_LS_missing_76 (by decide) ?_
        refine r_aload_n ok 1 d_LS_missing_94 rfl rfl ?_
        refine g_LS_graves ok d_LS_missing_95 ?_
        refine r_iload ok 0 d_LS_missing_98 rfl ?_
        refine r_iload_n ok 3 d_LS_missing_100 rfl rfl ?_
        refine r_iload_n ok 4 d_LS_missing_101 rfl rfl ?_
        refine r_iload ok 5 d_LS_missing_102 rfl ?_
        refine r_callVv (As := [vI r17, vI x2, vI x3, vI x4]) (rest := []) ok 9 rfl rfl rfl wl_LS_324 wi_y_Gr_describe ws_y_Gr_describe wn_Gr wc_y_Gr_describe (by decide) (by decide) hh_Gr_describe (Nat.le_of_ble_eq_true rfl) rfl d_LS_missing_104 (L_Gr_describe F.1 F.2.1 F.2.2.1 hD h) (fun s18 h => ?_)
        refine r_aload_n ok 1 d_LS_missing_107 rfl rfl ?_
        refine g_LS_graves ok d_LS_missing_108 ?_
        refine r_callVi (As := []) (rest := []) ok 9 rfl rfl rfl wl_LS_315 wi_y_Gr_lost ws_y_Gr_lost wn_Gr wc_y_Gr_lost (by decide) (by decide) hh_Gr_lost (Nat.le_of_ble_eq_true rfl) rfl d_LS_missing_111 (L_Gr_lost F.1 F.2.1 F.2.2.1 hD h) (fun r20 s19 h => ?_)
        exact hQ _ _ _ _ _ (ok_code ok) d_LS_missing_114 h
      · replace h := h.2.2 c
        refine r_bipush ok (-4) d_LS_missing_63 (by decide) ?_
        exact hQ _ _ _ _ _ (ok_code ok) d_LS_missing_65 h
  · replace h := h.2.2 c
    refine r_bipush ok (-2) d_LS_missing_33 (by decide) ?_
    exact hQ _ _ _ _ _ (ok_code ok) d_LS_missing_35 h
set_option maxHeartbeats 4000000 in
set_option maxRecDepth 100000 in
theorem K_LS_missing_e {F : FT} (hD : ∀ σ, va_D F.2.2.1 (GW F.2.1 σ)) (hm : F.2.2.2.2.2.2.2.2.2.2.2.2.2.2.1 = 6) (ok : OkF F prog_1_method_29_code "LastSeen" ({ frames := 3, cells := 0, slots := 0, locals := 64 } : Room)) {Q : Int → SS → Prop} (hQ : RetI F Q) {x1 x2 x3 x4 : Int} {s : SS} (h : B_LS_missing_e Q (fun x1 x2 x3 x4 s => AtS F 24 [(0, .ref (F.2.1.1 0)), (1, vI x1), (2, vI x2), (3, vI x3), (4, vI x4)] [] s) x1 x2 x3 x4 s) : AtS F 0 [(0, .ref (F.2.1.1 0)), (1, vI x1), (2, vI x2), (3, vI x3), (4, vI x4)] [] s := by
  unfold B_LS_missing_e at h
  refine r_aload_n ok 0 d_LS_missing_0 rfl rfl ?_
  refine r_iload_n ok 1 d_LS_missing_1 rfl rfl ?_
  refine r_callVi (As := [vI x1]) (rest := []) ok 0 rfl rfl rfl wl_LS_133 wi_y_LS_isName ws_y_LS_isName wn_LS wc_y_LS_isName (by decide) (by decide) hh_LS_isName (Nat.le_of_ble_eq_true rfl) rfl d_LS_missing_2 (L_LS_isName F.1 F.2.1 F.2.2.1 hD h) (fun r2 s1 h => ?_)
  refine r_if_ne ok 10 d_LS_missing_5 (by decide) h.1 (fun c => ?_) (fun c => ?_)
  · replace h := h.2.1 c
    refine r_iload_n ok 2 d_LS_missing_10 rfl rfl ?_
    refine r_if_eq ok 24 d_LS_missing_11 (by decide) h.1 (fun c => ?_) (fun c => ?_)
    · replace h := h.2.1 c
      exact r_sub [0, 1, 2, 3, 4] rfl h
    · replace h := h.2.2 c
      refine r_iload_n ok 2 d_LS_missing_14 rfl rfl ?_
      refine r_callSi (As := [vI x2]) (rest := []) ok wl_LS_299 wt_y_Gr_isHeight wn_Gr wc_y_Gr_isHeight (by decide) (by decide) hh_Gr_isHeight (Nat.le_of_ble_eq_true rfl) rfl d_LS_missing_15 (L_Gr_isHeight F.1 F.2.1 F.2.2.1 hD h) (fun r4 s3 h => ?_)
      refine r_if_ne ok 24 d_LS_missing_18 (by decide) h.1 (fun c => ?_) (fun c => ?_)
      · replace h := h.2.1 c
        exact r_sub [0, 1, 2, 3, 4] rfl h
      · replace h := h.2.2 c
        refine r_bipush ok (-2) d_LS_missing_21 (by decide) ?_
        exact hQ _ _ _ _ _ (ok_code ok) d_LS_missing_23 h
  · replace h := h.2.2 c
    refine r_iconst ok (-1) d_LS_missing_8 rfl ?_
    exact hQ _ _ _ _ _ (ok_code ok) d_LS_missing_9 h
theorem L_LS_missing (l : Launch) (G : GE) (A : Nat → Prop) (hD : ∀ σ, va_D A (GW G σ)) {x1 x2 x3 x4 : Int} {s : SS} {Q : Int → SS → Prop} (h : Sp_LS_missing x1 x2 x3 x4 s Q) : Met l y_LS_missing (Cond.code y_LS_missing prog_1_method_29_code 6 (some .int) :: lw_ok) ({ frames := 3, cells := 0, slots := 0, locals := 64 } : Room) (va_Pc [.ref (G.1 0), vI x1, vI x2, vI x3, vI x4] (gB G s)) (va_Qi (fun (r : Int32) (s2 : SS) => ∃ x : Int, r = iI x ∧ Q x s2) (fun s2 t => gB G s2 t) A) 0 0 A := by
  refine met_i hD (by decide) ⟨rfl, rfl⟩ (Nat.le_of_ble_eq_true rfl) (lv := [(0, .ref (G.1 0)), (1, vI x1), (2, vI x2), (3, vI x3), (4, vI x4)]) rfl (fun F h1 h2 h3 hm ok hQ => ?_)
  subst h1 h2 h3
  have hDF := hD
  exact K_LS_missing_e hDF hm ok hQ (h _ (fun _ _ _ _ _ hb => K_LS_missing_24 hDF hm ok hQ hb))
theorem d_LS_isSet_0 : decode prog_1_method_46_code 0 = .ok (.iload_n 1, 1) := by decide +kernel
theorem d_LS_isSet_1 : decode prog_1_method_46_code 1 = .ok (.ifCond .lt 18, 3) := by decide +kernel
theorem d_LS_isSet_4 : decode prog_1_method_46_code 4 = .ok (.iload_n 1, 1) := by decide +kernel
theorem d_LS_isSet_5 : decode prog_1_method_46_code 5 = .ok (.aload_n 0, 1) := by decide +kernel
theorem d_LS_isSet_6 : decode prog_1_method_46_code 6 = .ok (.getfield 70, 3) := by decide +kernel
theorem d_LS_isSet_9 : decode prog_1_method_46_code 9 = .ok (.invokevirtual 305, 3) := by decide +kernel
theorem d_LS_isSet_12 : decode prog_1_method_46_code 12 = .ok (.if_icmp .ge 7, 3) := by decide +kernel
theorem d_LS_isSet_15 : decode prog_1_method_46_code 15 = .ok (.iconst 1, 1) := by decide +kernel
theorem d_LS_isSet_16 : decode prog_1_method_46_code 16 = .ok (.goto 4, 3) := by decide +kernel
theorem d_LS_isSet_19 : decode prog_1_method_46_code 19 = .ok (.iconst 0, 1) := by decide +kernel
theorem d_LS_isSet_20 : decode prog_1_method_46_code 20 = .ok (.ireturn, 1) := by decide +kernel
set_option maxHeartbeats 4000000 in
set_option maxRecDepth 100000 in
theorem K_LS_isSet_e {F : FT} (hD : ∀ σ, va_D F.2.2.1 (GW F.2.1 σ)) (hm : F.2.2.2.2.2.2.2.2.2.2.2.2.2.2.1 = 2) (ok : OkF F prog_1_method_46_code "LastSeen" ({ frames := 1, cells := 0, slots := 0, locals := 20 } : Room)) {Q : Int → SS → Prop} (hQ : RetZ F Q) {x1 : Int} {s : SS} (h : Sp_LS_isSet x1 s Q) : AtS F 0 [(0, .ref (F.2.1.1 0)), (1, vI x1)] [] s := by
  unfold Sp_LS_isSet at h
  refine r_iload_n ok 1 d_LS_isSet_0 rfl rfl ?_
  refine r_if_lt ok 19 d_LS_isSet_1 (by decide) h.1 (fun c => ?_) (fun c => ?_)
  · replace h := h.2.1 c
    refine r_iconst ok 0 d_LS_isSet_19 rfl ?_
    exact hQ _ _ _ _ _ (ok_code ok) d_LS_isSet_20 (by decide) h
  · replace h := h.2.2 c
    refine r_iload_n ok 1 d_LS_isSet_4 rfl rfl ?_
    refine r_aload_n ok 0 d_LS_isSet_5 rfl rfl ?_
    refine g_LS_graves ok d_LS_isSet_6 ?_
    refine r_callVi (As := []) (rest := [vI x1]) ok 9 rfl rfl rfl wl_LS_305 wi_y_Gr_sets ws_y_Gr_sets wn_Gr wc_y_Gr_sets (by decide) (by decide) hh_Gr_sets (Nat.le_of_ble_eq_true rfl) rfl d_LS_isSet_9 (L_Gr_sets F.1 F.2.1 F.2.2.1 hD h) (fun r2 s1 h => ?_)
    refine r_icmp_ge ok 19 d_LS_isSet_12 (by decide) h.1 h.2.1 (fun c => ?_) (fun c => ?_)
    · replace h := h.2.2.1 c
      refine r_iconst ok 0 d_LS_isSet_19 rfl ?_
      exact hQ _ _ _ _ _ (ok_code ok) d_LS_isSet_20 (by decide) h
    · replace h := h.2.2.2 c
      refine r_iconst ok 1 d_LS_isSet_15 rfl ?_
      refine r_goto ok 20 d_LS_isSet_16 (by decide) ?_
      exact hQ _ _ _ _ _ (ok_code ok) d_LS_isSet_20 (by decide) h
theorem L_LS_isSet (l : Launch) (G : GE) (A : Nat → Prop) (hD : ∀ σ, va_D A (GW G σ)) {x1 : Int} {s : SS} {Q : Int → SS → Prop} (h : Sp_LS_isSet x1 s Q) : Met l y_LS_isSet (Cond.code y_LS_isSet prog_1_method_46_code 2 (some .boolean) :: lw_ok) ({ frames := 1, cells := 0, slots := 0, locals := 20 } : Room) (va_Pc [.ref (G.1 0), vI x1] (gB G s)) (va_Qi (fun (r : Int32) (s2 : SS) => ∃ x : Int, r = iI x ∧ Q x s2) (fun s2 t => gB G s2 t) A) 0 0 A := by
  refine met_z hD (by decide) ⟨rfl, rfl⟩ (Nat.le_of_ble_eq_true rfl) (lv := [(0, .ref (G.1 0)), (1, vI x1)]) rfl (fun F h1 h2 h3 hm ok hQ => ?_)
  subst h1 h2 h3
  have hDF := hD
  exact K_LS_isSet_e hDF hm ok hQ h
theorem d_Gr_suits_0 : decode prog_3_method_14_code 0 = .ok (.aload_n 0, 1) := by decide +kernel
theorem d_Gr_suits_1 : decode prog_3_method_14_code 1 = .ok (.getfield 34, 3) := by decide +kernel
theorem d_Gr_suits_4 : decode prog_3_method_14_code 4 = .ok (.iload_n 2, 1) := by decide +kernel
theorem d_Gr_suits_5 : decode prog_3_method_14_code 5 = .ok (.iaload, 1) := by decide +kernel
theorem d_Gr_suits_6 : decode prog_3_method_14_code 6 = .ok (.istore_n 3, 1) := by decide +kernel
theorem d_Gr_suits_7 : decode prog_3_method_14_code 7 = .ok (.iload_n 3, 1) := by decide +kernel
theorem d_Gr_suits_8 : decode prog_3_method_14_code 8 = .ok (.ifCond .eq 25, 3) := by decide +kernel
theorem d_Gr_suits_11 : decode prog_3_method_14_code 11 = .ok (.iload_n 3, 1) := by decide +kernel
theorem d_Gr_suits_12 : decode prog_3_method_14_code 12 = .ok (.aload_n 0, 1) := by decide +kernel
theorem d_Gr_suits_13 : decode prog_3_method_14_code 13 = .ok (.getfield 13, 3) := by decide +kernel
theorem d_Gr_suits_16 : decode prog_3_method_14_code 16 = .ok (.iload_n 1, 1) := by decide +kernel
theorem d_Gr_suits_17 : decode prog_3_method_14_code 17 = .ok (.iaload, 1) := by decide +kernel
theorem d_Gr_suits_18 : decode prog_3_method_14_code 18 = .ok (.if_icmp .lt 13, 3) := by decide +kernel
theorem d_Gr_suits_21 : decode prog_3_method_14_code 21 = .ok (.iload_n 3, 1) := by decide +kernel
theorem d_Gr_suits_22 : decode prog_3_method_14_code 22 = .ok (.aload_n 0, 1) := by decide +kernel
theorem d_Gr_suits_23 : decode prog_3_method_14_code 23 = .ok (.getfield 16, 3) := by decide +kernel
theorem d_Gr_suits_26 : decode prog_3_method_14_code 26 = .ok (.iload_n 1, 1) := by decide +kernel
theorem d_Gr_suits_27 : decode prog_3_method_14_code 27 = .ok (.iaload, 1) := by decide +kernel
theorem d_Gr_suits_28 : decode prog_3_method_14_code 28 = .ok (.if_icmp .le 5, 3) := by decide +kernel
theorem d_Gr_suits_31 : decode prog_3_method_14_code 31 = .ok (.iconst 0, 1) := by decide +kernel
theorem d_Gr_suits_32 : decode prog_3_method_14_code 32 = .ok (.ireturn, 1) := by decide +kernel
theorem d_Gr_suits_33 : decode prog_3_method_14_code 33 = .ok (.aload_n 0, 1) := by decide +kernel
theorem d_Gr_suits_34 : decode prog_3_method_14_code 34 = .ok (.getfield 19, 3) := by decide +kernel
theorem d_Gr_suits_37 : decode prog_3_method_14_code 37 = .ok (.iload_n 1, 1) := by decide +kernel
theorem d_Gr_suits_38 : decode prog_3_method_14_code 38 = .ok (.iaload, 1) := by decide +kernel
theorem d_Gr_suits_39 : decode prog_3_method_14_code 39 = .ok (.aload_n 0, 1) := by decide +kernel
theorem d_Gr_suits_40 : decode prog_3_method_14_code 40 = .ok (.getfield 40, 3) := by decide +kernel
theorem d_Gr_suits_43 : decode prog_3_method_14_code 43 = .ok (.iload_n 2, 1) := by decide +kernel
theorem d_Gr_suits_44 : decode prog_3_method_14_code 44 = .ok (.iaload, 1) := by decide +kernel
theorem d_Gr_suits_45 : decode prog_3_method_14_code 45 = .ok (.iand, 1) := by decide +kernel
theorem d_Gr_suits_46 : decode prog_3_method_14_code 46 = .ok (.ifCond .ne 23, 3) := by decide +kernel
theorem d_Gr_suits_49 : decode prog_3_method_14_code 49 = .ok (.aload_n 0, 1) := by decide +kernel
theorem d_Gr_suits_50 : decode prog_3_method_14_code 50 = .ok (.getfield 22, 3) := by decide +kernel
theorem d_Gr_suits_53 : decode prog_3_method_14_code 53 = .ok (.iload_n 1, 1) := by decide +kernel
theorem d_Gr_suits_54 : decode prog_3_method_14_code 54 = .ok (.iaload, 1) := by decide +kernel
theorem d_Gr_suits_55 : decode prog_3_method_14_code 55 = .ok (.aload_n 0, 1) := by decide +kernel
theorem d_Gr_suits_56 : decode prog_3_method_14_code 56 = .ok (.getfield 37, 3) := by decide +kernel
theorem d_Gr_suits_59 : decode prog_3_method_14_code 59 = .ok (.iload_n 2, 1) := by decide +kernel
theorem d_Gr_suits_60 : decode prog_3_method_14_code 60 = .ok (.iaload, 1) := by decide +kernel
theorem d_Gr_suits_61 : decode prog_3_method_14_code 61 = .ok (.iand, 1) := by decide +kernel
theorem d_Gr_suits_62 : decode prog_3_method_14_code 62 = .ok (.ifCond .ne 7, 3) := by decide +kernel
theorem d_Gr_suits_65 : decode prog_3_method_14_code 65 = .ok (.iconst 1, 1) := by decide +kernel
theorem d_Gr_suits_66 : decode prog_3_method_14_code 66 = .ok (.goto 4, 3) := by decide +kernel
theorem d_Gr_suits_69 : decode prog_3_method_14_code 69 = .ok (.iconst 0, 1) := by decide +kernel
theorem d_Gr_suits_70 : decode prog_3_method_14_code 70 = .ok (.ireturn, 1) := by decide +kernel
set_option maxHeartbeats 4000000 in
set_option maxRecDepth 100000 in
theorem K_Gr_suits_33 {F : FT} (hD : ∀ σ, va_D F.2.2.1 (GW F.2.1 σ)) (hm : F.2.2.2.2.2.2.2.2.2.2.2.2.2.2.1 = 4) (ok : OkF F prog_3_method_14_code "LastSeen$Graves" ({ frames := 0, cells := 0, slots := 0, locals := 0 } : Room)) {Q : Int → SS → Prop} (hQ : RetZ F Q) {x1 x2 : Int} {s : SS} (h : B_Gr_suits_33 Q (fun x1 x2 s => AtS F 33 [(0, .ref (F.2.1.1 9)), (1, vI x1), (2, vI x2)] [] s) x1 x2 s) : AtS F 33 [(0, .ref (F.2.1.1 9)), (1, vI x1), (2, vI x2)] [] s := by
  unfold B_Gr_suits_33 at h
  refine r_aload_n ok 0 d_Gr_suits_33 rfl rfl ?_
  refine g_Gr_has ok d_Gr_suits_34 ?_
  refine r_iload_n ok 1 d_Gr_suits_37 rfl rfl ?_
  refine r_iald ok 48 d_Gr_suits_38 (by decide) rfl h.1 ?_
  replace h := h.2
  refine r_aload_n ok 0 d_Gr_suits_39 rfl rfl ?_
  refine g_Gr_hadNot ok d_Gr_suits_40 ?_
  refine r_iload_n ok 2 d_Gr_suits_43 rfl rfl ?_
  refine r_iald ok 55 d_Gr_suits_44 (by decide) rfl h.1 ?_
  replace h := h.2
  refine r_iand ok d_Gr_suits_45 ?_
  refine r_if_ne ok 69 d_Gr_suits_46 (by decide) h.1 (fun c => ?_) (fun c => ?_)
  · replace h := h.2.1 c
    refine r_iconst ok 0 d_Gr_suits_69 rfl ?_
    exact hQ _ _ _ _ _ (ok_code ok) d_Gr_suits_70 (by decide) h
  · replace h := h.2.2 c
    refine r_aload_n ok 0 d_Gr_suits_49 rfl rfl ?_
    refine g_Gr_hasNot ok d_Gr_suits_50 ?_
    refine r_iload_n ok 1 d_Gr_suits_53 rfl rfl ?_
    refine r_iald ok 49 d_Gr_suits_54 (by decide) rfl h.1 ?_
    replace h := h.2
    refine r_aload_n ok 0 d_Gr_suits_55 rfl rfl ?_
    refine g_Gr_had ok d_Gr_suits_56 ?_
    refine r_iload_n ok 2 d_Gr_suits_59 rfl rfl ?_
    refine r_iald ok 54 d_Gr_suits_60 (by decide) rfl h.1 ?_
    replace h := h.2
    refine r_iand ok d_Gr_suits_61 ?_
    refine r_if_ne ok 69 d_Gr_suits_62 (by decide) h.1 (fun c => ?_) (fun c => ?_)
    · replace h := h.2.1 c
      refine r_iconst ok 0 d_Gr_suits_69 rfl ?_
      exact hQ _ _ _ _ _ (ok_code ok) d_Gr_suits_70 (by decide) h
    · replace h := h.2.2 c
      refine r_iconst ok 1 d_Gr_suits_65 rfl ?_
      refine r_goto ok 70 d_Gr_suits_66 (by decide) ?_
      exact hQ _ _ _ _ _ (ok_code ok) d_Gr_suits_70 (by decide) h
set_option maxHeartbeats 4000000 in
set_option maxRecDepth 100000 in
theorem K_Gr_suits_e {F : FT} (hD : ∀ σ, va_D F.2.2.1 (GW F.2.1 σ)) (hm : F.2.2.2.2.2.2.2.2.2.2.2.2.2.2.1 = 4) (ok : OkF F prog_3_method_14_code "LastSeen$Graves" ({ frames := 0, cells := 0, slots := 0, locals := 0 } : Room)) {Q : Int → SS → Prop} (hQ : RetZ F Q) {x1 x2 : Int} {s : SS} (h : B_Gr_suits_e Q (fun x1 x2 s => AtS F 33 [(0, .ref (F.2.1.1 9)), (1, vI x1), (2, vI x2)] [] s) x1 x2 s) : AtS F 0 [(0, .ref (F.2.1.1 9)), (1, vI x1), (2, vI x2)] [] s := by
  unfold B_Gr_suits_e at h
  refine r_aload_n ok 0 d_Gr_suits_0 rfl rfl ?_
  refine g_Gr_height ok d_Gr_suits_1 ?_
  refine r_iload_n ok 2 d_Gr_suits_4 rfl rfl ?_
  refine r_iald ok 53 d_Gr_suits_5 (by decide) rfl h.1 ?_
  replace h := h.2
  refine r_istore_n ok [(3, vI (s.2 53 x2)), (0, .ref (F.2.1.1 9)), (1, vI x1), (2, vI x2)] d_Gr_suits_6 rfl hm (by decide) rfl ?_
  refine r_iload_n ok 0 d_Gr_suits_7 rfl rfl ?_
  refine r_if_eq ok 33 d_Gr_suits_8 (by decide) h.1 (fun c => ?_) (fun c => ?_)
  · replace h := h.2.1 c
    exact r_sub [1, 2, 3] rfl h
  · replace h := h.2.2 c
    refine r_iload_n ok 0 d_Gr_suits_11 rfl rfl ?_
    refine r_aload_n ok 1 d_Gr_suits_12 rfl rfl ?_
    refine g_Gr_low ok d_Gr_suits_13 ?_
    refine r_iload_n ok 2 d_Gr_suits_16 rfl rfl ?_
    refine r_iald ok 46 d_Gr_suits_17 (by decide) rfl h.1 ?_
    replace h := h.2
    refine r_icmp_lt ok 31 d_Gr_suits_18 (by decide) h.1 h.2.1 (fun c => ?_) (fun c => ?_)
    · replace h := h.2.2.1 c
      refine r_iconst ok 0 d_Gr_suits_31 rfl ?_
      exact hQ _ _ _ _ _ (ok_code ok) d_Gr_suits_32 (by decide) h
    · replace h := h.2.2.2 c
      refine r_iload_n ok 0 d_Gr_suits_21 rfl rfl ?_
      refine r_aload_n ok 1 d_Gr_suits_22 rfl rfl ?_
      refine g_Gr_high ok d_Gr_suits_23 ?_
      refine r_iload_n ok 2 d_Gr_suits_26 rfl rfl ?_
      refine r_iald ok 47 d_Gr_suits_27 (by decide) rfl h.1 ?_
      replace h := h.2
      refine r_icmp_le ok 33 d_Gr_suits_28 (by decide) h.1 h.2.1 (fun c => ?_) (fun c => ?_)
      · replace h := h.2.2.1 c
        exact r_sub [1, 2, 3] rfl h
      · replace h := h.2.2.2 c
        refine r_iconst ok 0 d_Gr_suits_31 rfl ?_
        exact hQ _ _ _ _ _ (ok_code ok) d_Gr_suits_32 (by decide) h
theorem L_Gr_suits (l : Launch) (G : GE) (A : Nat → Prop) (hD : ∀ σ, va_D A (GW G σ)) {x1 x2 : Int} {s : SS} {Q : Int → SS → Prop} (h : Sp_Gr_suits x1 x2 s Q) : Met l y_Gr_suits (Cond.code y_Gr_suits prog_3_method_14_code 4 (some .boolean) :: lw_ok) ({ frames := 0, cells := 0, slots := 0, locals := 0 } : Room) (va_Pc [.ref (G.1 9), vI x1, vI x2] (gB G s)) (va_Qi (fun (r : Int32) (s2 : SS) => ∃ x : Int, r = iI x ∧ Q x s2) (fun s2 t => gB G s2 t) A) 0 0 A := by
  refine met_z hD (by decide) ⟨rfl, rfl⟩ (Nat.le_of_ble_eq_true rfl) (lv := [(0, .ref (G.1 9)), (1, vI x1), (2, vI x2)]) rfl (fun F h1 h2 h3 hm ok hQ => ?_)
  subst h1 h2 h3
  have hDF := hD
  exact K_Gr_suits_e hDF hm ok hQ (h _ (fun _ _ _ hb => K_Gr_suits_33 hDF hm ok hQ hb))
theorem d_LS_fit_0 : decode prog_1_method_30_code 0 = .ok (.aload_n 0, 1) := by decide +kernel
theorem d_LS_fit_1 : decode prog_1_method_30_code 1 = .ok (.getfield 70, 3) := by decide +kernel
theorem d_LS_fit_4 : decode prog_1_method_30_code 4 = .ok (.iload_n 2, 1) := by decide +kernel
theorem d_LS_fit_5 : decode prog_1_method_30_code 5 = .ok (.invokevirtual 312, 3) := by decide +kernel
theorem d_LS_fit_8 : decode prog_1_method_30_code 8 = .ok (.istore_n 3, 1) := by decide +kernel
theorem d_LS_fit_9 : decode prog_1_method_30_code 9 = .ok (.aload_n 0, 1) := by decide +kernel
theorem d_LS_fit_10 : decode prog_1_method_30_code 10 = .ok (.iload_n 1, 1) := by decide +kernel
theorem d_LS_fit_11 : decode prog_1_method_30_code 11 = .ok (.invokevirtual 327, 3) := by decide +kernel
theorem d_LS_fit_14 : decode prog_1_method_30_code 14 = .ok (.ifCond .eq 7, 3) := by decide +kernel
theorem d_LS_fit_17 : decode prog_1_method_30_code 17 = .ok (.iload_n 3, 1) := by decide +kernel
theorem d_LS_fit_18 : decode prog_1_method_30_code 18 = .ok (.ifCond .ge 5, 3) := by decide +kernel
theorem d_LS_fit_21 : decode prog_1_method_30_code 21 = .ok (.iconst (-1), 1) := by decide +kernel
theorem d_LS_fit_22 : decode prog_1_method_30_code 22 = .ok (.ireturn, 1) := by decide +kernel
theorem d_LS_fit_23 : decode prog_1_method_30_code 23 = .ok (.aload_n 0, 1) := by decide +kernel
theorem d_LS_fit_24 : decode prog_1_method_30_code 24 = .ok (.getfield 70, 3) := by decide +kernel
theorem d_LS_fit_27 : decode prog_1_method_30_code 27 = .ok (.iload_n 1, 1) := by decide +kernel
theorem d_LS_fit_28 : decode prog_1_method_30_code 28 = .ok (.iload_n 3, 1) := by decide +kernel
theorem d_LS_fit_29 : decode prog_1_method_30_code 29 = .ok (.invokevirtual 330, 3) := by decide +kernel
theorem d_LS_fit_32 : decode prog_1_method_30_code 32 = .ok (.invokestatic 160, 3) := by decide +kernel
theorem d_LS_fit_35 : decode prog_1_method_30_code 35 = .ok (.ireturn, 1) := by decide +kernel
set_option maxHeartbeats 4000000 in
set_option maxRecDepth 100000 in
theorem K_LS_fit_e {F : FT} (hD : ∀ σ, va_D F.2.2.1 (GW F.2.1 σ)) (hm : F.2.2.2.2.2.2.2.2.2.2.2.2.2.2.1 = 4) (ok : OkF F prog_1_method_30_code "LastSeen" ({ frames := 2, cells := 0, slots := 0, locals := 41 } : Room)) {Q : Int → SS → Prop} (hQ : RetI F Q) {x1 x2 : Int} {s : SS} (h : Sp_LS_fit x1 x2 s Q) : AtS F 0 [(0, .ref (F.2.1.1 0)), (1, vI x1), (2, vI x2)] [] s := by
  unfold Sp_LS_fit at h
  refine r_aload_n ok 0 d_LS_fit_0 rfl rfl ?_
  refine g_LS_graves ok d_LS_fit_1 ?_
  refine r_iload_n ok 2 d_LS_fit_4 rfl rfl ?_
  refine r_callVi (As := [vI x2]) (rest := []) ok 9 rfl rfl rfl wl_LS_312 wi_y_Gr_lostIndex ws_y_Gr_lostIndex wn_Gr wc_y_Gr_lostIndex (by decide) (by decide) hh_Gr_lostIndex (Nat.le_of_ble_eq_true rfl) rfl d_LS_fit_5 (L_Gr_lostIndex F.1 F.2.1 F.2.2.1 hD h) (fun r2 s1 h => ?_)
  refine r_istore_n ok [(3, vI r2), (0, .ref (F.2.1.1 0)), (1, vI x1), (2, vI x2)] d_LS_fit_8 rfl hm (by decide) rfl ?_
  refine r_aload_n ok 1 d_LS_fit_9 rfl rfl ?_
  refine r_iload_n ok 2 d_LS_fit_10 rfl rfl ?_
  refine r_callVi (As := [vI x1]) (rest := []) ok 0 rfl rfl rfl wl_LS_327 wi_y_LS_isSet ws_y_LS_isSet wn_LS wc_y_LS_isSet (by decide) (by decide) hh_LS_isSet (Nat.le_of_ble_eq_true rfl) rfl d_LS_fit_11 (L_LS_isSet F.1 F.2.1 F.2.2.1 hD h) (fun r4 s3 h => ?_)
  refine r_if_eq ok 21 d_LS_fit_14 (by decide) h.1 (fun c => ?_) (fun c => ?_)
  · replace h := h.2.1 c
    refine r_iconst ok (-1) d_LS_fit_21 rfl ?_
    exact hQ _ _ _ _ _ (ok_code ok) d_LS_fit_22 h
  · replace h := h.2.2 c
    refine r_iload_n ok 0 d_LS_fit_17 rfl rfl ?_
    refine r_if_ge ok 23 d_LS_fit_18 (by decide) h.1 (fun c => ?_) (fun c => ?_)
    · replace h := h.2.1 c
      refine r_aload_n ok 1 d_LS_fit_23 rfl rfl ?_
      refine g_LS_graves ok d_LS_fit_24 ?_
      refine r_iload_n ok 2 d_LS_fit_27 rfl rfl ?_
      refine r_iload_n ok 0 d_LS_fit_28 rfl rfl ?_
      refine r_callVi (As := [vI x1, vI r2]) (rest := []) ok 9 rfl rfl rfl wl_LS_330 wi_y_Gr_suits ws_y_Gr_suits wn_Gr wc_y_Gr_suits (by decide) (by decide) hh_Gr_suits (Nat.le_of_ble_eq_true rfl) rfl d_LS_fit_29 (L_Gr_suits F.1 F.2.1 F.2.2.1 hD h) (fun r6 s5 h => ?_)
      refine r_callSi (As := [vI r6]) (rest := []) ok wl_LS_160 wt_y_LS_bit wn_LS wc_y_LS_bit (by decide) (by decide) hh_LS_bit (Nat.le_of_ble_eq_true rfl) rfl d_LS_fit_32 (L_LS_bit F.1 F.2.1 F.2.2.1 hD h) (fun r8 s7 h => ?_)
      exact hQ _ _ _ _ _ (ok_code ok) d_LS_fit_35 h
    · replace h := h.2.2 c
      refine r_iconst ok (-1) d_LS_fit_21 rfl ?_
      exact hQ _ _ _ _ _ (ok_code ok) d_LS_fit_22 h
theorem L_LS_fit (l : Launch) (G : GE) (A : Nat → Prop) (hD : ∀ σ, va_D A (GW G σ)) {x1 x2 : Int} {s : SS} {Q : Int → SS → Prop} (h : Sp_LS_fit x1 x2 s Q) : Met l y_LS_fit (Cond.code y_LS_fit prog_1_method_30_code 4 (some .int) :: lw_ok) ({ frames := 2, cells := 0, slots := 0, locals := 41 } : Room) (va_Pc [.ref (G.1 0), vI x1, vI x2] (gB G s)) (va_Qi (fun (r : Int32) (s2 : SS) => ∃ x : Int, r = iI x ∧ Q x s2) (fun s2 t => gB G s2 t) A) 0 0 A := by
  refine met_i hD (by decide) ⟨rfl, rfl⟩ (Nat.le_of_ble_eq_true rfl) (lv := [(0, .ref (G.1 0)), (1, vI x1), (2, vI x2)]) rfl (fun F h1 h2 h3 hm ok hQ => ?_)
  subst h1 h2 h3
  have hDF := hD
  exact K_LS_fit_e hDF hm ok hQ h
theorem d_Gr_areSets_0 : decode prog_3_method_7_code 0 = .ok (.iload_n 1, 1) := by decide +kernel
theorem d_Gr_areSets_1 : decode prog_3_method_7_code 1 = .ok (.ifCond .lt 16, 3) := by decide +kernel
theorem d_Gr_areSets_4 : decode prog_3_method_7_code 4 = .ok (.iload_n 1, 1) := by decide +kernel
theorem d_Gr_areSets_5 : decode prog_3_method_7_code 5 = .ok (.aload_n 0, 1) := by decide +kernel
theorem d_Gr_areSets_6 : decode prog_3_method_7_code 6 = .ok (.getfield 56, 3) := by decide +kernel
theorem d_Gr_areSets_9 : decode prog_3_method_7_code 9 = .ok (.ishr, 1) := by decide +kernel
theorem d_Gr_areSets_10 : decode prog_3_method_7_code 10 = .ok (.ifCond .ne 7, 3) := by decide +kernel
theorem d_Gr_areSets_13 : decode prog_3_method_7_code 13 = .ok (.iconst 1, 1) := by decide +kernel
theorem d_Gr_areSets_14 : decode prog_3_method_7_code 14 = .ok (.goto 4, 3) := by decide +kernel
theorem d_Gr_areSets_17 : decode prog_3_method_7_code 17 = .ok (.iconst 0, 1) := by decide +kernel
theorem d_Gr_areSets_18 : decode prog_3_method_7_code 18 = .ok (.ireturn, 1) := by decide +kernel
set_option maxHeartbeats 4000000 in
set_option maxRecDepth 100000 in
theorem K_Gr_areSets_e {F : FT} (hD : ∀ σ, va_D F.2.2.1 (GW F.2.1 σ)) (hm : F.2.2.2.2.2.2.2.2.2.2.2.2.2.2.1 = 2) (ok : OkF F prog_3_method_7_code "LastSeen$Graves" ({ frames := 0, cells := 0, slots := 0, locals := 0 } : Room)) {Q : Int → SS → Prop} (hQ : RetZ F Q) {x1 : Int} {s : SS} (h : Sp_Gr_areSets x1 s Q) : AtS F 0 [(0, .ref (F.2.1.1 9)), (1, vI x1)] [] s := by
  unfold Sp_Gr_areSets at h
  refine r_iload_n ok 1 d_Gr_areSets_0 rfl rfl ?_
  refine r_if_lt ok 17 d_Gr_areSets_1 (by decide) h.1 (fun c => ?_) (fun c => ?_)
  · replace h := h.2.1 c
    refine r_iconst ok 0 d_Gr_areSets_17 rfl ?_
    exact hQ _ _ _ _ _ (ok_code ok) d_Gr_areSets_18 (by decide) h
  · replace h := h.2.2 c
    refine r_iload_n ok 1 d_Gr_areSets_4 rfl rfl ?_
    refine r_aload_n ok 0 d_Gr_areSets_5 rfl rfl ?_
    refine g_Gr_setCount ok d_Gr_areSets_6 ?_
    refine r_ishr ok d_Gr_areSets_9 ?_
    refine r_if_ne ok 17 d_Gr_areSets_10 (by decide) h.1 (fun c => ?_) (fun c => ?_)
    · replace h := h.2.1 c
      refine r_iconst ok 0 d_Gr_areSets_17 rfl ?_
      exact hQ _ _ _ _ _ (ok_code ok) d_Gr_areSets_18 (by decide) h
    · replace h := h.2.2 c
      refine r_iconst ok 1 d_Gr_areSets_13 rfl ?_
      refine r_goto ok 18 d_Gr_areSets_14 (by decide) ?_
      exact hQ _ _ _ _ _ (ok_code ok) d_Gr_areSets_18 (by decide) h
theorem L_Gr_areSets (l : Launch) (G : GE) (A : Nat → Prop) (hD : ∀ σ, va_D A (GW G σ)) {x1 : Int} {s : SS} {Q : Int → SS → Prop} (h : Sp_Gr_areSets x1 s Q) : Met l y_Gr_areSets (Cond.code y_Gr_areSets prog_3_method_7_code 2 (some .boolean) :: lw_ok) ({ frames := 0, cells := 0, slots := 0, locals := 0 } : Room) (va_Pc [.ref (G.1 9), vI x1] (gB G s)) (va_Qi (fun (r : Int32) (s2 : SS) => ∃ x : Int, r = iI x ∧ Q x s2) (fun s2 t => gB G s2 t) A) 0 0 A := by
  refine met_z hD (by decide) ⟨rfl, rfl⟩ (Nat.le_of_ble_eq_true rfl) (lv := [(0, .ref (G.1 9)), (1, vI x1)]) rfl (fun F h1 h2 h3 hm ok hQ => ?_)
  subst h1 h2 h3
  have hDF := hD
  exact K_Gr_areSets_e hDF hm ok hQ h
theorem d_Gr_firstOneWith_0 : decode prog_3_method_16_code 0 = .ok (.iconst 0, 1) := by decide +kernel
theorem d_Gr_firstOneWith_1 : decode prog_3_method_16_code 1 = .ok (.istore_n 2, 1) := by decide +kernel
theorem d_Gr_firstOneWith_2 : decode prog_3_method_16_code 2 = .ok (.iload_n 2, 1) := by decide +kernel
theorem d_Gr_firstOneWith_3 : decode prog_3_method_16_code 3 = .ok (.iload_n 1, 1) := by decide +kernel
theorem d_Gr_firstOneWith_4 : decode prog_3_method_16_code 4 = .ok (.if_icmp .ge 40, 3) := by decide +kernel
theorem d_Gr_firstOneWith_7 : decode prog_3_method_16_code 7 = .ok (.aload_n 0, 1) := by decide +kernel
theorem d_Gr_firstOneWith_8 : decode prog_3_method_16_code 8 = .ok (.getfield 52, 3) := by decide +kernel
theorem d_Gr_firstOneWith_11 : decode prog_3_method_16_code 11 = .ok (.aload_n 0, 1) := by decide +kernel
theorem d_Gr_firstOneWith_12 : decode prog_3_method_16_code 12 = .ok (.getfield 31, 3) := by decide +kernel
theorem d_Gr_firstOneWith_15 : decode prog_3_method_16_code 15 = .ok (.iload_n 2, 1) := by decide +kernel
theorem d_Gr_firstOneWith_16 : decode prog_3_method_16_code 16 = .ok (.iaload, 1) := by decide +kernel
theorem d_Gr_firstOneWith_17 : decode prog_3_method_16_code 17 = .ok (.invokevirtual 77, 3) := by decide +kernel
theorem d_Gr_firstOneWith_20 : decode prog_3_method_16_code 20 = .ok (.aload_n 0, 1) := by decide +kernel
theorem d_Gr_firstOneWith_21 : decode prog_3_method_16_code 21 = .ok (.getfield 52, 3) := by decide +kernel
theorem d_Gr_firstOneWith_24 : decode prog_3_method_16_code 24 = .ok (.aload_n 0, 1) := by decide +kernel
theorem d_Gr_firstOneWith_25 : decode prog_3_method_16_code 25 = .ok (.getfield 31, 3) := by decide +kernel
theorem d_Gr_firstOneWith_28 : decode prog_3_method_16_code 28 = .ok (.iload_n 1, 1) := by decide +kernel
theorem d_Gr_firstOneWith_29 : decode prog_3_method_16_code 29 = .ok (.iaload, 1) := by decide +kernel
theorem d_Gr_firstOneWith_30 : decode prog_3_method_16_code 30 = .ok (.invokevirtual 77, 3) := by decide +kernel
theorem d_Gr_firstOneWith_33 : decode prog_3_method_16_code 33 = .ok (.if_icmp .ne 5, 3) := by decide +kernel
theorem d_Gr_firstOneWith_36 : decode prog_3_method_16_code 36 = .ok (.iload_n 2, 1) := by decide +kernel
theorem d_Gr_firstOneWith_37 : decode prog_3_method_16_code 37 = .ok (.ireturn, 1) := by decide +kernel
theorem d_Gr_firstOneWith_38 : decode prog_3_method_16_code 38 = .ok (.iinc 2 1, 3) := by decide +kernel
theorem d_Gr_firstOneWith_41 : decode prog_3_method_16_code 41 = .ok (.goto (-39), 3) := by decide +kernel
theorem d_Gr_firstOneWith_44 : decode prog_3_method_16_code 44 = .ok (.iload_n 1, 1) := by decide +kernel
theorem d_Gr_firstOneWith_45 : decode prog_3_method_16_code 45 = .ok (.ireturn, 1) := by decide +kernel
set_option maxHeartbeats 4000000 in
set_option maxRecDepth 100000 in
theorem K_Gr_firstOneWith_2 {F : FT} (hD : ∀ σ, va_D F.2.2.1 (GW F.2.1 σ)) (hm : F.2.2.2.2.2.2.2.2.2.2.2.2.2.2.1 = 3) (ok : OkF F prog_3_method_16_code "LastSeen$Graves" ({ frames := 1, cells := 0, slots := 0, locals := 21 } : Room)) {Q : Int → SS → Prop} (hQ : RetI F Q) {x1 x2 : Int} {s : SS} (h : B_Gr_firstOneWith_2 Q (fun x1 x2 s => AtS F 2 [(0, .ref (F.2.1.1 9)), (1, vI x1), (2, vI x2)] [] s) x1 x2 s) : AtS F 2 [(0, .ref (F.2.1.1 9)), (1, vI x1), (2, vI x2)] [] s := by
  unfold B_Gr_firstOneWith_2 at h
  refine r_iload_n ok 2 d_Gr_firstOneWith_2 rfl rfl ?_
  refine r_iload_n ok 1 d_Gr_firstOneWith_3 rfl rfl ?_
  refine r_icmp_ge ok 44 d_Gr_firstOneWith_4 (by decide) h.1 h.2.1 (fun c => ?_) (fun c => ?_)
  · replace h := h.2.2.1 c
    refine r_iload_n ok 1 d_Gr_firstOneWith_44 rfl rfl ?_
    exact hQ _ _ _ _ _ (ok_code ok) d_Gr_firstOneWith_45 h
  · replace h := h.2.2.2 c
    refine r_aload_n ok 0 d_Gr_firstOneWith_7 rfl rfl ?_
    refine g_Gr_names ok d_Gr_firstOneWith_8 ?_
    refine r_aload_n ok 0 d_Gr_firstOneWith_11 rfl rfl ?_
    refine g_Gr_lostNames ok d_Gr_firstOneWith_12 ?_
    refine r_iload_n ok 2 d_Gr_firstOneWith_15 rfl rfl ?_
    refine r_iald ok 52 d_Gr_firstOneWith_16 (by decide) rfl h.1 ?_
    replace h := h.2
    refine r_callVi (As := [vI (s.2 52 x2)]) (rest := []) ok 3 rfl rfl rfl wl_Gr_77 wi_y_Na_leastOf ws_y_Na_leastOf wn_Na wc_y_Na_leastOf (by decide) (by decide) hh_Na_leastOf (Nat.le_of_ble_eq_true rfl) rfl d_Gr_firstOneWith_17 (L_Na_leastOf F.1 F.2.1 F.2.2.1 hD h) (fun r2 s1 h => ?_)
    refine r_aload_n ok 0 d_Gr_firstOneWith_20 rfl rfl ?_
    refine g_Gr_names ok d_Gr_firstOneWith_21 ?_
    refine r_aload_n ok 0 d_Gr_firstOneWith_24 rfl rfl ?_
    refine g_Gr_lostNames ok d_Gr_firstOneWith_25 ?_
    refine r_iload_n ok 1 d_Gr_firstOneWith_28 rfl rfl ?_
    refine r_iald ok 52 d_Gr_firstOneWith_29 (by decide) rfl h.1 ?_
    replace h := h.2
    refine r_callVi (As := [vI (s1.2 52 x1)]) (rest := [vI r2]) ok 3 rfl rfl rfl wl_Gr_77 wi_y_Na_leastOf ws_y_Na_leastOf wn_Na wc_y_Na_leastOf (by decide) (by decide) hh_Na_leastOf (Nat.le_of_ble_eq_true rfl) rfl d_Gr_firstOneWith_30 (L_Na_leastOf F.1 F.2.1 F.2.2.1 hD h) (fun r4 s3 h => ?_)
    refine r_icmp_ne ok 38 d_Gr_firstOneWith_33 (by decide) h.1 h.2.1 (fun c => ?_) (fun c => ?_)
    · replace h := h.2.2.1 c
      refine r_iinc ok 2 (x2 + 1) [(2, vI (x2 + 1)), (0, .ref (F.2.1.1 9)), (1, vI x1)] d_Gr_firstOneWith_38 rfl rfl hm (by decide) rfl ?_
      refine r_goto ok 2 d_Gr_firstOneWith_41 (by decide) ?_
      exact r_sub [1, 2, 0] rfl h
    · replace h := h.2.2.2 c
      refine r_iload_n ok 2 d_Gr_firstOneWith_36 rfl rfl ?_
      exact hQ _ _ _ _ _ (ok_code ok) d_Gr_firstOneWith_37 h
set_option maxHeartbeats 4000000 in
set_option maxRecDepth 100000 in
theorem K_Gr_firstOneWith_e {F : FT} (hD : ∀ σ, va_D F.2.2.1 (GW F.2.1 σ)) (hm : F.2.2.2.2.2.2.2.2.2.2.2.2.2.2.1 = 3) (ok : OkF F prog_3_method_16_code "LastSeen$Graves" ({ frames := 1, cells := 0, slots := 0, locals := 21 } : Room)) {Q : Int → SS → Prop} (hQ : RetI F Q) {x1 : Int} {s : SS} (h : B_Gr_firstOneWith_e Q (fun x1 x2 s => AtS F 2 [(0, .ref (F.2.1.1 9)), (1, vI x1), (2, vI x2)] [] s) x1 s) : AtS F 0 [(0, .ref (F.2.1.1 9)), (1, vI x1)] [] s := by
  unfold B_Gr_firstOneWith_e at h
  refine r_iconst ok 0 d_Gr_firstOneWith_0 rfl ?_
  refine r_istore_n ok [(2, vI 0), (0, .ref (F.2.1.1 9)), (1, vI x1)] d_Gr_firstOneWith_1 rfl hm (by decide) rfl ?_
  exact r_sub [1, 2, 0] rfl h
theorem L_Gr_firstOneWith (l : Launch) (G : GE) (A : Nat → Prop) (hD : ∀ σ, va_D A (GW G σ)) {x1 : Int} {s : SS} {Q : Int → SS → Prop} (h : Sp_Gr_firstOneWith x1 s Q) : Met l y_Gr_firstOneWith (Cond.code y_Gr_firstOneWith prog_3_method_16_code 3 (some .int) :: lw_ok) ({ frames := 1, cells := 0, slots := 0, locals := 21 } : Room) (va_Pc [.ref (G.1 9), vI x1] (gB G s)) (va_Qi (fun (r : Int32) (s2 : SS) => ∃ x : Int, r = iI x ∧ Q x s2) (fun s2 t => gB G s2 t) A) 0 0 A := by
  refine met_i hD (by decide) ⟨rfl, rfl⟩ (Nat.le_of_ble_eq_true rfl) (lv := [(0, .ref (G.1 9)), (1, vI x1)]) rfl (fun F h1 h2 h3 hm ok hQ => ?_)
  subst h1 h2 h3
  have hDF := hD
  exact K_Gr_firstOneWith_e hDF hm ok hQ (h _ (fun _ _ _ hb => K_Gr_firstOneWith_2 hDF hm ok hQ hb))
theorem d_Gr_isBarred_0 : decode prog_3_method_18_code 0 = .ok (.iconst 0, 1) := by decide +kernel
theorem d_Gr_isBarred_1 : decode prog_3_method_18_code 1 = .ok (.istore_n 2, 1) := by decide +kernel
theorem d_Gr_isBarred_2 : decode prog_3_method_18_code 2 = .ok (.iload_n 2, 1) := by decide +kernel
theorem d_Gr_isBarred_3 : decode prog_3_method_18_code 3 = .ok (.aload_n 0, 1) := by decide +kernel
theorem d_Gr_isBarred_4 : decode prog_3_method_18_code 4 = .ok (.getfield 56, 3) := by decide +kernel
theorem d_Gr_isBarred_7 : decode prog_3_method_18_code 7 = .ok (.if_icmp .ge 40, 3) := by decide +kernel
theorem d_Gr_isBarred_10 : decode prog_3_method_18_code 10 = .ok (.aload_n 0, 1) := by decide +kernel
theorem d_Gr_isBarred_11 : decode prog_3_method_18_code 11 = .ok (.getfield 25, 3) := by decide +kernel
theorem d_Gr_isBarred_14 : decode prog_3_method_18_code 14 = .ok (.iload_n 2, 1) := by decide +kernel
theorem d_Gr_isBarred_15 : decode prog_3_method_18_code 15 = .ok (.iaload, 1) := by decide +kernel
theorem d_Gr_isBarred_16 : decode prog_3_method_18_code 16 = .ok (.ifCond .lt 25, 3) := by decide +kernel
theorem d_Gr_isBarred_19 : decode prog_3_method_18_code 19 = .ok (.aload_n 0, 1) := by decide +kernel
theorem d_Gr_isBarred_20 : decode prog_3_method_18_code 20 = .ok (.getfield 43, 3) := by decide +kernel
theorem d_Gr_isBarred_23 : decode prog_3_method_18_code 23 = .ok (.aload_n 0, 1) := by decide +kernel
theorem d_Gr_isBarred_24 : decode prog_3_method_18_code 24 = .ok (.getfield 25, 3) := by decide +kernel
theorem d_Gr_isBarred_27 : decode prog_3_method_18_code 27 = .ok (.iload_n 2, 1) := by decide +kernel
theorem d_Gr_isBarred_28 : decode prog_3_method_18_code 28 = .ok (.iaload, 1) := by decide +kernel
theorem d_Gr_isBarred_29 : decode prog_3_method_18_code 29 = .ok (.iaload, 1) := by decide +kernel
theorem d_Gr_isBarred_30 : decode prog_3_method_18_code 30 = .ok (.aload_n 0, 1) := by decide +kernel
theorem d_Gr_isBarred_31 : decode prog_3_method_18_code 31 = .ok (.getfield 43, 3) := by decide +kernel
theorem d_Gr_isBarred_34 : decode prog_3_method_18_code 34 = .ok (.iload_n 1, 1) := by decide +kernel
theorem d_Gr_isBarred_35 : decode prog_3_method_18_code 35 = .ok (.iaload, 1) := by decide +kernel
theorem d_Gr_isBarred_36 : decode prog_3_method_18_code 36 = .ok (.if_icmp .ne 5, 3) := by decide +kernel
theorem d_Gr_isBarred_39 : decode prog_3_method_18_code 39 = .ok (.iconst 1, 1) := by decide +kernel
theorem d_Gr_isBarred_40 : decode prog_3_method_18_code 40 = .ok (.ireturn, 1) := by decide +kernel
theorem d_Gr_isBarred_41 : decode prog_3_method_18_code 41 = .ok (.iinc 2 1, 3) := by decide +kernel
theorem d_Gr_isBarred_44 : decode prog_3_method_18_code 44 = .ok (.goto (-42), 3) := by decide +kernel
theorem d_Gr_isBarred_47 : decode prog_3_method_18_code 47 = .ok (.iconst 0, 1) := by decide +kernel
theorem d_Gr_isBarred_48 : decode prog_3_method_18_code 48 = .ok (.ireturn, 1) := by decide +kernel
set_option maxHeartbeats 4000000 in
set_option maxRecDepth 100000 in
theorem K_Gr_isBarred_2 {F : FT} (hD : ∀ σ, va_D F.2.2.1 (GW F.2.1 σ)) (hm : F.2.2.2.2.2.2.2.2.2.2.2.2.2.2.1 = 3) (ok : OkF F prog_3_method_18_code "LastSeen$Graves" ({ frames := 0, cells := 0, slots := 0, locals := 0 } : Room)) {Q : Int → SS → Prop} (hQ : RetZ F Q) {x1 x2 : Int} {s : SS} (h : B_Gr_isBarred_2 Q (fun x1 x2 s => AtS F 2 [(0, .ref (F.2.1.1 9)), (1, vI x1), (2, vI x2)] [] s) x1 x2 s) : AtS F 2 [(0, .ref (F.2.1.1 9)), (1, vI x1), (2, vI x2)] [] s := by
  unfold B_Gr_isBarred_2 at h
  refine r_iload_n ok 2 d_Gr_isBarred_2 rfl rfl ?_
  refine r_aload_n ok 0 d_Gr_isBarred_3 rfl rfl ?_
  refine g_Gr_setCount ok d_Gr_isBarred_4 ?_
  refine r_icmp_ge ok 47 d_Gr_isBarred_7 (by decide) h.1 h.2.1 (fun c => ?_) (fun c => ?_)
  · replace h := h.2.2.1 c
    refine r_iconst ok 0 d_Gr_isBarred_47 rfl ?_
    exact hQ _ _ _ _ _ (ok_code ok) d_Gr_isBarred_48 (by decide) h
  · replace h := h.2.2.2 c
    refine r_aload_n ok 0 d_Gr_isBarred_10 rfl rfl ?_
    refine g_Gr_given ok d_Gr_isBarred_11 ?_
    refine r_iload_n ok 2 d_Gr_isBarred_14 rfl rfl ?_
    refine r_iald ok 50 d_Gr_isBarred_15 (by decide) rfl h.1 ?_
    replace h := h.2
    refine r_if_lt ok 41 d_Gr_isBarred_16 (by decide) h.1 (fun c => ?_) (fun c => ?_)
    · replace h := h.2.1 c
      refine r_iinc ok 2 (x2 + 1) [(2, vI (x2 + 1)), (0, .ref (F.2.1.1 9)), (1, vI x1)] d_Gr_isBarred_41 rfl rfl hm (by decide) rfl ?_
      refine r_goto ok 2 d_Gr_isBarred_44 (by decide) ?_
      exact r_sub [1, 2, 0] rfl h
    · replace h := h.2.2 c
      refine r_aload_n ok 0 d_Gr_isBarred_19 rfl rfl ?_
      refine g_Gr_same ok d_Gr_isBarred_20 ?_
      refine r_aload_n ok 0 d_Gr_isBarred_23 rfl rfl ?_
      refine g_Gr_given ok d_Gr_isBarred_24 ?_
      refine r_iload_n ok 2 d_Gr_isBarred_27 rfl rfl ?_
      refine r_iald ok 50 d_Gr_isBarred_28 (by decide) rfl h.1 ?_
      replace h := h.2
      refine r_iald ok 56 d_Gr_isBarred_29 (by decide) rfl h.1 ?_
      replace h := h.2
      refine r_aload_n ok 0 d_Gr_isBarred_30 rfl rfl ?_
      refine g_Gr_same ok d_Gr_isBarred_31 ?_
      refine r_iload_n ok 1 d_Gr_isBarred_34 rfl rfl ?_
      refine r_iald ok 56 d_Gr_isBarred_35 (by decide) rfl h.1 ?_
      replace h := h.2
      refine r_icmp_ne ok 41 d_Gr_isBarred_36 (by decide) h.1 h.2.1 (fun c => ?_) (fun c => ?_)
      · replace h := h.2.2.1 c
        refine r_iinc ok 2 (x2 + 1) [(2, vI (x2 + 1)), (0, .ref (F.2.1.1 9)), (1, vI x1)] d_Gr_isBarred_41 rfl rfl hm (by decide) rfl ?_
        refine r_goto ok 2 d_Gr_isBarred_44 (by decide) ?_
        exact r_sub [1, 2, 0] rfl h
      · replace h := h.2.2.2 c
        refine r_iconst ok 1 d_Gr_isBarred_39 rfl ?_
        exact hQ _ _ _ _ _ (ok_code ok) d_Gr_isBarred_40 (by decide) h
set_option maxHeartbeats 4000000 in
set_option maxRecDepth 100000 in
theorem K_Gr_isBarred_e {F : FT} (hD : ∀ σ, va_D F.2.2.1 (GW F.2.1 σ)) (hm : F.2.2.2.2.2.2.2.2.2.2.2.2.2.2.1 = 3) (ok : OkF F prog_3_method_18_code "LastSeen$Graves" ({ frames := 0, cells := 0, slots := 0, locals := 0 } : Room)) {Q : Int → SS → Prop} (hQ : RetZ F Q) {x1 : Int} {s : SS} (h : B_Gr_isBarred_e Q (fun x1 x2 s => AtS F 2 [(0, .ref (F.2.1.1 9)), (1, vI x1), (2, vI x2)] [] s) x1 s) : AtS F 0 [(0, .ref (F.2.1.1 9)), (1, vI x1)] [] s := by
  unfold B_Gr_isBarred_e at h
  refine r_iconst ok 0 d_Gr_isBarred_0 rfl ?_
  refine r_istore_n ok [(2, vI 0), (0, .ref (F.2.1.1 9)), (1, vI x1)] d_Gr_isBarred_1 rfl hm (by decide) rfl ?_
  exact r_sub [1, 2, 0] rfl h
theorem L_Gr_isBarred (l : Launch) (G : GE) (A : Nat → Prop) (hD : ∀ σ, va_D A (GW G σ)) {x1 : Int} {s : SS} {Q : Int → SS → Prop} (h : Sp_Gr_isBarred x1 s Q) : Met l y_Gr_isBarred (Cond.code y_Gr_isBarred prog_3_method_18_code 3 (some .boolean) :: lw_ok) ({ frames := 0, cells := 0, slots := 0, locals := 0 } : Room) (va_Pc [.ref (G.1 9), vI x1] (gB G s)) (va_Qi (fun (r : Int32) (s2 : SS) => ∃ x : Int, r = iI x ∧ Q x s2) (fun s2 t => gB G s2 t) A) 0 0 A := by
  refine met_z hD (by decide) ⟨rfl, rfl⟩ (Nat.le_of_ble_eq_true rfl) (lv := [(0, .ref (G.1 9)), (1, vI x1)]) rfl (fun F h1 h2 h3 hm ok hQ => ?_)
  subst h1 h2 h3
  have hDF := hD
  exact K_Gr_isBarred_e hDF hm ok hQ (h _ (fun _ _ _ hb => K_Gr_isBarred_2 hDF hm ok hQ hb))
theorem d_Gr_canGet_0 : decode prog_3_method_17_code 0 = .ok (.aload_n 0, 1) := by decide +kernel
theorem d_Gr_canGet_1 : decode prog_3_method_17_code 1 = .ok (.getfield 25, 3) := by decide +kernel
theorem d_Gr_canGet_4 : decode prog_3_method_17_code 4 = .ok (.iload_n 1, 1) := by decide +kernel
theorem d_Gr_canGet_5 : decode prog_3_method_17_code 5 = .ok (.iaload, 1) := by decide +kernel
theorem d_Gr_canGet_6 : decode prog_3_method_17_code 6 = .ok (.ifCond .lt 19, 3) := by decide +kernel
theorem d_Gr_canGet_9 : decode prog_3_method_17_code 9 = .ok (.aload_n 0, 1) := by decide +kernel
theorem d_Gr_canGet_10 : decode prog_3_method_17_code 10 = .ok (.getfield 25, 3) := by decide +kernel
theorem d_Gr_canGet_13 : decode prog_3_method_17_code 13 = .ok (.iload_n 1, 1) := by decide +kernel
theorem d_Gr_canGet_14 : decode prog_3_method_17_code 14 = .ok (.iaload, 1) := by decide +kernel
theorem d_Gr_canGet_15 : decode prog_3_method_17_code 15 = .ok (.iload_n 2, 1) := by decide +kernel
theorem d_Gr_canGet_16 : decode prog_3_method_17_code 16 = .ok (.if_icmp .ne 7, 3) := by decide +kernel
theorem d_Gr_canGet_19 : decode prog_3_method_17_code 19 = .ok (.iconst 1, 1) := by decide +kernel
theorem d_Gr_canGet_20 : decode prog_3_method_17_code 20 = .ok (.goto 4, 3) := by decide +kernel
theorem d_Gr_canGet_23 : decode prog_3_method_17_code 23 = .ok (.iconst 0, 1) := by decide +kernel
theorem d_Gr_canGet_24 : decode prog_3_method_17_code 24 = .ok (.ireturn, 1) := by decide +kernel
theorem d_Gr_canGet_25 : decode prog_3_method_17_code 25 = .ok (.aload_n 0, 1) := by decide +kernel
theorem d_Gr_canGet_26 : decode prog_3_method_17_code 26 = .ok (.iload_n 1, 1) := by decide +kernel
theorem d_Gr_canGet_27 : decode prog_3_method_17_code 27 = .ok (.iload_n 2, 1) := by decide +kernel
theorem d_Gr_canGet_28 : decode prog_3_method_17_code 28 = .ok (.invokevirtual 80, 3) := by decide +kernel
theorem d_Gr_canGet_31 : decode prog_3_method_17_code 31 = .ok (.ifCond .eq 15, 3) := by decide +kernel
theorem d_Gr_canGet_34 : decode prog_3_method_17_code 34 = .ok (.aload_n 0, 1) := by decide +kernel
theorem d_Gr_canGet_35 : decode prog_3_method_17_code 35 = .ok (.iload_n 2, 1) := by decide +kernel
theorem d_Gr_canGet_36 : decode prog_3_method_17_code 36 = .ok (.invokevirtual 83, 3) := by decide +kernel
theorem d_Gr_canGet_39 : decode prog_3_method_17_code 39 = .ok (.ifCond .ne 7, 3) := by decide +kernel
theorem d_Gr_canGet_42 : decode prog_3_method_17_code 42 = .ok (.iconst 1, 1) := by decide +kernel
theorem d_Gr_canGet_43 : decode prog_3_method_17_code 43 = .ok (.goto 4, 3) := by decide +kernel
theorem d_Gr_canGet_46 : decode prog_3_method_17_code 46 = .ok (.iconst 0, 1) := by decide +kernel
theorem d_Gr_canGet_47 : decode prog_3_method_17_code 47 = .ok (.ireturn, 1) := by decide +kernel
set_option maxHeartbeats 4000000 in
set_option maxRecDepth 100000 in
theorem K_Gr_canGet_e {F : FT} (hD : ∀ σ, va_D F.2.2.1 (GW F.2.1 σ)) (hm : F.2.2.2.2.2.2.2.2.2.2.2.2.2.2.1 = 3) (ok : OkF F prog_3_method_17_code "LastSeen$Graves" ({ frames := 1, cells := 0, slots := 0, locals := 23 } : Room)) {Q : Int → SS → Prop} (hQ : RetZ F Q) {x1 x2 : Int} {s : SS} (h : Sp_Gr_canGet x1 x2 s Q) : AtS F 0 [(0, .ref (F.2.1.1 9)), (1, vI x1), (2, vI x2)] [] s := by
  unfold Sp_Gr_canGet at h
  refine r_aload_n ok 0 d_Gr_canGet_0 rfl rfl ?_
  refine g_Gr_given ok d_Gr_canGet_1 ?_
  refine r_iload_n ok 1 d_Gr_canGet_4 rfl rfl ?_
  refine r_iald ok 50 d_Gr_canGet_5 (by decide) rfl h.1 ?_
  replace h := h.2
  refine r_if_lt ok 25 d_Gr_canGet_6 (by decide) h.1 (fun c => ?_) (fun c => ?_)
  · replace h := h.2.1 c
    refine r_aload_n ok 0 d_Gr_canGet_25 rfl rfl ?_
    refine r_iload_n ok 1 d_Gr_canGet_26 rfl rfl ?_
    refine r_iload_n ok 2 d_Gr_canGet_27 rfl rfl ?_
    refine r_callVi (As := [vI x1, vI x2]) (rest := []) ok 9 rfl rfl rfl wl_Gr_80 wi_y_Gr_suits ws_y_Gr_suits wn_Gr wc_y_Gr_suits (by decide) (by decide) hh_Gr_suits (Nat.le_of_ble_eq_true rfl) rfl d_Gr_canGet_28 (L_Gr_suits F.1 F.2.1 F.2.2.1 hD h) (fun r2 s1 h => ?_)
    refine r_if_eq ok 46 d_Gr_canGet_31 (by decide) h.1 (fun c => ?_) (fun c => ?_)
    · replace h := h.2.1 c
      refine r_iconst ok 0 d_Gr_canGet_46 rfl ?_
      exact hQ _ _ _ _ _ (ok_code ok) d_Gr_canGet_47 (by decide) h
    · replace h := h.2.2 c
      refine r_aload_n ok 0 d_Gr_canGet_34 rfl rfl ?_
      refine r_iload_n ok 2 d_Gr_canGet_35 rfl rfl ?_
      refine r_callVi (As := [vI x2]) (rest := []) ok 9 rfl rfl rfl wl_Gr_83 wi_y_Gr_isBarred ws_y_Gr_isBarred wn_Gr wc_y_Gr_isBarred (by decide) (by decide) hh_Gr_isBarred (Nat.le_of_ble_eq_true rfl) rfl d_Gr_canGet_36 (L_Gr_isBarred F.1 F.2.1 F.2.2.1 hD h) (fun r4 s3 h => ?_)
      refine r_if_ne ok 46 d_Gr_canGet_39 (by decide) h.1 (fun c => ?_) (fun c => ?_)
      · replace h := h.2.1 c
        refine r_iconst ok 0 d_Gr_canGet_46 rfl ?_
        exact hQ _ _ _ _ _ (ok_code ok) d_Gr_canGet_47 (by decide) h
      · replace h := h.2.2 c
        refine r_iconst ok 1 d_Gr_canGet_42 rfl ?_
        refine r_goto ok 47 d_Gr_canGet_43 (by decide) ?_
        exact hQ _ _ _ _ _ (ok_code ok) d_Gr_canGet_47 (by decide) h
  · replace h := h.2.2 c
    refine r_aload_n ok 0 d_Gr_canGet_9 rfl rfl ?_
    refine g_Gr_given ok d_Gr_canGet_10 ?_
    refine r_iload_n ok 1 d_Gr_canGet_13 rfl rfl ?_
    refine r_iald ok 50 d_Gr_canGet_14 (by decide) rfl h.1 ?_
    replace h := h.2
    refine r_iload_n ok 2 d_Gr_canGet_15 rfl rfl ?_
    refine r_icmp_ne ok 23 d_Gr_canGet_16 (by decide) h.1 h.2.1 (fun c => ?_) (fun c => ?_)
    · replace h := h.2.2.1 c
      refine r_iconst ok 0 d_Gr_canGet_23 rfl ?_
      exact hQ _ _ _ _ _ (ok_code ok) d_Gr_canGet_24 (by decide) h
    · replace h := h.2.2.2 c
      refine r_iconst ok 1 d_Gr_canGet_19 rfl ?_
      refine r_goto ok 24 d_Gr_canGet_20 (by decide) ?_
      exact hQ _ _ _ _ _ (ok_code ok) d_Gr_canGet_24 (by decide) h
theorem L_Gr_canGet (l : Launch) (G : GE) (A : Nat → Prop) (hD : ∀ σ, va_D A (GW G σ)) {x1 x2 : Int} {s : SS} {Q : Int → SS → Prop} (h : Sp_Gr_canGet x1 x2 s Q) : Met l y_Gr_canGet (Cond.code y_Gr_canGet prog_3_method_17_code 3 (some .boolean) :: lw_ok) ({ frames := 1, cells := 0, slots := 0, locals := 23 } : Room) (va_Pc [.ref (G.1 9), vI x1, vI x2] (gB G s)) (va_Qi (fun (r : Int32) (s2 : SS) => ∃ x : Int, r = iI x ∧ Q x s2) (fun s2 t => gB G s2 t) A) 0 0 A := by
  refine met_z hD (by decide) ⟨rfl, rfl⟩ (Nat.le_of_ble_eq_true rfl) (lv := [(0, .ref (G.1 9)), (1, vI x1), (2, vI x2)]) rfl (fun F h1 h2 h3 hm ok hQ => ?_)
  subst h1 h2 h3
  have hDF := hD
  exact K_Gr_canGet_e hDF hm ok hQ h
theorem d_Gr_readChoices_0 : decode prog_3_method_15_code 0 = .ok (.aload_n 0, 1) := by decide +kernel
theorem d_Gr_readChoices_1 : decode prog_3_method_15_code 1 = .ok (.getfield 52, 3) := by decide +kernel
theorem d_Gr_readChoices_4 : decode prog_3_method_15_code 4 = .ok (.iload_n 1, 1) := by decide +kernel
theorem d_Gr_readChoices_5 : decode prog_3_method_15_code 5 = .ok (.invokevirtual 63, 3) := by decide +kernel
theorem d_Gr_readChoices_8 : decode prog_3_method_15_code 8 = .ok (.iconst 0, 1) := by decide +kernel
theorem d_Gr_readChoices_9 : decode prog_3_method_15_code 9 = .ok (.istore_n 2, 1) := by decide +kernel
theorem d_Gr_readChoices_10 : decode prog_3_method_15_code 10 = .ok (.iload_n 2, 1) := by decide +kernel
theorem d_Gr_readChoices_11 : decode prog_3_method_15_code 11 = .ok (.aload_n 0, 1) := by decide +kernel
theorem d_Gr_readChoices_12 : decode prog_3_method_15_code 12 = .ok (.getfield 60, 3) := by decide +kernel
theorem d_Gr_readChoices_15 : decode prog_3_method_15_code 15 = .ok (.if_icmp .ge 20, 3) := by decide +kernel
theorem d_Gr_readChoices_18 : decode prog_3_method_15_code 18 = .ok (.aload_n 0, 1) := by decide +kernel
theorem d_Gr_readChoices_19 : decode prog_3_method_15_code 19 = .ok (.getfield 43, 3) := by decide +kernel
theorem d_Gr_readChoices_22 : decode prog_3_method_15_code 22 = .ok (.iload_n 2, 1) := by decide +kernel
theorem d_Gr_readChoices_23 : decode prog_3_method_15_code 23 = .ok (.aload_n 0, 1) := by decide +kernel
theorem d_Gr_readChoices_24 : decode prog_3_method_15_code 24 = .ok (.iload_n 2, 1) := by decide +kernel
theorem d_Gr_readChoices_25 : decode prog_3_method_15_code 25 = .ok (.invokevirtual 69, 3) := by decide +kernel
theorem d_Gr_readChoices_28 : decode prog_3_method_15_code 28 = .ok (.iastore, 1) := by decide +kernel
theorem d_Gr_readChoices_29 : decode prog_3_method_15_code 29 = .ok (.iinc 2 1, 3) := by decide +kernel
theorem d_Gr_readChoices_32 : decode prog_3_method_15_code 32 = .ok (.goto (-22), 3) := by decide +kernel
theorem d_Gr_readChoices_35 : decode prog_3_method_15_code 35 = .ok (.iconst 0, 1) := by decide +kernel
theorem d_Gr_readChoices_36 : decode prog_3_method_15_code 36 = .ok (.istore_n 2, 1) := by decide +kernel
theorem d_Gr_readChoices_37 : decode prog_3_method_15_code 37 = .ok (.iload_n 2, 1) := by decide +kernel
theorem d_Gr_readChoices_38 : decode prog_3_method_15_code 38 = .ok (.aload_n 0, 1) := by decide +kernel
theorem d_Gr_readChoices_39 : decode prog_3_method_15_code 39 = .ok (.getfield 56, 3) := by decide +kernel
theorem d_Gr_readChoices_42 : decode prog_3_method_15_code 42 = .ok (.if_icmp .ge 53, 3) := by decide +kernel
theorem d_Gr_readChoices_45 : decode prog_3_method_15_code 45 = .ok (.aload_n 0, 1) := by decide +kernel
theorem d_Gr_readChoices_46 : decode prog_3_method_15_code 46 = .ok (.getfield 46, 3) := by decide +kernel
theorem d_Gr_readChoices_49 : decode prog_3_method_15_code 49 = .ok (.iload_n 2, 1) := by decide +kernel
theorem d_Gr_readChoices_50 : decode prog_3_method_15_code 50 = .ok (.iconst 0, 1) := by decide +kernel
theorem d_Gr_readChoices_51 : decode prog_3_method_15_code 51 = .ok (.iastore, 1) := by decide +kernel
theorem d_Gr_readChoices_52 : decode prog_3_method_15_code 52 = .ok (.iconst 0, 1) := by decide +kernel
theorem d_Gr_readChoices_53 : decode prog_3_method_15_code 53 = .ok (.istore_n 3, 1) := by decide +kernel
theorem d_Gr_readChoices_54 : decode prog_3_method_15_code 54 = .ok (.iload_n 3, 1) := by decide +kernel
theorem d_Gr_readChoices_55 : decode prog_3_method_15_code 55 = .ok (.aload_n 0, 1) := by decide +kernel
theorem d_Gr_readChoices_56 : decode prog_3_method_15_code 56 = .ok (.getfield 60, 3) := by decide +kernel
theorem d_Gr_readChoices_59 : decode prog_3_method_15_code 59 = .ok (.if_icmp .ge 30, 3) := by decide +kernel
theorem d_Gr_readChoices_62 : decode prog_3_method_15_code 62 = .ok (.aload_n 0, 1) := by decide +kernel
theorem d_Gr_readChoices_63 : decode prog_3_method_15_code 63 = .ok (.iload_n 2, 1) := by decide +kernel
theorem d_Gr_readChoices_64 : decode prog_3_method_15_code 64 = .ok (.iload_n 3, 1) := by decide +kernel
theorem d_Gr_readChoices_65 : decode prog_3_method_15_code 65 = .ok (.invokevirtual 73, 3) := by decide +kernel
theorem d_Gr_readChoices_68 : decode prog_3_method_15_code 68 = .ok (.ifCond .eq 15, 3) := by decide +kernel
theorem d_Gr_readChoices_71 : decode prog_3_method_15_code 71 = .ok (.aload_n 0, 1) := by decide +kernel
theorem d_Gr_readChoices_72 : decode prog_3_method_15_code 72 = .ok (.getfield 46, 3) := by decide +kernel
theorem d_Gr_readChoices_75 : decode prog_3_method_15_code 75 = .ok (.iload_n 2, 1) := by decide +kernel
theorem d_Gr_readChoices_76 : decode prog_3_method_15_code 76 = .ok (.dup2, 1) := by decide +kernel
theorem d_Gr_readChoices_77 : decode prog_3_method_15_code 77 = .ok (.iaload, 1) := by decide +kernel
theorem d_Gr_readChoices_78 : decode prog_3_method_15_code 78 = .ok (.iconst 1, 1) := by decide +kernel
theorem d_Gr_readChoices_79 : decode prog_3_method_15_code 79 = .ok (.iload_n 3, 1) := by decide +kernel
theorem d_Gr_readChoices_80 : decode prog_3_method_15_code 80 = .ok (.ishl, 1) := by decide +kernel
theorem d_Gr_readChoices_81 : decode prog_3_method_15_code 81 = .ok (.ior, 1) := by decide +kernel
theorem d_Gr_readChoices_82 : decode prog_3_method_15_code 82 = .ok (.iastore, 1) := by decide +kernel
theorem d_Gr_readChoices_83 : decode prog_3_method_15_code 83 = .ok (.iinc 3 1, 3) := by decide +kernel
theorem d_Gr_readChoices_86 : decode prog_3_method_15_code 86 = .ok (.goto (-32), 3) := by decide +kernel
theorem d_Gr_readChoices_89 : decode prog_3_method_15_code 89 = .ok (.iinc 2 1, 3) := by decide +kernel
theorem d_Gr_readChoices_92 : decode prog_3_method_15_code 92 = .ok (.goto (-55), 3) := by decide +kernel
theorem d_Gr_readChoices_95 : decode prog_3_method_15_code 95 = .ok (.return_, 1) := by decide +kernel
set_option maxHeartbeats 4000000 in
set_option maxRecDepth 100000 in
theorem K_Gr_readChoices_10 {F : FT} (hD : ∀ σ, va_D F.2.2.1 (GW F.2.1 σ)) (hm : F.2.2.2.2.2.2.2.2.2.2.2.2.2.2.1 = 4) (ok : OkF F prog_3_method_15_code "LastSeen$Graves" ({ frames := 3, cells := 0, slots := 0, locals := 67 } : Room)) {Q : SS → Prop} (hQ : RetV F Q) {x2 : Int} {s : SS} (h : B_Gr_readChoices_10 Q (fun x2 s => AtS F 10 [(0, .ref (F.2.1.1 9)), (2, vI x2)] [] s) (fun x2 s => AtS F 37 [(0, .ref (F.2.1.1 9)), (2, vI x2)] [] s) (fun x2 x3 s => AtS F 54 [(0, .ref (F.2.1.1 9)), (2, vI x2), (3, vI x3)] [] s) x2 s) : AtS F 10 [(0, .ref (F.2.1.1 9)), (2, vI x2)] [] s := by
  unfold B_Gr_readChoices_10 at h
  refine r_iload_n ok 1 d_Gr_readChoices_10 rfl rfl ?_
  refine r_aload_n ok 0 d_Gr_readChoices_11 rfl rfl ?_
  refine g_Gr_lostCount ok d_Gr_readChoices_12 ?_
  refine r_icmp_ge ok 35 d_Gr_readChoices_15 (by decide) h.1 h.2.1 (fun c => ?_) (fun c => ?_)
  · replace h := h.2.2.1 c
    refine r_iconst ok 0 d_Gr_readChoices_35 rfl ?_
    refine r_istore_n ok [(2, vI 0), (0, .ref (F.2.1.1 9))] d_Gr_readChoices_36 rfl hm (by decide) rfl ?_
    exact r_sub [1, 0] rfl h
  · replace h := h.2.2.2 c
    refine r_aload_n ok 0 d_Gr_readChoices_18 rfl rfl ?_
    refine g_Gr_same ok d_Gr_readChoices_19 ?_
    refine r_iload_n ok 1 d_Gr_readChoices_22 rfl rfl ?_
    refine r_aload_n ok 0 d_Gr_readChoices_23 rfl rfl ?_
    refine r_iload_n ok 1 d_Gr_readChoices_24 rfl rfl ?_
    refine r_callVi (As := [vI x2]) (rest := [vI x2, .ref (F.2.1.1 67)]) ok 9 rfl rfl rfl wl_Gr_69 wi_y_Gr_firstOneWith ws_y_Gr_firstOneWith wn_Gr wc_y_Gr_firstOneWith (by decide) (by decide) hh_Gr_firstOneWith (Nat.le_of_ble_eq_true rfl) rfl d_Gr_readChoices_25 (L_Gr_firstOneWith F.1 F.2.1 F.2.2.1 hD h) (fun r3 s2 h => ?_)
    refine r_iast ok 56 d_Gr_readChoices_28 (by decide) rfl h.1 ?_
    replace h := h.2 _ rfl
    generalize sA s2 56 x2 r3 = s4 at h ⊢
    refine r_iinc ok 1 (x2 + 1) [(2, vI (x2 + 1)), (0, .ref (F.2.1.1 9))] d_Gr_readChoices_29 rfl rfl hm (by decide) rfl ?_
    refine r_goto ok 10 d_Gr_readChoices_32 (by decide) ?_
    exact r_sub [1, 0] rfl h
set_option maxHeartbeats 4000000 in
set_option maxRecDepth 100000 in
theorem K_Gr_readChoices_37 {F : FT} (hD : ∀ σ, va_D F.2.2.1 (GW F.2.1 σ)) (hm : F.2.2.2.2.2.2.2.2.2.2.2.2.2.2.1 = 4) (ok : OkF F prog_3_method_15_code "LastSeen$Graves" ({ frames := 3, cells := 0, slots := 0, locals := 67 } : Room)) {Q : SS → Prop} (hQ : RetV F Q) {x2 : Int} {s : SS} (h : B_Gr_readChoices_37 Q (fun x2 s => AtS F 10 [(0, .ref (F.2.1.1 9)), (2, vI x2)] [] s) (fun x2 s => AtS F 37 [(0, .ref (F.2.1.1 9)), (2, vI x2)] [] s) (fun x2 x3 s => AtS F 54 [(0, .ref (F.2.1.1 9)), (2, vI x2), (3, vI x3)] [] s) x2 s) : AtS F 37 [(0, .ref (F.2.1.1 9)), (2, vI x2)] [] s := by
  unfold B_Gr_readChoices_37 at h
  refine r_iload_n ok 1 d_Gr_readChoices_37 rfl rfl ?_
  refine r_aload_n ok 0 d_Gr_readChoices_38 rfl rfl ?_
  refine g_Gr_setCount ok d_Gr_readChoices_39 ?_
  refine r_icmp_ge ok 95 d_Gr_readChoices_42 (by decide) h.1 h.2.1 (fun c => ?_) (fun c => ?_)
  · replace h := h.2.2.1 c
    exact hQ _ _ _ _ (ok_code ok) d_Gr_readChoices_95 h
  · replace h := h.2.2.2 c
    refine r_aload_n ok 0 d_Gr_readChoices_45 rfl rfl ?_
    refine g_Gr_choices ok d_Gr_readChoices_46 ?_
    refine r_iload_n ok 1 d_Gr_readChoices_49 rfl rfl ?_
    refine r_iconst ok 0 d_Gr_readChoices_50 rfl ?_
    refine r_iast ok 57 d_Gr_readChoices_51 (by decide) rfl h.1 ?_
    replace h := h.2 _ rfl
    generalize sA s 57 x2 0 = s5 at h ⊢
    refine r_iconst ok 0 d_Gr_readChoices_52 rfl ?_
    refine r_istore_n ok [(3, vI 0), (0, .ref (F.2.1.1 9)), (2, vI x2)] d_Gr_readChoices_53 rfl hm (by decide) rfl ?_
    exact r_sub [1, 2, 0] rfl h
set_option maxHeartbeats 4000000 in
set_option maxRecDepth 100000 in
theorem K_Gr_readChoices_54 {F : FT} (hD : ∀ σ, va_D F.2.2.1 (GW F.2.1 σ)) (hm : F.2.2.2.2.2.2.2.2.2.2.2.2.2.2.1 = 4) (ok : OkF F prog_3_method_15_code "LastSeen$Graves" ({ frames := 3, cells := 0, slots := 0, locals := 67 } : Room)) {Q : SS → Prop} (hQ : RetV F Q) {x2 x3 : Int} {s : SS} (h : B_Gr_readChoices_54 Q (fun x2 s => AtS F 10 [(0, .ref (F.2.1.1 9)), (2, vI x2)] [] s) (fun x2 s => AtS F 37 [(0, .ref (F.2.1.1 9)), (2, vI x2)] [] s) (fun x2 x3 s => AtS F 54 [(0, .ref (F.2.1.1 9)), (2, vI x2), (3, vI x3)] [] s) x2 x3 s) : AtS F 54 [(0, .ref (F.2.1.1 9)), (2, vI x2), (3, vI x3)] [] s := by
  unfold B_Gr_readChoices_54 at h
  refine r_iload_n ok 2 d_Gr_readChoices_54 rfl rfl ?_
  refine r_aload_n ok 0 d_Gr_readChoices_55 rfl rfl ?_
  refine g_Gr_lostCount ok d_Gr_readChoices_56 ?_
  refine r_icmp_ge ok 89 d_Gr_readChoices_59 (by decide) h.1 h.2.1 (fun c => ?_) (fun c => ?_)
  · replace h := h.2.2.1 c
    refine r_iinc ok 1 (x2 + 1) [(2, vI (x2 + 1)), (0, .ref (F.2.1.1 9)), (3, vI x3)] d_Gr_readChoices_89 rfl rfl hm (by decide) rfl ?_
    refine r_goto ok 37 d_Gr_readChoices_92 (by decide) ?_
    exact r_sub [1, 0] rfl h
  · replace h := h.2.2.2 c
    refine r_aload_n ok 0 d_Gr_readChoices_62 rfl rfl ?_
    refine r_iload_n ok 1 d_Gr_readChoices_63 rfl rfl ?_
    refine r_iload_n ok 2 d_Gr_readChoices_64 rfl rfl ?_
    refine r_callVi (As := [vI x2, vI x3]) (rest := []) ok 9 rfl rfl rfl wl_Gr_73 wi_y_Gr_canGet ws_y_Gr_canGet wn_Gr wc_y_Gr_canGet (by decide) (by decide) hh_Gr_canGet (Nat.le_of_ble_eq_true rfl) rfl d_Gr_readChoices_65 (L_Gr_canGet F.1 F.2.1 F.2.2.1 hD h) (fun r7 s6 h => ?_)
    refine r_if_eq ok 83 d_Gr_readChoices_68 (by decide) h.1 (fun c => ?_) (fun c => ?_)
    · replace h := h.2.1 c
      refine r_iinc ok 2 (x3 + 1) [(3, vI (x3 + 1)), (0, .ref (F.2.1.1 9)), (2, vI x2)] d_Gr_readChoices_83 rfl rfl hm (by decide) rfl ?_
      refine r_goto ok 54 d_Gr_readChoices_86 (by decide) ?_
      exact r_sub [1, 2, 0] rfl h
    · replace h := h.2.2 c
      refine r_aload_n ok 0 d_Gr_readChoices_71 rfl rfl ?_
      refine g_Gr_choices ok d_Gr_readChoices_72 ?_
      refine r_iload_n ok 1 d_Gr_readChoices_75 rfl rfl ?_
      refine r_dup2 ok d_Gr_readChoices_76 rfl rfl ?_
      refine r_iald ok 57 d_Gr_readChoices_77 (by decide) rfl h.1 ?_
      replace h := h.2
      refine r_iconst ok 1 d_Gr_readChoices_78 rfl ?_
      refine r_iload_n ok 2 d_Gr_readChoices_79 rfl rfl ?_
      refine r_ishl ok d_Gr_readChoices_80 ?_
      refine r_ior ok d_Gr_readChoices_81 ?_
      refine r_iast ok 57 d_Gr_readChoices_82 (by decide) rfl h.1 ?_
      replace h := h.2 _ rfl
      generalize sA s6 57 x2 (bor (s6.2 57 x2) (shl 1 x3)) = s8 at h ⊢
      refine r_iinc ok 2 (x3 + 1) [(3, vI (x3 + 1)), (0, .ref (F.2.1.1 9)), (2, vI x2)] d_Gr_readChoices_83 rfl rfl hm (by decide) rfl ?_
      refine r_goto ok 54 d_Gr_readChoices_86 (by decide) ?_
      exact r_sub [1, 2, 0] rfl h
set_option maxHeartbeats 4000000 in
set_option maxRecDepth 100000 in
theorem K_Gr_readChoices_e {F : FT} (hD : ∀ σ, va_D F.2.2.1 (GW F.2.1 σ)) (hm : F.2.2.2.2.2.2.2.2.2.2.2.2.2.2.1 = 4) (ok : OkF F prog_3_method_15_code "LastSeen$Graves" ({ frames := 3, cells := 0, slots := 0, locals := 67 } : Room)) {Q : SS → Prop} (hQ : RetV F Q) {x1 : Int} {s : SS} (h : B_Gr_readChoices_e Q (fun x2 s => AtS F 10 [(0, .ref (F.2.1.1 9)), (2, vI x2)] [] s) (fun x2 s => AtS F 37 [(0, .ref (F.2.1.1 9)), (2, vI x2)] [] s) (fun x2 x3 s => AtS F 54 [(0, .ref (F.2.1.1 9)), (2, vI x2), (3, vI x3)] [] s) x1 s) : AtS F 0 [(0, .ref (F.2.1.1 9)), (1, vI x1)] [] s := by
  unfold B_Gr_readChoices_e at h
  refine r_aload_n ok 0 d_Gr_readChoices_0 rfl rfl ?_
  refine g_Gr_names ok d_Gr_readChoices_1 ?_
  refine r_iload_n ok 1 d_Gr_readChoices_4 rfl rfl ?_
  refine r_callVv (As := [vI x1]) (rest := []) ok 3 rfl rfl rfl wl_Gr_63 wi_y_Na_readBy ws_y_Na_readBy wn_Na wc_y_Na_readBy (by decide) (by decide) hh_Na_readBy (Nat.le_of_ble_eq_true rfl) rfl d_Gr_readChoices_5 (L_Na_readBy F.1 F.2.1 F.2.2.1 hD h) (fun s1 h => ?_)
  refine r_iconst ok 0 d_Gr_readChoices_8 rfl ?_
  refine r_istore_n ok [(2, vI 0), (0, .ref (F.2.1.1 9)), (1, vI x1)] d_Gr_readChoices_9 rfl hm (by decide) rfl ?_
  exact r_sub [1, 0] rfl h
theorem L_Gr_readChoices (l : Launch) (G : GE) (A : Nat → Prop) (hD : ∀ σ, va_D A (GW G σ)) {x1 : Int} {s : SS} {Q : SS → Prop} (h : Sp_Gr_readChoices x1 s Q) : Met l y_Gr_readChoices (Cond.code y_Gr_readChoices prog_3_method_15_code 4 (none) :: lw_ok) ({ frames := 3, cells := 0, slots := 0, locals := 67 } : Room) (va_Pc [.ref (G.1 9), vI x1] (gB G s)) (va_Qv (fun (s2 : SS) => Q s2) (fun s2 t => gB G s2 t) A) 0 0 A := by
  refine met_v hD (by decide) ⟨rfl, rfl⟩ (Nat.le_of_ble_eq_true rfl) (lv := [(0, .ref (G.1 9)), (1, vI x1)]) rfl (fun F h1 h2 h3 hm ok hQ => ?_)
  subst h1 h2 h3
  have hDF := hD
  exact K_Gr_readChoices_e hDF hm ok hQ (h _ _ _ (fun _ _ hb => K_Gr_readChoices_10 hDF hm ok hQ hb) (fun _ _ hb => K_Gr_readChoices_37 hDF hm ok hQ hb) (fun _ _ _ hb => K_Gr_readChoices_54 hDF hm ok hQ hb))
theorem d_Gr_spellings_0 : decode prog_3_method_21_code 0 = .ok (.iconst 0, 1) := by decide +kernel
theorem d_Gr_spellings_1 : decode prog_3_method_21_code 1 = .ok (.istore_n 3, 1) := by decide +kernel
theorem d_Gr_spellings_2 : decode prog_3_method_21_code 2 = .ok (.iload_n 2, 1) := by decide +kernel
theorem d_Gr_spellings_3 : decode prog_3_method_21_code 3 = .ok (.istore 4, 2) := by decide +kernel
theorem d_Gr_spellings_5 : decode prog_3_method_21_code 5 = .ok (.iload 4, 2) := by decide +kernel
theorem d_Gr_spellings_7 : decode prog_3_method_21_code 7 = .ok (.aload_n 0, 1) := by decide +kernel
theorem d_Gr_spellings_8 : decode prog_3_method_21_code 8 = .ok (.getfield 60, 3) := by decide +kernel
theorem d_Gr_spellings_11 : decode prog_3_method_21_code 11 = .ok (.if_icmp .ge 38, 3) := by decide +kernel
theorem d_Gr_spellings_14 : decode prog_3_method_21_code 14 = .ok (.aload_n 0, 1) := by decide +kernel
theorem d_Gr_spellings_15 : decode prog_3_method_21_code 15 = .ok (.getfield 43, 3) := by decide +kernel
theorem d_Gr_spellings_18 : decode prog_3_method_21_code 18 = .ok (.iload 4, 2) := by decide +kernel
theorem d_Gr_spellings_20 : decode prog_3_method_21_code 20 = .ok (.iaload, 1) := by decide +kernel
theorem d_Gr_spellings_21 : decode prog_3_method_21_code 21 = .ok (.iload_n 2, 1) := by decide +kernel
theorem d_Gr_spellings_22 : decode prog_3_method_21_code 22 = .ok (.if_icmp .ne 21, 3) := by decide +kernel
theorem d_Gr_spellings_25 : decode prog_3_method_21_code 25 = .ok (.aload_n 0, 1) := by decide +kernel
theorem d_Gr_spellings_26 : decode prog_3_method_21_code 26 = .ok (.getfield 46, 3) := by decide +kernel
theorem d_Gr_spellings_29 : decode prog_3_method_21_code 29 = .ok (.iload_n 1, 1) := by decide +kernel
theorem d_Gr_spellings_30 : decode prog_3_method_21_code 30 = .ok (.iaload, 1) := by decide +kernel
theorem d_Gr_spellings_31 : decode prog_3_method_21_code 31 = .ok (.iload 4, 2) := by decide +kernel
theorem d_Gr_spellings_33 : decode prog_3_method_21_code 33 = .ok (.ishr, 1) := by decide +kernel
theorem d_Gr_spellings_34 : decode prog_3_method_21_code 34 = .ok (.iconst 1, 1) := by decide +kernel
theorem d_Gr_spellings_35 : decode prog_3_method_21_code 35 = .ok (.iand, 1) := by decide +kernel
theorem d_Gr_spellings_36 : decode prog_3_method_21_code 36 = .ok (.iconst 1, 1) := by decide +kernel
theorem d_Gr_spellings_37 : decode prog_3_method_21_code 37 = .ok (.if_icmp .ne 6, 3) := by decide +kernel
theorem d_Gr_spellings_40 : decode prog_3_method_21_code 40 = .ok (.iinc 3 1, 3) := by decide +kernel
theorem d_Gr_spellings_43 : decode prog_3_method_21_code 43 = .ok (.iinc 4 1, 3) := by decide +kernel
theorem d_Gr_spellings_46 : decode prog_3_method_21_code 46 = .ok (.goto (-41), 3) := by decide +kernel
theorem d_Gr_spellings_49 : decode prog_3_method_21_code 49 = .ok (.iload_n 3, 1) := by decide +kernel
theorem d_Gr_spellings_50 : decode prog_3_method_21_code 50 = .ok (.ireturn, 1) := by decide +kernel
set_option maxHeartbeats 4000000 in
set_option maxRecDepth 100000 in
theorem K_Gr_spellings_5 {F : FT} (hD : ∀ σ, va_D F.2.2.1 (GW F.2.1 σ)) (hm : F.2.2.2.2.2.2.2.2.2.2.2.2.2.2.1 = 5) (ok : OkF F prog_3_method_21_code "LastSeen$Graves" ({ frames := 0, cells := 0, slots := 0, locals := 0 } : Room)) {Q : Int → SS → Prop} (hQ : RetI F Q) {x1 x2 x3 x4 : Int} {s : SS} (h : B_Gr_spellings_5 Q (fun x1 x2 x3 x4 s => AtS F 5 [(0, .ref (F.2.1.1 9)), (1, vI x1), (2, vI x2), (3, vI x3), (4, vI x4)] [] s) x1 x2 x3 x4 s) : AtS F 5 [(0, .ref (F.2.1.1 9)), (1, vI x1), (2, vI x2), (3, vI x3), (4, vI x4)] [] s := by
  unfold B_Gr_spellings_5 at h
  refine r_iload ok 4 d_Gr_spellings_5 rfl ?_
  refine r_aload_n ok 0 d_Gr_spellings_7 rfl rfl ?_
  refine g_Gr_lostCount ok d_Gr_spellings_8 ?_
  refine r_icmp_ge ok 49 d_Gr_spellings_11 (by decide) h.1 h.2.1 (fun c => ?_) (fun c => ?_)
  · replace h := h.2.2.1 c
    refine r_iload_n ok 3 d_Gr_spellings_49 rfl rfl ?_
    exact hQ _ _ _ _ _ (ok_code ok) d_Gr_spellings_50 h
  · replace h := h.2.2.2 c
    refine r_aload_n ok 0 d_Gr_spellings_14 rfl rfl ?_
    refine g_Gr_same ok d_Gr_spellings_15 ?_
    refine r_iload ok 4 d_Gr_spellings_18 rfl ?_
    refine r_iald ok 56 d_Gr_spellings_20 (by decide) rfl h.1 ?_
    replace h := h.2
    refine r_iload_n ok 2 d_Gr_spellings_21 rfl rfl ?_
    refine r_icmp_ne ok 43 d_Gr_spellings_22 (by decide) h.1 h.2.1 (fun c => ?_) (fun c => ?_)
    · replace h := h.2.2.1 c
      refine r_iinc ok 4 (x4 + 1) [(4, vI (x4 + 1)), (0, .ref (F.2.1.1 9)), (1, vI x1), (2, vI x2), (3, vI x3)] d_Gr_spellings_43 rfl rfl hm (by decide) rfl ?_
      refine r_goto ok 5 d_Gr_spellings_46 (by decide) ?_
      exact r_sub [1, 2, 3, 4, 0] rfl h
    · replace h := h.2.2.2 c
      refine r_aload_n ok 0 d_Gr_spellings_25 rfl rfl ?_
      refine g_Gr_choices ok d_Gr_spellings_26 ?_
      refine r_iload_n ok 1 d_Gr_spellings_29 rfl rfl ?_
      refine r_iald ok 57 d_Gr_spellings_30 (by decide) rfl h.1 ?_
      replace h := h.2
      refine r_iload ok 4 d_Gr_spellings_31 rfl ?_
      refine r_ishr ok d_Gr_spellings_33 ?_
      refine r_iconst ok 1 d_Gr_spellings_34 rfl ?_
      refine r_iand ok d_Gr_spellings_35 ?_
      refine r_iconst ok 1 d_Gr_spellings_36 rfl ?_
      refine r_icmp_ne ok 43 d_Gr_spellings_37 (by decide) h.1 (by decide) (fun c => ?_) (fun c => ?_)
      · replace h := h.2.1 c
        refine r_iinc ok 4 (x4 + 1) [(4, vI (x4 + 1)), (0, .ref (F.2.1.1 9)), (1, vI x1), (2, vI x2), (3, vI x3)] d_Gr_spellings_43 rfl rfl hm (by decide) rfl ?_
        refine r_goto ok 5 d_Gr_spellings_46 (by decide) ?_
        exact r_sub [1, 2, 3, 4, 0] rfl h
      · replace h := h.2.2 c
        refine r_iinc ok 3 (x3 + 1) [(3, vI (x3 + 1)), (0, .ref (F.2.1.1 9)), (1, vI x1), (2, vI x2), (4, vI x4)] d_Gr_spellings_40 rfl rfl hm (by decide) rfl ?_
        refine r_iinc ok 4 (x4 + 1) [(4, vI (x4 + 1)), (3, vI (x3 + 1)), (0, .ref (F.2.1.1 9)), (1, vI x1), (2, vI x2)] d_Gr_spellings_43 rfl rfl hm (by decide) rfl ?_
        refine r_goto ok 5 d_Gr_spellings_46 (by decide) ?_
        exact r_sub [2, 3, 4, 1, 0] rfl h
set_option maxHeartbeats 4000000 in
set_option maxRecDepth 100000 in
theorem K_Gr_spellings_e {F : FT} (hD : ∀ σ, va_D F.2.2.1 (GW F.2.1 σ)) (hm : F.2.2.2.2.2.2.2.2.2.2.2.2.2.2.1 = 5) (ok : OkF F prog_3_method_21_code "LastSeen$Graves" ({ frames := 0, cells := 0, slots := 0, locals := 0 } : Room)) {Q : Int → SS → Prop} (hQ : RetI F Q) {x1 x2 : Int} {s : SS} (h : B_Gr_spellings_e Q (fun x1 x2 x3 x4 s => AtS F 5 [(0, .ref (F.2.1.1 9)), (1, vI x1), (2, vI x2), (3, vI x3), (4, vI x4)] [] s) x1 x2 s) : AtS F 0 [(0, .ref (F.2.1.1 9)), (1, vI x1), (2, vI x2)] [] s := by
  unfold B_Gr_spellings_e at h
  refine r_iconst ok 0 d_Gr_spellings_0 rfl ?_
  refine r_istore_n ok [(3, vI 0), (0, .ref (F.2.1.1 9)), (1, vI x1), (2, vI x2)] d_Gr_spellings_1 rfl hm (by decide) rfl ?_
  refine r_iload_n ok 3 d_Gr_spellings_2 rfl rfl ?_
  refine r_istore ok [(4, vI x2), (3, vI 0), (0, .ref (F.2.1.1 9)), (1, vI x1), (2, vI x2)] d_Gr_spellings_3 hm (by decide) rfl ?_
  exact r_sub [2, 3, 4, 1, 0] rfl h
theorem L_Gr_spellings (l : Launch) (G : GE) (A : Nat → Prop) (hD : ∀ σ, va_D A (GW G σ)) {x1 x2 : Int} {s : SS} {Q : Int → SS → Prop} (h : Sp_Gr_spellings x1 x2 s Q) : Met l y_Gr_spellings (Cond.code y_Gr_spellings prog_3_method_21_code 5 (some .int) :: lw_ok) ({ frames := 0, cells := 0, slots := 0, locals := 0 } : Room) (va_Pc [.ref (G.1 9), vI x1, vI x2] (gB G s)) (va_Qi (fun (r : Int32) (s2 : SS) => ∃ x : Int, r = iI x ∧ Q x s2) (fun s2 t => gB G s2 t) A) 0 0 A := by
  refine met_i hD (by decide) ⟨rfl, rfl⟩ (Nat.le_of_ble_eq_true rfl) (lv := [(0, .ref (G.1 9)), (1, vI x1), (2, vI x2)]) rfl (fun F h1 h2 h3 hm ok hQ => ?_)
  subst h1 h2 h3
  have hDF := hD
  exact K_Gr_spellings_e hDF hm ok hQ (h _ (fun _ _ _ _ _ hb => K_Gr_spellings_5 hDF hm ok hQ hb))
theorem d_Gr_waysWith_0 : decode prog_3_method_20_code 0 = .ok (.iconst 0, 1) := by decide +kernel
theorem d_Gr_waysWith_1 : decode prog_3_method_20_code 1 = .ok (.istore_n 3, 1) := by decide +kernel
theorem d_Gr_waysWith_2 : decode prog_3_method_20_code 2 = .ok (.iconst 0, 1) := by decide +kernel
theorem d_Gr_waysWith_3 : decode prog_3_method_20_code 3 = .ok (.istore 4, 2) := by decide +kernel
theorem d_Gr_waysWith_5 : decode prog_3_method_20_code 5 = .ok (.iload 4, 2) := by decide +kernel
theorem d_Gr_waysWith_7 : decode prog_3_method_20_code 7 = .ok (.aload_n 0, 1) := by decide +kernel
theorem d_Gr_waysWith_8 : decode prog_3_method_20_code 8 = .ok (.getfield 56, 3) := by decide +kernel
theorem d_Gr_waysWith_11 : decode prog_3_method_20_code 11 = .ok (.if_icmp .ge 54, 3) := by decide +kernel
theorem d_Gr_waysWith_14 : decode prog_3_method_20_code 14 = .ok (.iload_n 1, 1) := by decide +kernel
theorem d_Gr_waysWith_15 : decode prog_3_method_20_code 15 = .ok (.iload 4, 2) := by decide +kernel
theorem d_Gr_waysWith_17 : decode prog_3_method_20_code 17 = .ok (.ishr, 1) := by decide +kernel
theorem d_Gr_waysWith_18 : decode prog_3_method_20_code 18 = .ok (.iconst 1, 1) := by decide +kernel
theorem d_Gr_waysWith_19 : decode prog_3_method_20_code 19 = .ok (.iand, 1) := by decide +kernel
theorem d_Gr_waysWith_20 : decode prog_3_method_20_code 20 = .ok (.ifCond .ne 6, 3) := by decide +kernel
theorem d_Gr_waysWith_23 : decode prog_3_method_20_code 23 = .ok (.goto 36, 3) := by decide +kernel
theorem d_Gr_waysWith_26 : decode prog_3_method_20_code 26 = .ok (.aload_n 0, 1) := by decide +kernel
theorem d_Gr_waysWith_27 : decode prog_3_method_20_code 27 = .ok (.getfield 49, 3) := by decide +kernel
theorem d_Gr_waysWith_30 : decode prog_3_method_20_code 30 = .ok (.iload_n 1, 1) := by decide +kernel
theorem d_Gr_waysWith_31 : decode prog_3_method_20_code 31 = .ok (.iconst 1, 1) := by decide +kernel
theorem d_Gr_waysWith_32 : decode prog_3_method_20_code 32 = .ok (.iload 4, 2) := by decide +kernel
theorem d_Gr_waysWith_34 : decode prog_3_method_20_code 34 = .ok (.ishl, 1) := by decide +kernel
theorem d_Gr_waysWith_35 : decode prog_3_method_20_code 35 = .ok (.iconst (-1), 1) := by decide +kernel
theorem d_Gr_waysWith_36 : decode prog_3_method_20_code 36 = .ok (.ixor, 1) := by decide +kernel
theorem d_Gr_waysWith_37 : decode prog_3_method_20_code 37 = .ok (.iand, 1) := by decide +kernel
theorem d_Gr_waysWith_38 : decode prog_3_method_20_code 38 = .ok (.iaload, 1) := by decide +kernel
theorem d_Gr_waysWith_39 : decode prog_3_method_20_code 39 = .ok (.istore 5, 2) := by decide +kernel
theorem d_Gr_waysWith_41 : decode prog_3_method_20_code 41 = .ok (.iload 5, 2) := by decide +kernel
theorem d_Gr_waysWith_43 : decode prog_3_method_20_code 43 = .ok (.ifCond .le 16, 3) := by decide +kernel
theorem d_Gr_waysWith_46 : decode prog_3_method_20_code 46 = .ok (.iload_n 3, 1) := by decide +kernel
theorem d_Gr_waysWith_47 : decode prog_3_method_20_code 47 = .ok (.iload 5, 2) := by decide +kernel
theorem d_Gr_waysWith_49 : decode prog_3_method_20_code 49 = .ok (.aload_n 0, 1) := by decide +kernel
theorem d_Gr_waysWith_50 : decode prog_3_method_20_code 50 = .ok (.iload 4, 2) := by decide +kernel
theorem d_Gr_waysWith_52 : decode prog_3_method_20_code 52 = .ok (.iload_n 2, 1) := by decide +kernel
theorem d_Gr_waysWith_53 : decode prog_3_method_20_code 53 = .ok (.invokevirtual 97, 3) := by decide +kernel
theorem d_Gr_waysWith_56 : decode prog_3_method_20_code 56 = .ok (.imul, 1) := by decide +kernel
theorem d_Gr_waysWith_57 : decode prog_3_method_20_code 57 = .ok (.iadd, 1) := by decide +kernel
theorem d_Gr_waysWith_58 : decode prog_3_method_20_code 58 = .ok (.istore_n 3, 1) := by decide +kernel
theorem d_Gr_waysWith_59 : decode prog_3_method_20_code 59 = .ok (.iinc 4 1, 3) := by decide +kernel
theorem d_Gr_waysWith_62 : decode prog_3_method_20_code 62 = .ok (.goto (-57), 3) := by decide +kernel
theorem d_Gr_waysWith_65 : decode prog_3_method_20_code 65 = .ok (.iload_n 3, 1) := by decide +kernel
theorem d_Gr_waysWith_66 : decode prog_3_method_20_code 66 = .ok (.ireturn, 1) := by decide +kernel
set_option maxHeartbeats 4000000 in
set_option maxRecDepth 100000 in
theorem K_Gr_waysWith_5 {F : FT} (hD : ∀ σ, va_D F.2.2.1 (GW F.2.1 σ)) (hm : F.2.2.2.2.2.2.2.2.2.2.2.2.2.2.1 = 6) (ok : OkF F prog_3_method_20_code "LastSeen$Graves" ({ frames := 1, cells := 0, slots := 0, locals := 24 } : Room)) {Q : Int → SS → Prop} (hQ : RetI F Q) {x1 x2 x3 x4 : Int} {s : SS} (h : B_Gr_waysWith_5 Q (fun x1 x2 x3 x4 s => AtS F 5 [(0, .ref (F.2.1.1 9)), (1, vI x1), (2, vI x2), (3, vI x3), (4, vI x4)] [] s) x1 x2 x3 x4 s) : AtS F 5 [(0, .ref (F.2.1.1 9)), (1, vI x1), (2, vI x2), (3, vI x3), (4, vI x4)] [] s := by
  unfold B_Gr_waysWith_5 at h
  refine r_iload ok 4 d_Gr_waysWith_5 rfl ?_
  refine r_aload_n ok 0 d_Gr_waysWith_7 rfl rfl ?_
  refine g_Gr_setCount ok d_Gr_waysWith_8 ?_
  refine r_icmp_ge ok 65 d_Gr_waysWith_11 (by decide) h.1 h.2.1 (fun c => ?_) (fun c => ?_)
  · replace h := h.2.2.1 c
    refine r_iload_n ok 3 d_Gr_waysWith_65 rfl rfl ?_
    exact hQ _ _ _ _ _ (ok_code ok) d_Gr_waysWith_66 h
  · replace h := h.2.2.2 c
    refine r_iload_n ok 1 d_Gr_waysWith_14 rfl rfl ?_
    refine r_iload ok 4 d_Gr_waysWith_15 rfl ?_
    refine r_ishr ok d_Gr_waysWith_17 ?_
    refine r_iconst ok 1 d_Gr_waysWith_18 rfl ?_
    refine r_iand ok d_Gr_waysWith_19 ?_
    refine r_if_ne ok 26 d_Gr_waysWith_20 (by decide) h.1 (fun c => ?_) (fun c => ?_)
    · replace h := h.2.1 c
      refine r_aload_n ok 0 d_Gr_waysWith_26 rfl rfl ?_
      refine g_Gr_perSubset ok d_Gr_waysWith_27 ?_
      refine r_iload_n ok 1 d_Gr_waysWith_30 rfl rfl ?_
      refine r_iconst ok 1 d_Gr_waysWith_31 rfl ?_
      refine r_iload ok 4 d_Gr_waysWith_32 rfl ?_
      refine r_ishl ok d_Gr_waysWith_34 ?_
      refine r_iconst ok (-1) d_Gr_waysWith_35 rfl ?_
      refine r_ixor ok d_Gr_waysWith_36 ?_
      refine r_iand ok d_Gr_waysWith_37 ?_
      refine r_iald ok 58 d_Gr_waysWith_38 (by decide) rfl h.1 ?_
      replace h := h.2
      refine r_istore ok [(5, vI (s.2 58 (bnd x1 (bxr (shl 1 x4) (-1))))), (0, .ref (F.2.1.1 9)), (1, vI x1), (2, vI x2), (3, vI x3), (4, vI x4)] d_Gr_waysWith_39 hm (by decide) rfl ?_
      refine r_iload ok 0 d_Gr_waysWith_41 rfl ?_
      refine r_if_le ok 59 d_Gr_waysWith_43 (by decide) h.1 (fun c => ?_) (fun c => ?_)
      · replace h := h.2.1 c
        refine r_iinc ok 5 (x4 + 1) [(4, vI (x4 + 1)), (5, vI (s.2 58 (bnd x1 (bxr (shl 1 x4) (-1))))), (0, .ref (F.2.1.1 9)), (1, vI x1), (2, vI x2), (3, vI x3)] d_Gr_waysWith_59 rfl rfl hm (by decide) rfl ?_
        refine r_goto ok 5 d_Gr_waysWith_62 (by decide) ?_
        exact r_sub [2, 3, 4, 5, 0] rfl h
      · replace h := h.2.2 c
        refine r_iload_n ok 4 d_Gr_waysWith_46 rfl rfl ?_
        refine r_iload ok 0 d_Gr_waysWith_47 rfl ?_
        refine r_aload_n ok 1 d_Gr_waysWith_49 rfl rfl ?_
        refine r_iload ok 5 d_Gr_waysWith_50 rfl ?_
        refine r_iload_n ok 3 d_Gr_waysWith_52 rfl rfl ?_
        refine r_callVi (As := [vI x4, vI x2]) (rest := [vI (s.2 58 (bnd x1 (bxr (shl 1 x4) (-1)))), vI x3]) ok 9 rfl rfl rfl wl_Gr_97 wi_y_Gr_spellings ws_y_Gr_spellings wn_Gr wc_y_Gr_spellings (by decide) (by decide) hh_Gr_spellings (Nat.le_of_ble_eq_true rfl) rfl d_Gr_waysWith_53 (L_Gr_spellings F.1 F.2.1 F.2.2.1 hD h) (fun r2 s1 h => ?_)
        refine r_imul ok d_Gr_waysWith_56 ?_
        refine r_iadd ok d_Gr_waysWith_57 ?_
        refine r_istore_n ok [(3, vI (x3 + ((s.2 58 (bnd x1 (bxr (shl 1 x4) (-1)))) * r2))), (5, vI (s.2 58 (bnd x1 (bxr (shl 1 x4) (-1))))), (0, .ref (F.2.1.1 9)), (1, vI x1), (2, vI x2), (4, vI x4)] d_Gr_waysWith_58 rfl hm (by decide) rfl ?_
        refine r_iinc ok 5 (x4 + 1) [(4, vI (x4 + 1)), (3, vI (x3 + ((s.2 58 (bnd x1 (bxr (shl 1 x4) (-1)))) * r2))), (5, vI (s.2 58 (bnd x1 (bxr (shl 1 x4) (-1))))), (0, .ref (F.2.1.1 9)), (1, vI x1), (2, vI x2)] d_Gr_waysWith_59 rfl rfl hm (by decide) rfl ?_
        refine r_goto ok 5 d_Gr_waysWith_62 (by decide) ?_
        exact r_sub [3, 4, 5, 1, 0] rfl h
    · replace h := h.2.2 c
      refine r_goto ok 59 d_Gr_waysWith_23 (by decide) ?_
      refine r_iinc ok 4 (x4 + 1) [(4, vI (x4 + 1)), (0, .ref (F.2.1.1 9)), (1, vI x1), (2, vI x2), (3, vI x3)] d_Gr_waysWith_59 rfl rfl hm (by decide) rfl ?_
      refine r_goto ok 5 d_Gr_waysWith_62 (by decide) ?_
      exact r_sub [1, 2, 3, 4, 0] rfl h
set_option maxHeartbeats 4000000 in
set_option maxRecDepth 100000 in
theorem K_Gr_waysWith_e {F : FT} (hD : ∀ σ, va_D F.2.2.1 (GW F.2.1 σ)) (hm : F.2.2.2.2.2.2.2.2.2.2.2.2.2.2.1 = 6) (ok : OkF F prog_3_method_20_code "LastSeen$Graves" ({ frames := 1, cells := 0, slots := 0, locals := 24 } : Room)) {Q : Int → SS → Prop} (hQ : RetI F Q) {x1 x2 : Int} {s : SS} (h : B_Gr_waysWith_e Q (fun x1 x2 x3 x4 s => AtS F 5 [(0, .ref (F.2.1.1 9)), (1, vI x1), (2, vI x2), (3, vI x3), (4, vI x4)] [] s) x1 x2 s) : AtS F 0 [(0, .ref (F.2.1.1 9)), (1, vI x1), (2, vI x2)] [] s := by
  unfold B_Gr_waysWith_e at h
  refine r_iconst ok 0 d_Gr_waysWith_0 rfl ?_
  refine r_istore_n ok [(3, vI 0), (0, .ref (F.2.1.1 9)), (1, vI x1), (2, vI x2)] d_Gr_waysWith_1 rfl hm (by decide) rfl ?_
  refine r_iconst ok 0 d_Gr_waysWith_2 rfl ?_
  refine r_istore ok [(4, vI 0), (3, vI 0), (0, .ref (F.2.1.1 9)), (1, vI x1), (2, vI x2)] d_Gr_waysWith_3 hm (by decide) rfl ?_
  exact r_sub [2, 3, 4, 1, 0] rfl h
theorem L_Gr_waysWith (l : Launch) (G : GE) (A : Nat → Prop) (hD : ∀ σ, va_D A (GW G σ)) {x1 x2 : Int} {s : SS} {Q : Int → SS → Prop} (h : Sp_Gr_waysWith x1 x2 s Q) : Met l y_Gr_waysWith (Cond.code y_Gr_waysWith prog_3_method_20_code 6 (some .int) :: lw_ok) ({ frames := 1, cells := 0, slots := 0, locals := 24 } : Room) (va_Pc [.ref (G.1 9), vI x1, vI x2] (gB G s)) (va_Qi (fun (r : Int32) (s2 : SS) => ∃ x : Int, r = iI x ∧ Q x s2) (fun s2 t => gB G s2 t) A) 0 0 A := by
  refine met_i hD (by decide) ⟨rfl, rfl⟩ (Nat.le_of_ble_eq_true rfl) (lv := [(0, .ref (G.1 9)), (1, vI x1), (2, vI x2)]) rfl (fun F h1 h2 h3 hm ok hQ => ?_)
  subst h1 h2 h3
  have hDF := hD
  exact K_Gr_waysWith_e hDF hm ok hQ (h _ (fun _ _ _ _ _ hb => K_Gr_waysWith_5 hDF hm ok hQ hb))
theorem d_Gr_ways_0 : decode prog_3_method_19_code 0 = .ok (.aload_n 0, 1) := by decide +kernel
theorem d_Gr_ways_1 : decode prog_3_method_19_code 1 = .ok (.getfield 49, 3) := by decide +kernel
theorem d_Gr_ways_4 : decode prog_3_method_19_code 4 = .ok (.astore_n 2, 1) := by decide +kernel
theorem d_Gr_ways_5 : decode prog_3_method_19_code 5 = .ok (.iconst 0, 1) := by decide +kernel
theorem d_Gr_ways_6 : decode prog_3_method_19_code 6 = .ok (.istore_n 3, 1) := by decide +kernel
theorem d_Gr_ways_7 : decode prog_3_method_19_code 7 = .ok (.iload_n 3, 1) := by decide +kernel
theorem d_Gr_ways_8 : decode prog_3_method_19_code 8 = .ok (.iconst 1, 1) := by decide +kernel
theorem d_Gr_ways_9 : decode prog_3_method_19_code 9 = .ok (.aload_n 0, 1) := by decide +kernel
theorem d_Gr_ways_10 : decode prog_3_method_19_code 10 = .ok (.getfield 56, 3) := by decide +kernel
theorem d_Gr_ways_13 : decode prog_3_method_19_code 13 = .ok (.ishl, 1) := by decide +kernel
theorem d_Gr_ways_14 : decode prog_3_method_19_code 14 = .ok (.if_icmp .ge 13, 3) := by decide +kernel
theorem d_Gr_ways_17 : decode prog_3_method_19_code 17 = .ok (.aload_n 2, 1) := by decide +kernel
theorem d_Gr_ways_18 : decode prog_3_method_19_code 18 = .ok (.iload_n 3, 1) := by decide +kernel
theorem d_Gr_ways_19 : decode prog_3_method_19_code 19 = .ok (.iconst 0, 1) := by decide +kernel
theorem d_Gr_ways_20 : decode prog_3_method_19_code 20 = .ok (.iastore, 1) := by decide +kernel
theorem d_Gr_ways_21 : decode prog_3_method_19_code 21 = .ok (.iinc 3 1, 3) := by decide +kernel
theorem d_Gr_ways_24 : decode prog_3_method_19_code 24 = .ok (.goto (-17), 3) := by decide +kernel
theorem d_Gr_ways_27 : decode prog_3_method_19_code 27 = .ok (.aload_n 2, 1) := by decide +kernel
theorem d_Gr_ways_28 : decode prog_3_method_19_code 28 = .ok (.iconst 0, 1) := by decide +kernel
theorem d_Gr_ways_29 : decode prog_3_method_19_code 29 = .ok (.iconst 1, 1) := by decide +kernel
theorem d_Gr_ways_30 : decode prog_3_method_19_code 30 = .ok (.iastore, 1) := by decide +kernel
theorem d_Gr_ways_31 : decode prog_3_method_19_code 31 = .ok (.iconst 0, 1) := by decide +kernel
theorem d_Gr_ways_32 : decode prog_3_method_19_code 32 = .ok (.istore_n 3, 1) := by decide +kernel
theorem d_Gr_ways_33 : decode prog_3_method_19_code 33 = .ok (.iload_n 3, 1) := by decide +kernel
theorem d_Gr_ways_34 : decode prog_3_method_19_code 34 = .ok (.aload_n 0, 1) := by decide +kernel
theorem d_Gr_ways_35 : decode prog_3_method_19_code 35 = .ok (.getfield 60, 3) := by decide +kernel
theorem d_Gr_ways_38 : decode prog_3_method_19_code 38 = .ok (.if_icmp .ge 66, 3) := by decide +kernel
theorem d_Gr_ways_41 : decode prog_3_method_19_code 41 = .ok (.aload_n 0, 1) := by decide +kernel
theorem d_Gr_ways_42 : decode prog_3_method_19_code 42 = .ok (.getfield 43, 3) := by decide +kernel
theorem d_Gr_ways_45 : decode prog_3_method_19_code 45 = .ok (.iload_n 3, 1) := by decide +kernel
theorem d_Gr_ways_46 : decode prog_3_method_19_code 46 = .ok (.iaload, 1) := by decide +kernel
theorem d_Gr_ways_47 : decode prog_3_method_19_code 47 = .ok (.iload_n 3, 1) := by decide +kernel
theorem d_Gr_ways_48 : decode prog_3_method_19_code 48 = .ok (.if_icmp .eq 6, 3) := by decide +kernel
theorem d_Gr_ways_51 : decode prog_3_method_19_code 51 = .ok (.goto 47, 3) := by decide +kernel
theorem d_Gr_ways_54 : decode prog_3_method_19_code 54 = .ok (.iconst 1, 1) := by decide +kernel
theorem d_Gr_ways_55 : decode prog_3_method_19_code 55 = .ok (.aload_n 0, 1) := by decide +kernel
theorem d_Gr_ways_56 : decode prog_3_method_19_code 56 = .ok (.getfield 56, 3) := by decide +kernel
theorem d_Gr_ways_59 : decode prog_3_method_19_code 59 = .ok (.ishl, 1) := by decide +kernel
theorem d_Gr_ways_60 : decode prog_3_method_19_code 60 = .ok (.iconst 1, 1) := by decide +kernel
theorem d_Gr_ways_61 : decode prog_3_method_19_code 61 = .ok (.isub, 1) := by decide +kernel
theorem d_Gr_ways_62 : decode prog_3_method_19_code 62 = .ok (.istore 4, 2) := by decide +kernel
theorem d_Gr_ways_64 : decode prog_3_method_19_code 64 = .ok (.iload 4, 2) := by decide +kernel
theorem d_Gr_ways_66 : decode prog_3_method_19_code 66 = .ok (.ifCond .le 32, 3) := by decide +kernel
theorem d_Gr_ways_69 : decode prog_3_method_19_code 69 = .ok (.iload 4, 2) := by decide +kernel
theorem d_Gr_ways_71 : decode prog_3_method_19_code 71 = .ok (.iload_n 1, 1) := by decide +kernel
theorem d_Gr_ways_72 : decode prog_3_method_19_code 72 = .ok (.iconst (-1), 1) := by decide +kernel
theorem d_Gr_ways_73 : decode prog_3_method_19_code 73 = .ok (.ixor, 1) := by decide +kernel
theorem d_Gr_ways_74 : decode prog_3_method_19_code 74 = .ok (.iand, 1) := by decide +kernel
theorem d_Gr_ways_75 : decode prog_3_method_19_code 75 = .ok (.ifCond .ne 17, 3) := by decide +kernel
theorem d_Gr_ways_78 : decode prog_3_method_19_code 78 = .ok (.aload_n 2, 1) := by decide +kernel
theorem d_Gr_ways_79 : decode prog_3_method_19_code 79 = .ok (.iload 4, 2) := by decide +kernel
theorem d_Gr_ways_81 : decode prog_3_method_19_code 81 = .ok (.dup2, 1) := by decide +kernel
theorem d_Gr_ways_82 : decode prog_3_method_19_code 82 = .ok (.iaload, 1) := by decide +kernel
theorem d_Gr_ways_83 : decode prog_3_method_19_code 83 = .ok (.aload_n 0, 1) := by decide +kernel
theorem d_Gr_ways_84 : decode prog_3_method_19_code 84 = .ok (.iload 4, 2) := by decide +kernel
theorem d_Gr_ways_86 : decode prog_3_method_19_code 86 = .ok (.iload_n 3, 1) := by decide +kernel
theorem d_Gr_ways_87 : decode prog_3_method_19_code 87 = .ok (.invokevirtual 87, 3) := by decide +kernel
theorem d_Gr_ways_90 : decode prog_3_method_19_code 90 = .ok (.iadd, 1) := by decide +kernel
theorem d_Gr_ways_91 : decode prog_3_method_19_code 91 = .ok (.iastore, 1) := by decide +kernel
theorem d_Gr_ways_92 : decode prog_3_method_19_code 92 = .ok (.iinc 4 (-1), 3) := by decide +kernel
theorem d_Gr_ways_95 : decode prog_3_method_19_code 95 = .ok (.goto (-31), 3) := by decide +kernel
theorem d_Gr_ways_98 : decode prog_3_method_19_code 98 = .ok (.iinc 3 1, 3) := by decide +kernel
theorem d_Gr_ways_101 : decode prog_3_method_19_code 101 = .ok (.goto (-68), 3) := by decide +kernel
theorem d_Gr_ways_104 : decode prog_3_method_19_code 104 = .ok (.aload_n 2, 1) := by decide +kernel
theorem d_Gr_ways_105 : decode prog_3_method_19_code 105 = .ok (.iload_n 1, 1) := by decide +kernel
theorem d_Gr_ways_106 : decode prog_3_method_19_code 106 = .ok (.iaload, 1) := by decide +kernel
theorem d_Gr_ways_107 : decode prog_3_method_19_code 107 = .ok (.ldc 91, 2) := by decide +kernel
theorem d_Gr_ways_109 : decode prog_3_method_19_code 109 = .ok (.invokestatic 92, 3) := by decide +kernel
theorem d_Gr_ways_112 : decode prog_3_method_19_code 112 = .ok (.ireturn, 1) := by decide +kernel
set_option maxHeartbeats 4000000 in
set_option maxRecDepth 100000 in
theorem K_Gr_ways_7 {F : FT} (hD : ∀ σ, va_D F.2.2.1 (GW F.2.1 σ)) (hm : F.2.2.2.2.2.2.2.2.2.2.2.2.2.2.1 = 5) (ok : OkF F prog_3_method_19_code "LastSeen$Graves" ({ frames := 2, cells := 0, slots := 0, locals := 49 } : Room)) {Q : Int → SS → Prop} (hQ : RetI F Q) {x1 x3 : Int} {s : SS} (h : B_Gr_ways_7 Q (fun x1 x3 s => AtS F 7 [(0, .ref (F.2.1.1 9)), (1, vI x1), (2, .ref (F.2.1.1 69)), (3, vI x3)] [] s) (fun x1 x3 s => AtS F 33 [(0, .ref (F.2.1.1 9)), (1, vI x1), (2, .ref (F.2.1.1 69)), (3, vI x3)] [] s) (fun x1 x3 x4 s => AtS F 64 [(0, .ref (F.2.1.1 9)), (1, vI x1), (2, .ref (F.2.1.1 69)), (3, vI x3), (4, vI x4)] [] s) x1 x3 s) : AtS F 7 [(0, .ref (F.2.1.1 9)), (1, vI x1), (2, .ref (F.2.1.1 69)), (3, vI x3)] [] s := by
  unfold B_Gr_ways_7 at h
  refine r_iload_n ok 3 d_Gr_ways_7 rfl rfl ?_
  refine r_iconst ok 1 d_Gr_ways_8 rfl ?_
  refine r_aload_n ok 0 d_Gr_ways_9 rfl rfl ?_
  refine g_Gr_setCount ok d_Gr_ways_10 ?_
  refine r_ishl ok d_Gr_ways_13 ?_
  refine r_icmp_ge ok 27 d_Gr_ways_14 (by decide) h.1 h.2.1 (fun c => ?_) (fun c => ?_)
  · replace h := h.2.2.1 c
    refine r_aload_n ok 2 d_Gr_ways_27 rfl rfl ?_
    refine r_iconst ok 0 d_Gr_ways_28 rfl ?_
    refine r_iconst ok 1 d_Gr_ways_29 rfl ?_
    refine r_iast ok 58 d_Gr_ways_30 (by decide) rfl (by decide) ?_
    replace h := h _ rfl
    generalize sA s 58 0 1 = s1 at h ⊢
    refine r_iconst ok 0 d_Gr_ways_31 rfl ?_
    refine r_istore_n ok [(3, vI 0), (0, .ref (F.2.1.1 9)), (1, vI x1), (2, .ref (F.2.1.1 69))] d_Gr_ways_32 rfl hm (by decide) rfl ?_
    exact r_sub [1, 2, 3, 0] rfl h
  · replace h := h.2.2.2 c
    refine r_aload_n ok 2 d_Gr_ways_17 rfl rfl ?_
    refine r_iload_n ok 3 d_Gr_ways_18 rfl rfl ?_
    refine r_iconst ok 0 d_Gr_ways_19 rfl ?_
    refine r_iast ok 58 d_Gr_ways_20 (by decide) rfl h.1 ?_
    replace h := h.2 _ rfl
    generalize sA s 58 x3 0 = s2 at h ⊢
    refine r_iinc ok 3 (x3 + 1) [(3, vI (x3 + 1)), (0, .ref (F.2.1.1 9)), (1, vI x1), (2, .ref (F.2.1.1 69))] d_Gr_ways_21 rfl rfl hm (by decide) rfl ?_
    refine r_goto ok 7 d_Gr_ways_24 (by decide) ?_
    exact r_sub [1, 2, 3, 0] rfl h
set_option maxHeartbeats 4000000 in
set_option maxRecDepth 100000 in
theorem K_Gr_ways_33 {F : FT} (hD : ∀ σ, va_D F.2.2.1 (GW F.2.1 σ)) (hm : F.2.2.2.2.2.2.2.2.2.2.2.2.2.2.1 = 5) (ok : OkF F prog_3_method_19_code "LastSeen$Graves" ({ frames := 2, cells := 0, slots := 0, locals := 49 } : Room)) {Q : Int → SS → Prop} (hQ : RetI F Q) {x1 x3 : Int} {s : SS} (h : B_Gr_ways_33 Q (fun x1 x3 s => AtS F 7 [(0, .ref (F.2.1.1 9)), (1, vI x1), (2, .ref (F.2.1.1 69)), (3, vI x3)] [] s) (fun x1 x3 s => AtS F 33 [(0, .ref (F.2.1.1 9)), (1, vI x1), (2, .ref (F.2.1.1 69)), (3, vI x3)] [] s) (fun x1 x3 x4 s => AtS F 64 [(0, .ref (F.2.1.1 9)), (1, vI x1), (2, .ref (F.2.1.1 69)), (3, vI x3), (4, vI x4)] [] s) x1 x3 s) : AtS F 33 [(0, .ref (F.2.1.1 9)), (1, vI x1), (2, .ref (F.2.1.1 69)), (3, vI x3)] [] s := by
  unfold B_Gr_ways_33 at h
  refine r_iload_n ok 3 d_Gr_ways_33 rfl rfl ?_
  refine r_aload_n ok 0 d_Gr_ways_34 rfl rfl ?_
  refine g_Gr_lostCount ok d_Gr_ways_35 ?_
  refine r_icmp_ge ok 104 d_Gr_ways_38 (by decide) h.1 h.2.1 (fun c => ?_) (fun c => ?_)
  · replace h := h.2.2.1 c
    refine r_aload_n ok 2 d_Gr_ways_104 rfl rfl ?_
    refine r_iload_n ok 1 d_Gr_ways_105 rfl rfl ?_
    refine r_iald ok 58 d_Gr_ways_106 (by decide) rfl h.1 ?_
    replace h := h.2
    refine r_ldc ok 1000000 wk_Gr_91 d_Gr_ways_107 (by decide) ?_
    refine r_min ok wl_Gr_92 (by decide) (Nat.le_of_ble_eq_true rfl) d_Gr_ways_109 h.1 (by decide) ?_
    replace h := h.2
    exact hQ _ _ _ _ _ (ok_code ok) d_Gr_ways_112 h
  · replace h := h.2.2.2 c
    refine r_aload_n ok 0 d_Gr_ways_41 rfl rfl ?_
    refine g_Gr_same ok d_Gr_ways_42 ?_
    refine r_iload_n ok 3 d_Gr_ways_45 rfl rfl ?_
    refine r_iald ok 56 d_Gr_ways_46 (by decide) rfl h.1 ?_
    replace h := h.2
    refine r_iload_n ok 3 d_Gr_ways_47 rfl rfl ?_
    refine r_icmp_eq ok 54 d_Gr_ways_48 (by decide) h.1 h.2.1 (fun c => ?_) (fun c => ?_)
    · replace h := h.2.2.1 c
      refine r_iconst ok 1 d_Gr_ways_54 rfl ?_
      refine r_aload_n ok 0 d_Gr_ways_55 rfl rfl ?_
      refine g_Gr_setCount ok d_Gr_ways_56 ?_
      refine r_ishl ok d_Gr_ways_59 ?_
      refine r_iconst ok 1 d_Gr_ways_60 rfl ?_
      refine r_isub ok d_Gr_ways_61 ?_
      refine r_istore ok [(4, vI ((shl 1 (s.1 25)) - 1)), (0, .ref (F.2.1.1 9)), (1, vI x1), (2, .ref (F.2.1.1 69)), (3, vI x3)] d_Gr_ways_62 hm (by decide) rfl ?_
      exact r_sub [1, 2, 3, 4, 0] rfl h
    · replace h := h.2.2.2 c
      refine r_goto ok 98 d_Gr_ways_51 (by decide) ?_
      refine r_iinc ok 3 (x3 + 1) [(3, vI (x3 + 1)), (0, .ref (F.2.1.1 9)), (1, vI x1), (2, .ref (F.2.1.1 69))] d_Gr_ways_98 rfl rfl hm (by decide) rfl ?_
      refine r_goto ok 33 d_Gr_ways_101 (by decide) ?_
      exact r_sub [1, 2, 3, 0] rfl h
set_option maxHeartbeats 4000000 in
set_option maxRecDepth 100000 in
theorem K_Gr_ways_64 {F : FT} (hD : ∀ σ, va_D F.2.2.1 (GW F.2.1 σ)) (hm : F.2.2.2.2.2.2.2.2.2.2.2.2.2.2.1 = 5) (ok : OkF F prog_3_method_19_code "LastSeen$Graves" ({ frames := 2, cells := 0, slots := 0, locals := 49 } : Room)) {Q : Int → SS → Prop} (hQ : RetI F Q) {x1 x3 x4 : Int} {s : SS} (h : B_Gr_ways_64 Q (fun x1 x3 s => AtS F 7 [(0, .ref (F.2.1.1 9)), (1, vI x1), (2, .ref (F.2.1.1 69)), (3, vI x3)] [] s) (fun x1 x3 s => AtS F 33 [(0, .ref (F.2.1.1 9)), (1, vI x1), (2, .ref (F.2.1.1 69)), (3, vI x3)] [] s) (fun x1 x3 x4 s => AtS F 64 [(0, .ref (F.2.1.1 9)), (1, vI x1), (2, .ref (F.2.1.1 69)), (3, vI x3), (4, vI x4)] [] s) x1 x3 x4 s) : AtS F 64 [(0, .ref (F.2.1.1 9)), (1, vI x1), (2, .ref (F.2.1.1 69)), (3, vI x3), (4, vI x4)] [] s := by
  unfold B_Gr_ways_64 at h
  refine r_iload ok 4 d_Gr_ways_64 rfl ?_
  refine r_if_le ok 98 d_Gr_ways_66 (by decide) h.1 (fun c => ?_) (fun c => ?_)
  · replace h := h.2.1 c
    refine r_iinc ok 3 (x3 + 1) [(3, vI (x3 + 1)), (0, .ref (F.2.1.1 9)), (1, vI x1), (2, .ref (F.2.1.1 69)), (4, vI x4)] d_Gr_ways_98 rfl rfl hm (by decide) rfl ?_
    refine r_goto ok 33 d_Gr_ways_101 (by decide) ?_
    exact r_sub [1, 2, 3, 0] rfl h
  · replace h := h.2.2 c
    refine r_iload ok 4 d_Gr_ways_69 rfl ?_
    refine r_iload_n ok 1 d_Gr_ways_71 rfl rfl ?_
    refine r_iconst ok (-1) d_Gr_ways_72 rfl ?_
    refine r_ixor ok d_Gr_ways_73 ?_
    refine r_iand ok d_Gr_ways_74 ?_
    refine r_if_ne ok 92 d_Gr_ways_75 (by decide) h.1 (fun c => ?_) (fun c => ?_)
    · replace h := h.2.1 c
      refine r_iinc ok 4 (x4 + (-1)) [(4, vI (x4 + (-1))), (0, .ref (F.2.1.1 9)), (1, vI x1), (2, .ref (F.2.1.1 69)), (3, vI x3)] d_Gr_ways_92 rfl rfl hm (by decide) rfl ?_
      refine r_goto ok 64 d_Gr_ways_95 (by decide) ?_
      exact r_sub [1, 2, 3, 4, 0] rfl h
    · replace h := h.2.2 c
      refine r_aload_n ok 2 d_Gr_ways_78 rfl rfl ?_
      refine r_iload ok 4 d_Gr_ways_79 rfl ?_
      refine r_dup2 ok d_Gr_ways_81 rfl rfl ?_
      refine r_iald ok 58 d_Gr_ways_82 (by decide) rfl h.1 ?_
      replace h := h.2
      refine r_aload_n ok 0 d_Gr_ways_83 rfl rfl ?_
      refine r_iload ok 4 d_Gr_ways_84 rfl ?_
      refine r_iload_n ok 3 d_Gr_ways_86 rfl rfl ?_
      refine r_callVi (As := [vI x4, vI x3]) (rest := [vI (s.2 58 x4), vI x4, .ref (F.2.1.1 69)]) ok 9 rfl rfl rfl wl_Gr_87 wi_y_Gr_waysWith ws_y_Gr_waysWith wn_Gr wc_y_Gr_waysWith (by decide) (by decide) hh_Gr_waysWith (Nat.le_of_ble_eq_true rfl) rfl d_Gr_ways_87 (L_Gr_waysWith F.1 F.2.1 F.2.2.1 hD h) (fun r4 s3 h => ?_)
      refine r_iadd ok d_Gr_ways_90 ?_
      refine r_iast ok 58 d_Gr_ways_91 (by decide) rfl h.1 ?_
      replace h := h.2 _ rfl
      generalize sA s3 58 x4 ((s.2 58 x4) + r4) = s5 at h ⊢
      refine r_iinc ok 4 (x4 + (-1)) [(4, vI (x4 + (-1))), (0, .ref (F.2.1.1 9)), (1, vI x1), (2, .ref (F.2.1.1 69)), (3, vI x3)] d_Gr_ways_92 rfl rfl hm (by decide) rfl ?_
      refine r_goto ok 64 d_Gr_ways_95 (by decide) ?_
      exact r_sub [1, 2, 3, 4, 0] rfl h
set_option maxHeartbeats 4000000 in
set_option maxRecDepth 100000 in
theorem K_Gr_ways_e {F : FT} (hD : ∀ σ, va_D F.2.2.1 (GW F.2.1 σ)) (hm : F.2.2.2.2.2.2.2.2.2.2.2.2.2.2.1 = 5) (ok : OkF F prog_3_method_19_code "LastSeen$Graves" ({ frames := 2, cells := 0, slots := 0, locals := 49 } : Room)) {Q : Int → SS → Prop} (hQ : RetI F Q) {x1 : Int} {s : SS} (h : B_Gr_ways_e Q (fun x1 x3 s => AtS F 7 [(0, .ref (F.2.1.1 9)), (1, vI x1), (2, .ref (F.2.1.1 69)), (3, vI x3)] [] s) (fun x1 x3 s => AtS F 33 [(0, .ref (F.2.1.1 9)), (1, vI x1), (2, .ref (F.2.1.1 69)), (3, vI x3)] [] s) (fun x1 x3 x4 s => AtS F 64 [(0, .ref (F.2.1.1 9)), (1, vI x1), (2, .ref (F.2.1.1 69)), (3, vI x3), (4, vI x4)] [] s) x1 s) : AtS F 0 [(0, .ref (F.2.1.1 9)), (1, vI x1)] [] s := by
  unfold B_Gr_ways_e at h
  refine r_aload_n ok 0 d_Gr_ways_0 rfl rfl ?_
  refine g_Gr_perSubset ok d_Gr_ways_1 ?_
  refine r_astore_n ok [(2, .ref (F.2.1.1 69)), (0, .ref (F.2.1.1 9)), (1, vI x1)] d_Gr_ways_4 rfl hm (by decide) rfl ?_
  refine r_iconst ok 0 d_Gr_ways_5 rfl ?_
  refine r_istore_n ok [(3, vI 0), (2, .ref (F.2.1.1 69)), (0, .ref (F.2.1.1 9)), (1, vI x1)] d_Gr_ways_6 rfl hm (by decide) rfl ?_
  exact r_sub [2, 3, 1, 0] rfl h
theorem L_Gr_ways (l : Launch) (G : GE) (A : Nat → Prop) (hD : ∀ σ, va_D A (GW G σ)) {x1 : Int} {s : SS} {Q : Int → SS → Prop} (h : Sp_Gr_ways x1 s Q) : Met l y_Gr_ways (Cond.code y_Gr_ways prog_3_method_19_code 5 (some .int) :: lw_ok) ({ frames := 2, cells := 0, slots := 0, locals := 49 } : Room) (va_Pc [.ref (G.1 9), vI x1] (gB G s)) (va_Qi (fun (r : Int32) (s2 : SS) => ∃ x : Int, r = iI x ∧ Q x s2) (fun s2 t => gB G s2 t) A) 0 0 A := by
  refine met_i hD (by decide) ⟨rfl, rfl⟩ (Nat.le_of_ble_eq_true rfl) (lv := [(0, .ref (G.1 9)), (1, vI x1)]) rfl (fun F h1 h2 h3 hm ok hQ => ?_)
  subst h1 h2 h3
  have hDF := hD
  exact K_Gr_ways_e hDF hm ok hQ (h _ _ _ (fun _ _ _ hb => K_Gr_ways_7 hDF hm ok hQ hb) (fun _ _ _ hb => K_Gr_ways_33 hDF hm ok hQ hb) (fun _ _ _ _ hb => K_Gr_ways_64 hDF hm ok hQ hb))
theorem d_LS_namings_0 : decode prog_1_method_31_code 0 = .ok (.aload_n 0, 1) := by decide +kernel
theorem d_LS_namings_1 : decode prog_1_method_31_code 1 = .ok (.getfield 70, 3) := by decide +kernel
theorem d_LS_namings_4 : decode prog_1_method_31_code 4 = .ok (.iload_n 1, 1) := by decide +kernel
theorem d_LS_namings_5 : decode prog_1_method_31_code 5 = .ok (.invokevirtual 333, 3) := by decide +kernel
theorem d_LS_namings_8 : decode prog_1_method_31_code 8 = .ok (.ifCond .ne 6, 3) := by decide +kernel
theorem d_LS_namings_11 : decode prog_1_method_31_code 11 = .ok (.bipush (-2), 2) := by decide +kernel
theorem d_LS_namings_13 : decode prog_1_method_31_code 13 = .ok (.ireturn, 1) := by decide +kernel
theorem d_LS_namings_14 : decode prog_1_method_31_code 14 = .ok (.aload_n 0, 1) := by decide +kernel
theorem d_LS_namings_15 : decode prog_1_method_31_code 15 = .ok (.getfield 70, 3) := by decide +kernel
theorem d_LS_namings_18 : decode prog_1_method_31_code 18 = .ok (.aload_n 0, 1) := by decide +kernel
theorem d_LS_namings_19 : decode prog_1_method_31_code 19 = .ok (.getfield 122, 3) := by decide +kernel
theorem d_LS_namings_22 : decode prog_1_method_31_code 22 = .ok (.invokevirtual 336, 3) := by decide +kernel
theorem d_LS_namings_25 : decode prog_1_method_31_code 25 = .ok (.aload_n 0, 1) := by decide +kernel
theorem d_LS_namings_26 : decode prog_1_method_31_code 26 = .ok (.getfield 70, 3) := by decide +kernel
theorem d_LS_namings_29 : decode prog_1_method_31_code 29 = .ok (.iload_n 1, 1) := by decide +kernel
theorem d_LS_namings_30 : decode prog_1_method_31_code 30 = .ok (.invokevirtual 339, 3) := by decide +kernel
theorem d_LS_namings_33 : decode prog_1_method_31_code 33 = .ok (.ireturn, 1) := by decide +kernel
set_option maxHeartbeats 4000000 in
set_option maxRecDepth 100000 in
theorem K_LS_namings_e {F : FT} (hD : ∀ σ, va_D F.2.2.1 (GW F.2.1 σ)) (hm : F.2.2.2.2.2.2.2.2.2.2.2.2.2.2.1 = 2) (ok : OkF F prog_1_method_31_code "LastSeen" ({ frames := 4, cells := 0, slots := 0, locals := 90 } : Room)) {Q : Int → SS → Prop} (hQ : RetI F Q) {x1 : Int} {s : SS} (h : Sp_LS_namings x1 s Q) : AtS F 0 [(0, .ref (F.2.1.1 0)), (1, vI x1)] [] s := by
  unfold Sp_LS_namings at h
  refine r_aload_n ok 0 d_LS_namings_0 rfl rfl ?_
  refine g_LS_graves ok d_LS_namings_1 ?_
  refine r_iload_n ok 1 d_LS_namings_4 rfl rfl ?_
  refine r_callVi (As := [vI x1]) (rest := []) ok 9 rfl rfl rfl wl_LS_333 wi_y_Gr_areSets ws_y_Gr_areSets wn_Gr wc_y_Gr_areSets (by decide) (by decide) hh_Gr_areSets (Nat.le_of_ble_eq_true rfl) rfl d_LS_namings_5 (L_Gr_areSets F.1 F.2.1 F.2.2.1 hD h) (fun r2 s1 h => ?_)
  refine r_if_ne ok 14 d_LS_namings_8 (by decide) h.1 (fun c => ?_) (fun c => ?_)
  · replace h := h.2.1 c
    refine r_aload_n ok 0 d_LS_namings_14 rfl rfl ?_
    refine g_LS_graves ok d_LS_namings_15 ?_
    refine r_aload_n ok 0 d_LS_namings_18 rfl rfl ?_
    refine g_LS_entries ok d_LS_namings_19 ?_
    refine r_callVv (As := [vI (s1.1 1)]) (rest := []) ok 9 rfl rfl rfl wl_LS_336 wi_y_Gr_readChoices ws_y_Gr_readChoices wn_Gr wc_y_Gr_readChoices (by decide) (by decide) hh_Gr_readChoices (Nat.le_of_ble_eq_true rfl) rfl d_LS_namings_22 (L_Gr_readChoices F.1 F.2.1 F.2.2.1 hD h) (fun s3 h => ?_)
    refine r_aload_n ok 0 d_LS_namings_25 rfl rfl ?_
    refine g_LS_graves ok d_LS_namings_26 ?_
    refine r_iload_n ok 1 d_LS_namings_29 rfl rfl ?_
    refine r_callVi (As := [vI x1]) (rest := []) ok 9 rfl rfl rfl wl_LS_339 wi_y_Gr_ways ws_y_Gr_ways wn_Gr wc_y_Gr_ways (by decide) (by decide) hh_Gr_ways (Nat.le_of_ble_eq_true rfl) rfl d_LS_namings_30 (L_Gr_ways F.1 F.2.1 F.2.2.1 hD h) (fun r5 s4 h => ?_)
    exact hQ _ _ _ _ _ (ok_code ok) d_LS_namings_33 h
  · replace h := h.2.2 c
    refine r_bipush ok (-2) d_LS_namings_11 (by decide) ?_
    exact hQ _ _ _ _ _ (ok_code ok) d_LS_namings_13 h
theorem L_LS_namings (l : Launch) (G : GE) (A : Nat → Prop) (hD : ∀ σ, va_D A (GW G σ)) {x1 : Int} {s : SS} {Q : Int → SS → Prop} (h : Sp_LS_namings x1 s Q) : Met l y_LS_namings (Cond.code y_LS_namings prog_1_method_31_code 2 (some .int) :: lw_ok) ({ frames := 4, cells := 0, slots := 0, locals := 90 } : Room) (va_Pc [.ref (G.1 0), vI x1] (gB G s)) (va_Qi (fun (r : Int32) (s2 : SS) => ∃ x : Int, r = iI x ∧ Q x s2) (fun s2 t => gB G s2 t) A) 0 0 A := by
  refine met_i hD (by decide) ⟨rfl, rfl⟩ (Nat.le_of_ble_eq_true rfl) (lv := [(0, .ref (G.1 0)), (1, vI x1)]) rfl (fun F h1 h2 h3 hm ok hQ => ?_)
  subst h1 h2 h3
  have hDF := hD
  exact K_LS_namings_e hDF hm ok hQ h
theorem d_Gr_personsFor_0 : decode prog_3_method_24_code 0 = .ok (.iconst 0, 1) := by decide +kernel
theorem d_Gr_personsFor_1 : decode prog_3_method_24_code 1 = .ok (.istore_n 2, 1) := by decide +kernel
theorem d_Gr_personsFor_2 : decode prog_3_method_24_code 2 = .ok (.iconst 0, 1) := by decide +kernel
theorem d_Gr_personsFor_3 : decode prog_3_method_24_code 3 = .ok (.istore_n 3, 1) := by decide +kernel
theorem d_Gr_personsFor_4 : decode prog_3_method_24_code 4 = .ok (.iload_n 3, 1) := by decide +kernel
theorem d_Gr_personsFor_5 : decode prog_3_method_24_code 5 = .ok (.aload_n 0, 1) := by decide +kernel
theorem d_Gr_personsFor_6 : decode prog_3_method_24_code 6 = .ok (.getfield 60, 3) := by decide +kernel
theorem d_Gr_personsFor_9 : decode prog_3_method_24_code 9 = .ok (.if_icmp .ge 34, 3) := by decide +kernel
theorem d_Gr_personsFor_12 : decode prog_3_method_24_code 12 = .ok (.aload_n 0, 1) := by decide +kernel
theorem d_Gr_personsFor_13 : decode prog_3_method_24_code 13 = .ok (.getfield 46, 3) := by decide +kernel
theorem d_Gr_personsFor_16 : decode prog_3_method_24_code 16 = .ok (.iload_n 1, 1) := by decide +kernel
theorem d_Gr_personsFor_17 : decode prog_3_method_24_code 17 = .ok (.iaload, 1) := by decide +kernel
theorem d_Gr_personsFor_18 : decode prog_3_method_24_code 18 = .ok (.iload_n 3, 1) := by decide +kernel
theorem d_Gr_personsFor_19 : decode prog_3_method_24_code 19 = .ok (.ishr, 1) := by decide +kernel
theorem d_Gr_personsFor_20 : decode prog_3_method_24_code 20 = .ok (.iconst 1, 1) := by decide +kernel
theorem d_Gr_personsFor_21 : decode prog_3_method_24_code 21 = .ok (.iand, 1) := by decide +kernel
theorem d_Gr_personsFor_22 : decode prog_3_method_24_code 22 = .ok (.iconst 1, 1) := by decide +kernel
theorem d_Gr_personsFor_23 : decode prog_3_method_24_code 23 = .ok (.if_icmp .ne 14, 3) := by decide +kernel
theorem d_Gr_personsFor_26 : decode prog_3_method_24_code 26 = .ok (.iload_n 2, 1) := by decide +kernel
theorem d_Gr_personsFor_27 : decode prog_3_method_24_code 27 = .ok (.iconst 1, 1) := by decide +kernel
theorem d_Gr_personsFor_28 : decode prog_3_method_24_code 28 = .ok (.aload_n 0, 1) := by decide +kernel
theorem d_Gr_personsFor_29 : decode prog_3_method_24_code 29 = .ok (.getfield 43, 3) := by decide +kernel
theorem d_Gr_personsFor_32 : decode prog_3_method_24_code 32 = .ok (.iload_n 3, 1) := by decide +kernel
theorem d_Gr_personsFor_33 : decode prog_3_method_24_code 33 = .ok (.iaload, 1) := by decide +kernel
theorem d_Gr_personsFor_34 : decode prog_3_method_24_code 34 = .ok (.ishl, 1) := by decide +kernel
theorem d_Gr_personsFor_35 : decode prog_3_method_24_code 35 = .ok (.ior, 1) := by decide +kernel
theorem d_Gr_personsFor_36 : decode prog_3_method_24_code 36 = .ok (.istore_n 2, 1) := by decide +kernel
theorem d_Gr_personsFor_37 : decode prog_3_method_24_code 37 = .ok (.iinc 3 1, 3) := by decide +kernel
theorem d_Gr_personsFor_40 : decode prog_3_method_24_code 40 = .ok (.goto (-36), 3) := by decide +kernel
theorem d_Gr_personsFor_43 : decode prog_3_method_24_code 43 = .ok (.iload_n 2, 1) := by decide +kernel
theorem d_Gr_personsFor_44 : decode prog_3_method_24_code 44 = .ok (.ireturn, 1) := by decide +kernel
set_option maxHeartbeats 4000000 in
set_option maxRecDepth 100000 in
theorem K_Gr_personsFor_4 {F : FT} (hD : ∀ σ, va_D F.2.2.1 (GW F.2.1 σ)) (hm : F.2.2.2.2.2.2.2.2.2.2.2.2.2.2.1 = 4) (ok : OkF F prog_3_method_24_code "LastSeen$Graves" ({ frames := 0, cells := 0, slots := 0, locals := 0 } : Room)) {Q : Int → SS → Prop} (hQ : RetI F Q) {x1 x2 x3 : Int} {s : SS} (h : B_Gr_personsFor_4 Q (fun x1 x2 x3 s => AtS F 4 [(0, .ref (F.2.1.1 9)), (1, vI x1), (2, vI x2), (3, vI x3)] [] s) x1 x2 x3 s) : AtS F 4 [(0, .ref (F.2.1.1 9)), (1, vI x1), (2, vI x2), (3, vI x3)] [] s := by
  unfold B_Gr_personsFor_4 at h
  refine r_iload_n ok 3 d_Gr_personsFor_4 rfl rfl ?_
  refine r_aload_n ok 0 d_Gr_personsFor_5 rfl rfl ?_
  refine g_Gr_lostCount ok d_Gr_personsFor_6 ?_
  refine r_icmp_ge ok 43 d_Gr_personsFor_9 (by decide) h.1 h.2.1 (fun c => ?_) (fun c => ?_)
  · replace h := h.2.2.1 c
    refine r_iload_n ok 2 d_Gr_personsFor_43 rfl rfl ?_
    exact hQ _ _ _ _ _ (ok_code ok) d_Gr_personsFor_44 h
  · replace h := h.2.2.2 c
    refine r_aload_n ok 0 d_Gr_personsFor_12 rfl rfl ?_
    refine g_Gr_choices ok d_Gr_personsFor_13 ?_
    refine r_iload_n ok 1 d_Gr_personsFor_16 rfl rfl ?_
    refine r_iald ok 57 d_Gr_personsFor_17 (by decide) rfl h.1 ?_
    replace h := h.2
    refine r_iload_n ok 3 d_Gr_personsFor_18 rfl rfl ?_
    refine r_ishr ok d_Gr_personsFor_19 ?_
    refine r_iconst ok 1 d_Gr_personsFor_20 rfl ?_
    refine r_iand ok d_Gr_personsFor_21 ?_
    refine r_iconst ok 1 d_Gr_personsFor_22 rfl ?_
    refine r_icmp_ne ok 37 d_Gr_personsFor_23 (by decide) h.1 (by decide) (fun c => ?_) (fun c => ?_)
    · replace h := h.2.1 c
      refine r_iinc ok 3 (x3 + 1) [(3, vI (x3 + 1)), (0, .ref (F.2.1.1 9)), (1, vI x1), (2, vI x2)] d_Gr_personsFor_37 rfl rfl hm (by decide) rfl ?_
      refine r_goto ok 4 d_Gr_personsFor_40 (by decide) ?_
      exact r_sub [1, 2, 3, 0] rfl h
    · replace h := h.2.2 c
      refine r_iload_n ok 2 d_Gr_personsFor_26 rfl rfl ?_
      refine r_iconst ok 1 d_Gr_personsFor_27 rfl ?_
      refine r_aload_n ok 0 d_Gr_personsFor_28 rfl rfl ?_
      refine g_Gr_same ok d_Gr_personsFor_29 ?_
      refine r_iload_n ok 3 d_Gr_personsFor_32 rfl rfl ?_
      refine r_iald ok 56 d_Gr_personsFor_33 (by decide) rfl h.1 ?_
      replace h := h.2
      refine r_ishl ok d_Gr_personsFor_34 ?_
      refine r_ior ok d_Gr_personsFor_35 ?_
      refine r_istore_n ok [(2, vI (bor x2 (shl 1 (s.2 56 x3)))), (0, .ref (F.2.1.1 9)), (1, vI x1), (3, vI x3)] d_Gr_personsFor_36 rfl hm (by decide) rfl ?_
      refine r_iinc ok 3 (x3 + 1) [(3, vI (x3 + 1)), (2, vI (bor x2 (shl 1 (s.2 56 x3)))), (0, .ref (F.2.1.1 9)), (1, vI x1)] d_Gr_personsFor_37 rfl rfl hm (by decide) rfl ?_
      refine r_goto ok 4 d_Gr_personsFor_40 (by decide) ?_
      exact r_sub [2, 3, 1, 0] rfl h
set_option maxHeartbeats 4000000 in
set_option maxRecDepth 100000 in
theorem K_Gr_personsFor_e {F : FT} (hD : ∀ σ, va_D F.2.2.1 (GW F.2.1 σ)) (hm : F.2.2.2.2.2.2.2.2.2.2.2.2.2.2.1 = 4) (ok : OkF F prog_3_method_24_code "LastSeen$Graves" ({ frames := 0, cells := 0, slots := 0, locals := 0 } : Room)) {Q : Int → SS → Prop} (hQ : RetI F Q) {x1 : Int} {s : SS} (h : B_Gr_personsFor_e Q (fun x1 x2 x3 s => AtS F 4 [(0, .ref (F.2.1.1 9)), (1, vI x1), (2, vI x2), (3, vI x3)] [] s) x1 s) : AtS F 0 [(0, .ref (F.2.1.1 9)), (1, vI x1)] [] s := by
  unfold B_Gr_personsFor_e at h
  refine r_iconst ok 0 d_Gr_personsFor_0 rfl ?_
  refine r_istore_n ok [(2, vI 0), (0, .ref (F.2.1.1 9)), (1, vI x1)] d_Gr_personsFor_1 rfl hm (by decide) rfl ?_
  refine r_iconst ok 0 d_Gr_personsFor_2 rfl ?_
  refine r_istore_n ok [(3, vI 0), (2, vI 0), (0, .ref (F.2.1.1 9)), (1, vI x1)] d_Gr_personsFor_3 rfl hm (by decide) rfl ?_
  exact r_sub [2, 3, 1, 0] rfl h
theorem L_Gr_personsFor (l : Launch) (G : GE) (A : Nat → Prop) (hD : ∀ σ, va_D A (GW G σ)) {x1 : Int} {s : SS} {Q : Int → SS → Prop} (h : Sp_Gr_personsFor x1 s Q) : Met l y_Gr_personsFor (Cond.code y_Gr_personsFor prog_3_method_24_code 4 (some .int) :: lw_ok) ({ frames := 0, cells := 0, slots := 0, locals := 0 } : Room) (va_Pc [.ref (G.1 9), vI x1] (gB G s)) (va_Qi (fun (r : Int32) (s2 : SS) => ∃ x : Int, r = iI x ∧ Q x s2) (fun s2 t => gB G s2 t) A) 0 0 A := by
  refine met_i hD (by decide) ⟨rfl, rfl⟩ (Nat.le_of_ble_eq_true rfl) (lv := [(0, .ref (G.1 9)), (1, vI x1)]) rfl (fun F h1 h2 h3 hm ok hQ => ?_)
  subst h1 h2 h3
  have hDF := hD
  exact K_Gr_personsFor_e hDF hm ok hQ (h _ (fun _ _ _ _ hb => K_Gr_personsFor_4 hDF hm ok hQ hb))
theorem d_Gr_readHeirs_0 : decode prog_3_method_23_code 0 = .ok (.aload_n 0, 1) := by decide +kernel
theorem d_Gr_readHeirs_1 : decode prog_3_method_23_code 1 = .ok (.getfield 49, 3) := by decide +kernel
theorem d_Gr_readHeirs_4 : decode prog_3_method_23_code 4 = .ok (.iconst 0, 1) := by decide +kernel
theorem d_Gr_readHeirs_5 : decode prog_3_method_23_code 5 = .ok (.iconst 0, 1) := by decide +kernel
theorem d_Gr_readHeirs_6 : decode prog_3_method_23_code 6 = .ok (.iastore, 1) := by decide +kernel
theorem d_Gr_readHeirs_7 : decode prog_3_method_23_code 7 = .ok (.iconst 0, 1) := by decide +kernel
theorem d_Gr_readHeirs_8 : decode prog_3_method_23_code 8 = .ok (.istore_n 1, 1) := by decide +kernel
theorem d_Gr_readHeirs_9 : decode prog_3_method_23_code 9 = .ok (.iload_n 1, 1) := by decide +kernel
theorem d_Gr_readHeirs_10 : decode prog_3_method_23_code 10 = .ok (.aload_n 0, 1) := by decide +kernel
theorem d_Gr_readHeirs_11 : decode prog_3_method_23_code 11 = .ok (.getfield 56, 3) := by decide +kernel
theorem d_Gr_readHeirs_14 : decode prog_3_method_23_code 14 = .ok (.if_icmp .ge 48, 3) := by decide +kernel
theorem d_Gr_readHeirs_17 : decode prog_3_method_23_code 17 = .ok (.aload_n 0, 1) := by decide +kernel
theorem d_Gr_readHeirs_18 : decode prog_3_method_23_code 18 = .ok (.iload_n 1, 1) := by decide +kernel
theorem d_Gr_readHeirs_19 : decode prog_3_method_23_code 19 = .ok (.invokevirtual 108, 3) := by decide +kernel
theorem d_Gr_readHeirs_22 : decode prog_3_method_23_code 22 = .ok (.istore_n 2, 1) := by decide +kernel
theorem d_Gr_readHeirs_23 : decode prog_3_method_23_code 23 = .ok (.iconst 0, 1) := by decide +kernel
theorem d_Gr_readHeirs_24 : decode prog_3_method_23_code 24 = .ok (.istore_n 3, 1) := by decide +kernel
theorem d_Gr_readHeirs_25 : decode prog_3_method_23_code 25 = .ok (.iload_n 3, 1) := by decide +kernel
theorem d_Gr_readHeirs_26 : decode prog_3_method_23_code 26 = .ok (.iconst 1, 1) := by decide +kernel
theorem d_Gr_readHeirs_27 : decode prog_3_method_23_code 27 = .ok (.iload_n 1, 1) := by decide +kernel
theorem d_Gr_readHeirs_28 : decode prog_3_method_23_code 28 = .ok (.ishl, 1) := by decide +kernel
theorem d_Gr_readHeirs_29 : decode prog_3_method_23_code 29 = .ok (.if_icmp .ge 27, 3) := by decide +kernel
theorem d_Gr_readHeirs_32 : decode prog_3_method_23_code 32 = .ok (.aload_n 0, 1) := by decide +kernel
theorem d_Gr_readHeirs_33 : decode prog_3_method_23_code 33 = .ok (.getfield 49, 3) := by decide +kernel
theorem d_Gr_readHeirs_36 : decode prog_3_method_23_code 36 = .ok (.iconst 1, 1) := by decide +kernel
theorem d_Gr_readHeirs_37 : decode prog_3_method_23_code 37 = .ok (.iload_n 1, 1) := by decide +kernel
theorem d_Gr_readHeirs_38 : decode prog_3_method_23_code 38 = .ok (.ishl, 1) := by decide +kernel
theorem d_Gr_readHeirs_39 : decode prog_3_method_23_code 39 = .ok (.iload_n 3, 1) := by decide +kernel
theorem d_Gr_readHeirs_40 : decode prog_3_method_23_code 40 = .ok (.ior, 1) := by decide +kernel
theorem d_Gr_readHeirs_41 : decode prog_3_method_23_code 41 = .ok (.aload_n 0, 1) := by decide +kernel
theorem d_Gr_readHeirs_42 : decode prog_3_method_23_code 42 = .ok (.getfield 49, 3) := by decide +kernel
theorem d_Gr_readHeirs_45 : decode prog_3_method_23_code 45 = .ok (.iload_n 3, 1) := by decide +kernel
theorem d_Gr_readHeirs_46 : decode prog_3_method_23_code 46 = .ok (.iaload, 1) := by decide +kernel
theorem d_Gr_readHeirs_47 : decode prog_3_method_23_code 47 = .ok (.iload_n 2, 1) := by decide +kernel
theorem d_Gr_readHeirs_48 : decode prog_3_method_23_code 48 = .ok (.ior, 1) := by decide +kernel
theorem d_Gr_readHeirs_49 : decode prog_3_method_23_code 49 = .ok (.iastore, 1) := by decide +kernel
theorem d_Gr_readHeirs_50 : decode prog_3_method_23_code 50 = .ok (.iinc 3 1, 3) := by decide +kernel
theorem d_Gr_readHeirs_53 : decode prog_3_method_23_code 53 = .ok (.goto (-28), 3) := by decide +kernel
theorem d_Gr_readHeirs_56 : decode prog_3_method_23_code 56 = .ok (.iinc 1 1, 3) := by decide +kernel
theorem d_Gr_readHeirs_59 : decode prog_3_method_23_code 59 = .ok (.goto (-50), 3) := by decide +kernel
theorem d_Gr_readHeirs_62 : decode prog_3_method_23_code 62 = .ok (.return_, 1) := by decide +kernel
set_option maxHeartbeats 4000000 in
set_option maxRecDepth 100000 in
theorem K_Gr_readHeirs_9 {F : FT} (hD : ∀ σ, va_D F.2.2.1 (GW F.2.1 σ)) (hm : F.2.2.2.2.2.2.2.2.2.2.2.2.2.2.1 = 4) (ok : OkF F prog_3_method_23_code "LastSeen$Graves" ({ frames := 1, cells := 0, slots := 0, locals := 23 } : Room)) {Q : SS → Prop} (hQ : RetV F Q) {x1 : Int} {s : SS} (h : B_Gr_readHeirs_9 Q (fun x1 s => AtS F 9 [(0, .ref (F.2.1.1 9)), (1, vI x1)] [] s) (fun x1 x2 x3 s => AtS F 25 [(0, .ref (F.2.1.1 9)), (1, vI x1), (2, vI x2), (3, vI x3)] [] s) x1 s) : AtS F 9 [(0, .ref (F.2.1.1 9)), (1, vI x1)] [] s := by
  unfold B_Gr_readHeirs_9 at h
  refine r_iload_n ok 1 d_Gr_readHeirs_9 rfl rfl ?_
  refine r_aload_n ok 0 d_Gr_readHeirs_10 rfl rfl ?_
  refine g_Gr_setCount ok d_Gr_readHeirs_11 ?_
  refine r_icmp_ge ok 62 d_Gr_readHeirs_14 (by decide) h.1 h.2.1 (fun c => ?_) (fun c => ?_)
  · replace h := h.2.2.1 c
    exact hQ _ _ _ _ (ok_code ok) d_Gr_readHeirs_62 h
  · replace h := h.2.2.2 c
    refine r_aload_n ok 0 d_Gr_readHeirs_17 rfl rfl ?_
    refine r_iload_n ok 1 d_Gr_readHeirs_18 rfl rfl ?_
    refine r_callVi (As := [vI x1]) (rest := []) ok 9 rfl rfl rfl wl_Gr_108 wi_y_Gr_personsFor ws_y_Gr_personsFor wn_Gr wc_y_Gr_personsFor (by decide) (by decide) hh_Gr_personsFor (Nat.le_of_ble_eq_true rfl) rfl d_Gr_readHeirs_19 (L_Gr_personsFor F.1 F.2.1 F.2.2.1 hD h) (fun r3 s2 h => ?_)
    refine r_istore_n ok [(2, vI r3), (0, .ref (F.2.1.1 9)), (1, vI x1)] d_Gr_readHeirs_22 rfl hm (by decide) rfl ?_
    refine r_iconst ok 0 d_Gr_readHeirs_23 rfl ?_
    refine r_istore_n ok [(3, vI 0), (2, vI r3), (0, .ref (F.2.1.1 9)), (1, vI x1)] d_Gr_readHeirs_24 rfl hm (by decide) rfl ?_
    exact r_sub [2, 3, 1, 0] rfl h
set_option maxHeartbeats 4000000 in
set_option maxRecDepth 100000 in
theorem K_Gr_readHeirs_25 {F : FT} (hD : ∀ σ, va_D F.2.2.1 (GW F.2.1 σ)) (hm : F.2.2.2.2.2.2.2.2.2.2.2.2.2.2.1 = 4) (ok : OkF F prog_3_method_23_code "LastSeen$Graves" ({ frames := 1, cells := 0, slots := 0, locals := 23 } : Room)) {Q : SS → Prop} (hQ : RetV F Q) {x1 x2 x3 : Int} {s : SS} (h : B_Gr_readHeirs_25 Q (fun x1 s => AtS F 9 [(0, .ref (F.2.1.1 9)), (1, vI x1)] [] s) (fun x1 x2 x3 s => AtS F 25 [(0, .ref (F.2.1.1 9)), (1, vI x1), (2, vI x2), (3, vI x3)] [] s) x1 x2 x3 s) : AtS F 25 [(0, .ref (F.2.1.1 9)), (1, vI x1), (2, vI x2), (3, vI x3)] [] s := by
  unfold B_Gr_readHeirs_25 at h
  refine r_iload_n ok 3 d_Gr_readHeirs_25 rfl rfl ?_
  refine r_iconst ok 1 d_Gr_readHeirs_26 rfl ?_
  refine r_iload_n ok 1 d_Gr_readHeirs_27 rfl rfl ?_
  refine r_ishl ok d_Gr_readHeirs_28 ?_
  refine r_icmp_ge ok 56 d_Gr_readHeirs_29 (by decide) h.1 h.2.1 (fun c => ?_) (fun c => ?_)
  · replace h := h.2.2.1 c
    refine r_iinc ok 1 (x1 + 1) [(1, vI (x1 + 1)), (0, .ref (F.2.1.1 9)), (2, vI x2), (3, vI x3)] d_Gr_readHeirs_56 rfl rfl hm (by decide) rfl ?_
    refine r_goto ok 9 d_Gr_readHeirs_59 (by decide) ?_
    exact r_sub [1, 0] rfl h
  · replace h := h.2.2.2 c
    refine r_aload_n ok 0 d_Gr_readHeirs_32 rfl rfl ?_
    refine g_Gr_perSubset ok d_Gr_readHeirs_33 ?_
    refine r_iconst ok 1 d_Gr_readHeirs_36 rfl ?_
    refine r_iload_n ok 1 d_Gr_readHeirs_37 rfl rfl ?_
    refine r_ishl ok d_Gr_readHeirs_38 ?_
    refine r_iload_n ok 3 d_Gr_readHeirs_39 rfl rfl ?_
    refine r_ior ok d_Gr_readHeirs_40 ?_
    refine r_aload_n ok 0 d_Gr_readHeirs_41 rfl rfl ?_
    refine g_Gr_perSubset ok d_Gr_readHeirs_42 ?_
    refine r_iload_n ok 3 d_Gr_readHeirs_45 rfl rfl ?_
    refine r_iald ok 58 d_Gr_readHeirs_46 (by decide) rfl h.1 ?_
    replace h := h.2
    refine r_iload_n ok 2 d_Gr_readHeirs_47 rfl rfl ?_
    refine r_ior ok d_Gr_readHeirs_48 ?_
    refine r_iast ok 58 d_Gr_readHeirs_49 (by decide) rfl h.1 ?_
    replace h := h.2 _ rfl
    generalize sA s 58 (bor (shl 1 x1) x3) (bor (s.2 58 x3) x2) = s4 at h ⊢
    refine r_iinc ok 3 (x3 + 1) [(3, vI (x3 + 1)), (0, .ref (F.2.1.1 9)), (1, vI x1), (2, vI x2)] d_Gr_readHeirs_50 rfl rfl hm (by decide) rfl ?_
    refine r_goto ok 25 d_Gr_readHeirs_53 (by decide) ?_
    exact r_sub [1, 2, 3, 0] rfl h
set_option maxHeartbeats 4000000 in
set_option maxRecDepth 100000 in
theorem K_Gr_readHeirs_e {F : FT} (hD : ∀ σ, va_D F.2.2.1 (GW F.2.1 σ)) (hm : F.2.2.2.2.2.2.2.2.2.2.2.2.2.2.1 = 4) (ok : OkF F prog_3_method_23_code "LastSeen$Graves" ({ frames := 1, cells := 0, slots := 0, locals := 23 } : Room)) {Q : SS → Prop} (hQ : RetV F Q) {s : SS} (h : B_Gr_readHeirs_e Q (fun x1 s => AtS F 9 [(0, .ref (F.2.1.1 9)), (1, vI x1)] [] s) (fun x1 x2 x3 s => AtS F 25 [(0, .ref (F.2.1.1 9)), (1, vI x1), (2, vI x2), (3, vI x3)] [] s)  s) : AtS F 0 [(0, .ref (F.2.1.1 9))] [] s := by
  unfold B_Gr_readHeirs_e at h
  refine r_aload_n ok 0 d_Gr_readHeirs_0 rfl rfl ?_
  refine g_Gr_perSubset ok d_Gr_readHeirs_1 ?_
  refine r_iconst ok 0 d_Gr_readHeirs_4 rfl ?_
  refine r_iconst ok 0 d_Gr_readHeirs_5 rfl ?_
  refine r_iast ok 58 d_Gr_readHeirs_6 (by decide) rfl (by decide) ?_
  replace h := h _ rfl
  generalize sA s 58 0 0 = s1 at h ⊢
  refine r_iconst ok 0 d_Gr_readHeirs_7 rfl ?_
  refine r_istore_n ok [(1, vI 0), (0, .ref (F.2.1.1 9))] d_Gr_readHeirs_8 rfl hm (by decide) rfl ?_
  exact r_sub [1, 0] rfl h
theorem L_Gr_readHeirs (l : Launch) (G : GE) (A : Nat → Prop) (hD : ∀ σ, va_D A (GW G σ)) {s : SS} {Q : SS → Prop} (h : Sp_Gr_readHeirs  s Q) : Met l y_Gr_readHeirs (Cond.code y_Gr_readHeirs prog_3_method_23_code 4 (none) :: lw_ok) ({ frames := 1, cells := 0, slots := 0, locals := 23 } : Room) (va_Pc [.ref (G.1 9)] (gB G s)) (va_Qv (fun (s2 : SS) => Q s2) (fun s2 t => gB G s2 t) A) 0 0 A := by
  refine met_v hD (by decide) ⟨rfl, rfl⟩ (Nat.le_of_ble_eq_true rfl) (lv := [(0, .ref (G.1 9))]) rfl (fun F h1 h2 h3 hm ok hQ => ?_)
  subst h1 h2 h3
  have hDF := hD
  exact K_Gr_readHeirs_e hDF hm ok hQ (h _ _ (fun _ _ hb => K_Gr_readHeirs_9 hDF hm ok hQ hb) (fun _ _ _ _ hb => K_Gr_readHeirs_25 hDF hm ok hQ hb))
theorem d_Gr_shortage_0 : decode prog_3_method_22_code 0 = .ok (.aload_n 0, 1) := by decide +kernel
theorem d_Gr_shortage_1 : decode prog_3_method_22_code 1 = .ok (.invokevirtual 100, 3) := by decide +kernel
theorem d_Gr_shortage_4 : decode prog_3_method_22_code 4 = .ok (.iconst 0, 1) := by decide +kernel
theorem d_Gr_shortage_5 : decode prog_3_method_22_code 5 = .ok (.istore_n 3, 1) := by decide +kernel
theorem d_Gr_shortage_6 : decode prog_3_method_22_code 6 = .ok (.iconst 1, 1) := by decide +kernel
theorem d_Gr_shortage_7 : decode prog_3_method_22_code 7 = .ok (.istore 4, 2) := by decide +kernel
theorem d_Gr_shortage_9 : decode prog_3_method_22_code 9 = .ok (.iload 4, 2) := by decide +kernel
theorem d_Gr_shortage_11 : decode prog_3_method_22_code 11 = .ok (.iconst 1, 1) := by decide +kernel
theorem d_Gr_shortage_12 : decode prog_3_method_22_code 12 = .ok (.aload_n 0, 1) := by decide +kernel
theorem d_Gr_shortage_13 : decode prog_3_method_22_code 13 = .ok (.getfield 56, 3) := by decide +kernel
theorem d_Gr_shortage_16 : decode prog_3_method_22_code 16 = .ok (.ishl, 1) := by decide +kernel
theorem d_Gr_shortage_17 : decode prog_3_method_22_code 17 = .ok (.if_icmp .ge 75, 3) := by decide +kernel
theorem d_Gr_shortage_20 : decode prog_3_method_22_code 20 = .ok (.iload 4, 2) := by decide +kernel
theorem d_Gr_shortage_22 : decode prog_3_method_22_code 22 = .ok (.iload_n 1, 1) := by decide +kernel
theorem d_Gr_shortage_23 : decode prog_3_method_22_code 23 = .ok (.iconst (-1), 1) := by decide +kernel
theorem d_Gr_shortage_24 : decode prog_3_method_22_code 24 = .ok (.ixor, 1) := by decide +kernel
theorem d_Gr_shortage_25 : decode prog_3_method_22_code 25 = .ok (.iand, 1) := by decide +kernel
theorem d_Gr_shortage_26 : decode prog_3_method_22_code 26 = .ok (.ifCond .eq 6, 3) := by decide +kernel
theorem d_Gr_shortage_29 : decode prog_3_method_22_code 29 = .ok (.goto 57, 3) := by decide +kernel
theorem d_Gr_shortage_32 : decode prog_3_method_22_code 32 = .ok (.iload 4, 2) := by decide +kernel
theorem d_Gr_shortage_34 : decode prog_3_method_22_code 34 = .ok (.invokestatic 103, 3) := by decide +kernel
theorem d_Gr_shortage_37 : decode prog_3_method_22_code 37 = .ok (.istore 5, 2) := by decide +kernel
theorem d_Gr_shortage_39 : decode prog_3_method_22_code 39 = .ok (.aload_n 0, 1) := by decide +kernel
theorem d_Gr_shortage_40 : decode prog_3_method_22_code 40 = .ok (.getfield 49, 3) := by decide +kernel
theorem d_Gr_shortage_43 : decode prog_3_method_22_code 43 = .ok (.iload 4, 2) := by decide +kernel
theorem d_Gr_shortage_45 : decode prog_3_method_22_code 45 = .ok (.iaload, 1) := by decide +kernel
theorem d_Gr_shortage_46 : decode prog_3_method_22_code 46 = .ok (.iload_n 2, 1) := by decide +kernel
theorem d_Gr_shortage_47 : decode prog_3_method_22_code 47 = .ok (.iconst (-1), 1) := by decide +kernel
theorem d_Gr_shortage_48 : decode prog_3_method_22_code 48 = .ok (.ixor, 1) := by decide +kernel
theorem d_Gr_shortage_49 : decode prog_3_method_22_code 49 = .ok (.iand, 1) := by decide +kernel
theorem d_Gr_shortage_50 : decode prog_3_method_22_code 50 = .ok (.invokestatic 103, 3) := by decide +kernel
theorem d_Gr_shortage_53 : decode prog_3_method_22_code 53 = .ok (.iload 5, 2) := by decide +kernel
theorem d_Gr_shortage_55 : decode prog_3_method_22_code 55 = .ok (.if_icmp .ge 7, 3) := by decide +kernel
theorem d_Gr_shortage_58 : decode prog_3_method_22_code 58 = .ok (.iconst 1, 1) := by decide +kernel
theorem d_Gr_shortage_59 : decode prog_3_method_22_code 59 = .ok (.goto 4, 3) := by decide +kernel
theorem d_Gr_shortage_62 : decode prog_3_method_22_code 62 = .ok (.iconst 0, 1) := by decide +kernel
theorem d_Gr_shortage_63 : decode prog_3_method_22_code 63 = .ok (.istore 6, 2) := by decide +kernel
theorem d_Gr_shortage_65 : decode prog_3_method_22_code 65 = .ok (.iload 6, 2) := by decide +kernel
theorem d_Gr_shortage_67 : decode prog_3_method_22_code 67 = .ok (.ifCond .eq 19, 3) := by decide +kernel
theorem d_Gr_shortage_70 : decode prog_3_method_22_code 70 = .ok (.iload_n 3, 1) := by decide +kernel
theorem d_Gr_shortage_71 : decode prog_3_method_22_code 71 = .ok (.ifCond .eq 12, 3) := by decide +kernel
theorem d_Gr_shortage_74 : decode prog_3_method_22_code 74 = .ok (.iload 5, 2) := by decide +kernel
theorem d_Gr_shortage_76 : decode prog_3_method_22_code 76 = .ok (.iload_n 3, 1) := by decide +kernel
theorem d_Gr_shortage_77 : decode prog_3_method_22_code 77 = .ok (.invokestatic 103, 3) := by decide +kernel
theorem d_Gr_shortage_80 : decode prog_3_method_22_code 80 = .ok (.if_icmp .ge 6, 3) := by decide +kernel
theorem d_Gr_shortage_83 : decode prog_3_method_22_code 83 = .ok (.iload 4, 2) := by decide +kernel
theorem d_Gr_shortage_85 : decode prog_3_method_22_code 85 = .ok (.istore_n 3, 1) := by decide +kernel
theorem d_Gr_shortage_86 : decode prog_3_method_22_code 86 = .ok (.iinc 4 1, 3) := by decide +kernel
theorem d_Gr_shortage_89 : decode prog_3_method_22_code 89 = .ok (.goto (-80), 3) := by decide +kernel
theorem d_Gr_shortage_92 : decode prog_3_method_22_code 92 = .ok (.iload_n 3, 1) := by decide +kernel
theorem d_Gr_shortage_93 : decode prog_3_method_22_code 93 = .ok (.ireturn, 1) := by decide +kernel
set_option maxHeartbeats 4000000 in
set_option maxRecDepth 100000 in
theorem K_Gr_shortage_9 {F : FT} (hD : ∀ σ, va_D F.2.2.1 (GW F.2.1 σ)) (hm : F.2.2.2.2.2.2.2.2.2.2.2.2.2.2.1 = 7) (ok : OkF F prog_3_method_22_code "LastSeen$Graves" ({ frames := 2, cells := 0, slots := 0, locals := 46 } : Room)) {Q : Int → SS → Prop} (hQ : RetI F Q) {x1 x2 x3 x4 : Int} {s : SS} (h : B_Gr_shortage_9 Q (fun x1 x2 x3 x4 s => AtS F 9 [(0, .ref (F.2.1.1 9)), (1, vI x1), (2, vI x2), (3, vI x3), (4, vI x4)] [] s) (fun x1 x2 x3 x4 x5 y0 s => AtS F 63 [(0, .ref (F.2.1.1 9)), (1, vI x1), (2, vI x2), (3, vI x3), (4, vI x4), (5, vI x5)] [vI y0] s) x1 x2 x3 x4 s) : AtS F 9 [(0, .ref (F.2.1.1 9)), (1, vI x1), (2, vI x2), (3, vI x3), (4, vI x4)] [] s := by
  unfold B_Gr_shortage_9 at h
  refine r_iload ok 4 d_Gr_shortage_9 rfl ?_
  refine r_iconst ok 1 d_Gr_shortage_11 rfl ?_
  refine r_aload_n ok 0 d_Gr_shortage_12 rfl rfl ?_
  refine g_Gr_setCount ok d_Gr_shortage_13 ?_
  refine r_ishl ok d_Gr_shortage_16 ?_
  refine r_icmp_ge ok 92 d_Gr_shortage_17 (by decide) h.1 h.2.1 (fun c => ?_) (fun c => ?_)
  · replace h := h.2.2.1 c
    refine r_iload_n ok 3 d_Gr_shortage_92 rfl rfl ?_
    exact hQ _ _ _ _ _ (ok_code ok) d_Gr_shortage_93 h
  · replace h := h.2.2.2 c
    refine r_iload ok 4 d_Gr_shortage_20 rfl ?_
    refine r_iload_n ok 1 d_Gr_shortage_22 rfl rfl ?_
    refine r_iconst ok (-1) d_Gr_shortage_23 rfl ?_
    refine r_ixor ok d_Gr_shortage_24 ?_
    refine r_iand ok d_Gr_shortage_25 ?_
    refine r_if_eq ok 32 d_Gr_shortage_26 (by decide) h.1 (fun c => ?_) (fun c => ?_)
    · replace h := h.2.1 c
      refine r_iload ok 4 d_Gr_shortage_32 rfl ?_
      refine r_callSi (As := [vI x4]) (rest := []) ok wl_Gr_103 wt_y_Jl_bitCount wn_Jl wc_y_Jl_bitCount (by decide) (by decide) hh_Jl_bitCount (Nat.le_of_ble_eq_true rfl) rfl d_Gr_shortage_34 (L_Jl_bitCount F.1 F.2.1 F.2.2.1 hD h) (fun r3 s2 h => ?_)
      refine r_istore ok [(5, vI r3), (0, .ref (F.2.1.1 9)), (1, vI x1), (2, vI x2), (3, vI x3), (4, vI x4)] d_Gr_shortage_37 hm (by decide) rfl ?_
      refine r_aload_n ok 1 d_Gr_shortage_39 rfl rfl ?_
      refine g_Gr_perSubset ok d_Gr_shortage_40 ?_
      refine r_iload ok 5 d_Gr_shortage_43 rfl ?_
      refine r_iald ok 58 d_Gr_shortage_45 (by decide) rfl h.1 ?_
      replace h := h.2
      refine r_iload_n ok 3 d_Gr_shortage_46 rfl rfl ?_
      refine r_iconst ok (-1) d_Gr_shortage_47 rfl ?_
      refine r_ixor ok d_Gr_shortage_48 ?_
      refine r_iand ok d_Gr_shortage_49 ?_
      refine r_callSi (As := [vI (bnd (s2.2 58 x4) (bxr x2 (-1)))]) (rest := []) ok wl_Gr_103 wt_y_Jl_bitCount wn_Jl wc_y_Jl_bitCount (by decide) (by decide) hh_Jl_bitCount (Nat.le_of_ble_eq_true rfl) rfl d_Gr_shortage_50 (L_Jl_bitCount F.1 F.2.1 F.2.2.1 hD h) (fun r5 s4 h => ?_)
      refine r_iload ok 0 d_Gr_shortage_53 rfl ?_
      refine r_icmp_ge ok 62 d_Gr_shortage_55 (by decide) h.1 h.2.1 (fun c => ?_) (fun c => ?_)
      · replace h := h.2.2.1 c
        refine r_iconst ok 0 d_Gr_shortage_62 rfl ?_
        exact r_sub [1, 2, 3, 4, 5, 0] rfl h
      · replace h := h.2.2.2 c
        refine r_iconst ok 1 d_Gr_shortage_58 rfl ?_
        refine r_goto ok 63 d_Gr_shortage_59 (by decide) ?_
        exact r_sub [1, 2, 3, 4, 5, 0] rfl h
    · replace h := h.2.2 c
      refine r_goto ok 86 d_Gr_shortage_29 (by decide) ?_
      refine r_iinc ok 4 (x4 + 1) [(4, vI (x4 + 1)), (0, .ref (F.2.1.1 9)), (1, vI x1), (2, vI x2), (3, vI x3)] d_Gr_shortage_86 rfl rfl hm (by decide) rfl ?_
      refine r_goto ok 9 d_Gr_shortage_89 (by decide) ?_
      exact r_sub [1, 2, 3, 4, 0] rfl h
set_option maxHeartbeats 4000000 in
set_option maxRecDepth 100000 in
theorem K_Gr_shortage_63 {F : FT} (hD : ∀ σ, va_D F.2.2.1 (GW F.2.1 σ)) (hm : F.2.2.2.2.2.2.2.2.2.2.2.2.2.2.1 = 7) (ok : OkF F prog_3_method_22_code "LastSeen$Graves" ({ frames := 2, cells := 0, slots := 0, locals := 46 } : Room)) {Q : Int → SS → Prop} (hQ : RetI F Q) {x1 x2 x3 x4 x5 y0 : Int} {s : SS} (h : B_Gr_shortage_63 Q (fun x1 x2 x3 x4 s => AtS F 9 [(0, .ref (F.2.1.1 9)), (1, vI x1), (2, vI x2), (3, vI x3), (4, vI x4)] [] s) (fun x1 x2 x3 x4 x5 y0 s => AtS F 63 [(0, .ref (F.2.1.1 9)), (1, vI x1), (2, vI x2), (3, vI x3), (4, vI x4), (5, vI x5)] [vI y0] s) x1 x2 x3 x4 x5 y0 s) : AtS F 63 [(0, .ref (F.2.1.1 9)), (1, vI x1), (2, vI x2), (3, vI x3), (4, vI x4), (5, vI x5)] [vI y0] s := by
  unfold B_Gr_shortage_63 at h
  refine r_istore ok [(6, vI y0), (0, .ref (F.2.1.1 9)), (1, vI x1), (2, vI x2), (3, vI x3), (4, vI x4), (5, vI x5)] d_Gr_shortage_63 hm (by decide) rfl ?_
  refine r_iload ok 0 d_Gr_shortage_65 rfl ?_
  refine r_if_eq ok 86 d_Gr_shortage_67 (by decide) h.1 (fun c => ?_) (fun c => ?_)
  · replace h := h.2.1 c
    refine r_iinc ok 5 (x4 + 1) [(4, vI (x4 + 1)), (6, vI y0), (0, .ref (F.2.1.1 9)), (1, vI x1), (2, vI x2), (3, vI x3), (5, vI x5)] d_Gr_shortage_86 rfl rfl hm (by decide) rfl ?_
    refine r_goto ok 9 d_Gr_shortage_89 (by decide) ?_
    exact r_sub [2, 3, 4, 5, 0] rfl h
  · replace h := h.2.2 c
    refine r_iload_n ok 4 d_Gr_shortage_70 rfl rfl ?_
    refine r_if_eq ok 83 d_Gr_shortage_71 (by decide) h.1 (fun c => ?_) (fun c => ?_)
    · replace h := h.2.1 c
      refine r_iload ok 5 d_Gr_shortage_83 rfl ?_
      refine r_istore_n ok [(3, vI x4), (6, vI y0), (0, .ref (F.2.1.1 9)), (1, vI x1), (2, vI x2), (4, vI x4), (5, vI x5)] d_Gr_shortage_85 rfl hm (by decide) rfl ?_
      refine r_iinc ok 5 (x4 + 1) [(4, vI (x4 + 1)), (3, vI x4), (6, vI y0), (0, .ref (F.2.1.1 9)), (1, vI x1), (2, vI x2), (5, vI x5)] d_Gr_shortage_86 rfl rfl hm (by decide) rfl ?_
      refine r_goto ok 9 d_Gr_shortage_89 (by decide) ?_
      exact r_sub [3, 4, 5, 1, 0] rfl h
    · replace h := h.2.2 c
      refine r_iload ok 6 d_Gr_shortage_74 rfl ?_
      refine r_iload_n ok 4 d_Gr_shortage_76 rfl rfl ?_
      refine r_callSi (As := [vI x3]) (rest := [vI x5]) ok wl_Gr_103 wt_y_Jl_bitCount wn_Jl wc_y_Jl_bitCount (by decide) (by decide) hh_Jl_bitCount (Nat.le_of_ble_eq_true rfl) rfl d_Gr_shortage_77 (L_Jl_bitCount F.1 F.2.1 F.2.2.1 hD h) (fun r7 s6 h => ?_)
      refine r_icmp_ge ok 86 d_Gr_shortage_80 (by decide) h.1 h.2.1 (fun c => ?_) (fun c => ?_)
      · replace h := h.2.2.1 c
        refine r_iinc ok 5 (x4 + 1) [(4, vI (x4 + 1)), (6, vI y0), (0, .ref (F.2.1.1 9)), (1, vI x1), (2, vI x2), (3, vI x3), (5, vI x5)] d_Gr_shortage_86 rfl rfl hm (by decide) rfl ?_
        refine r_goto ok 9 d_Gr_shortage_89 (by decide) ?_
        exact r_sub [2, 3, 4, 5, 0] rfl h
      · replace h := h.2.2.2 c
        refine r_iload ok 5 d_Gr_shortage_83 rfl ?_
        refine r_istore_n ok [(3, vI x4), (6, vI y0), (0, .ref (F.2.1.1 9)), (1, vI x1), (2, vI x2), (4, vI x4), (5, vI x5)] d_Gr_shortage_85 rfl hm (by decide) rfl ?_
        refine r_iinc ok 5 (x4 + 1) [(4, vI (x4 + 1)), (3, vI x4), (6, vI y0), (0, .ref (F.2.1.1 9)), (1, vI x1), (2, vI x2), (5, vI x5)] d_Gr_shortage_86 rfl rfl hm (by decide) rfl ?_
        refine r_goto ok 9 d_Gr_shortage_89 (by decide) ?_
        exact r_sub [3, 4, 5, 1, 0] rfl h
set_option maxHeartbeats 4000000 in
set_option maxRecDepth 100000 in
theorem K_Gr_shortage_e {F : FT} (hD : ∀ σ, va_D F.2.2.1 (GW F.2.1 σ)) (hm : F.2.2.2.2.2.2.2.2.2.2.2.2.2.2.1 = 7) (ok : OkF F prog_3_method_22_code "LastSeen$Graves" ({ frames := 2, cells := 0, slots := 0, locals := 46 } : Room)) {Q : Int → SS → Prop} (hQ : RetI F Q) {x1 x2 : Int} {s : SS} (h : B_Gr_shortage_e Q (fun x1 x2 x3 x4 s => AtS F 9 [(0, .ref (F.2.1.1 9)), (1, vI x1), (2, vI x2), (3, vI x3), (4, vI x4)] [] s) (fun x1 x2 x3 x4 x5 y0 s => AtS F 63 [(0, .ref (F.2.1.1 9)), (1, vI x1), (2, vI x2), (3, vI x3), (4, vI x4), (5, vI x5)] [vI y0] s) x1 x2 s) : AtS F 0 [(0, .ref (F.2.1.1 9)), (1, vI x1), (2, vI x2)] [] s := by
  unfold B_Gr_shortage_e at h
  refine r_aload_n ok 0 d_Gr_shortage_0 rfl rfl ?_
  refine r_callVv (As := []) (rest := []) ok 9 rfl rfl rfl wl_Gr_100 wi_y_Gr_readHeirs ws_y_Gr_readHeirs wn_Gr wc_y_Gr_readHeirs (by decide) (by decide) hh_Gr_readHeirs (Nat.le_of_ble_eq_true rfl) rfl d_Gr_shortage_1 (L_Gr_readHeirs F.1 F.2.1 F.2.2.1 hD h) (fun s1 h => ?_)
  refine r_iconst ok 0 d_Gr_shortage_4 rfl ?_
  refine r_istore_n ok [(3, vI 0), (0, .ref (F.2.1.1 9)), (1, vI x1), (2, vI x2)] d_Gr_shortage_5 rfl hm (by decide) rfl ?_
  refine r_iconst ok 1 d_Gr_shortage_6 rfl ?_
  refine r_istore ok [(4, vI 1), (3, vI 0), (0, .ref (F.2.1.1 9)), (1, vI x1), (2, vI x2)] d_Gr_shortage_7 hm (by decide) rfl ?_
  exact r_sub [2, 3, 4, 1, 0] rfl h
theorem L_Gr_shortage (l : Launch) (G : GE) (A : Nat → Prop) (hD : ∀ σ, va_D A (GW G σ)) {x1 x2 : Int} {s : SS} {Q : Int → SS → Prop} (h : Sp_Gr_shortage x1 x2 s Q) : Met l y_Gr_shortage (Cond.code y_Gr_shortage prog_3_method_22_code 7 (some .int) :: lw_ok) ({ frames := 2, cells := 0, slots := 0, locals := 46 } : Room) (va_Pc [.ref (G.1 9), vI x1, vI x2] (gB G s)) (va_Qi (fun (r : Int32) (s2 : SS) => ∃ x : Int, r = iI x ∧ Q x s2) (fun s2 t => gB G s2 t) A) 0 0 A := by
  refine met_i hD (by decide) ⟨rfl, rfl⟩ (Nat.le_of_ble_eq_true rfl) (lv := [(0, .ref (G.1 9)), (1, vI x1), (2, vI x2)]) rfl (fun F h1 h2 h3 hm ok hQ => ?_)
  subst h1 h2 h3
  have hDF := hD
  exact K_Gr_shortage_e hDF hm ok hQ (h _ _ (fun _ _ _ _ _ hb => K_Gr_shortage_9 hDF hm ok hQ hb) (fun _ _ _ _ _ _ _ hb => K_Gr_shortage_63 hDF hm ok hQ hb))
theorem d_Gr_soleChoice_0 : decode prog_3_method_25_code 0 = .ok (.iconst (-1), 1) := by decide +kernel
theorem d_Gr_soleChoice_1 : decode prog_3_method_25_code 1 = .ok (.istore_n 3, 1) := by decide +kernel
theorem d_Gr_soleChoice_2 : decode prog_3_method_25_code 2 = .ok (.iconst 0, 1) := by decide +kernel
theorem d_Gr_soleChoice_3 : decode prog_3_method_25_code 3 = .ok (.istore 4, 2) := by decide +kernel
theorem d_Gr_soleChoice_5 : decode prog_3_method_25_code 5 = .ok (.iload 4, 2) := by decide +kernel
theorem d_Gr_soleChoice_7 : decode prog_3_method_25_code 7 = .ok (.aload_n 0, 1) := by decide +kernel
theorem d_Gr_soleChoice_8 : decode prog_3_method_25_code 8 = .ok (.getfield 60, 3) := by decide +kernel
theorem d_Gr_soleChoice_11 : decode prog_3_method_25_code 11 = .ok (.if_icmp .ge 61, 3) := by decide +kernel
theorem d_Gr_soleChoice_14 : decode prog_3_method_25_code 14 = .ok (.aload_n 0, 1) := by decide +kernel
theorem d_Gr_soleChoice_15 : decode prog_3_method_25_code 15 = .ok (.getfield 46, 3) := by decide +kernel
theorem d_Gr_soleChoice_18 : decode prog_3_method_25_code 18 = .ok (.iload_n 1, 1) := by decide +kernel
theorem d_Gr_soleChoice_19 : decode prog_3_method_25_code 19 = .ok (.iaload, 1) := by decide +kernel
theorem d_Gr_soleChoice_20 : decode prog_3_method_25_code 20 = .ok (.iload 4, 2) := by decide +kernel
theorem d_Gr_soleChoice_22 : decode prog_3_method_25_code 22 = .ok (.ishr, 1) := by decide +kernel
theorem d_Gr_soleChoice_23 : decode prog_3_method_25_code 23 = .ok (.iconst 1, 1) := by decide +kernel
theorem d_Gr_soleChoice_24 : decode prog_3_method_25_code 24 = .ok (.iand, 1) := by decide +kernel
theorem d_Gr_soleChoice_25 : decode prog_3_method_25_code 25 = .ok (.ifCond .ne 6, 3) := by decide +kernel
theorem d_Gr_soleChoice_28 : decode prog_3_method_25_code 28 = .ok (.goto 38, 3) := by decide +kernel
theorem d_Gr_soleChoice_31 : decode prog_3_method_25_code 31 = .ok (.aload_n 0, 1) := by decide +kernel
theorem d_Gr_soleChoice_32 : decode prog_3_method_25_code 32 = .ok (.iload_n 2, 1) := by decide +kernel
theorem d_Gr_soleChoice_33 : decode prog_3_method_25_code 33 = .ok (.iconst 1, 1) := by decide +kernel
theorem d_Gr_soleChoice_34 : decode prog_3_method_25_code 34 = .ok (.iload_n 1, 1) := by decide +kernel
theorem d_Gr_soleChoice_35 : decode prog_3_method_25_code 35 = .ok (.ishl, 1) := by decide +kernel
theorem d_Gr_soleChoice_36 : decode prog_3_method_25_code 36 = .ok (.iconst (-1), 1) := by decide +kernel
theorem d_Gr_soleChoice_37 : decode prog_3_method_25_code 37 = .ok (.ixor, 1) := by decide +kernel
theorem d_Gr_soleChoice_38 : decode prog_3_method_25_code 38 = .ok (.iand, 1) := by decide +kernel
theorem d_Gr_soleChoice_39 : decode prog_3_method_25_code 39 = .ok (.iconst 1, 1) := by decide +kernel
theorem d_Gr_soleChoice_40 : decode prog_3_method_25_code 40 = .ok (.aload_n 0, 1) := by decide +kernel
theorem d_Gr_soleChoice_41 : decode prog_3_method_25_code 41 = .ok (.getfield 43, 3) := by decide +kernel
theorem d_Gr_soleChoice_44 : decode prog_3_method_25_code 44 = .ok (.iload 4, 2) := by decide +kernel
theorem d_Gr_soleChoice_46 : decode prog_3_method_25_code 46 = .ok (.iaload, 1) := by decide +kernel
theorem d_Gr_soleChoice_47 : decode prog_3_method_25_code 47 = .ok (.ishl, 1) := by decide +kernel
theorem d_Gr_soleChoice_48 : decode prog_3_method_25_code 48 = .ok (.invokevirtual 111, 3) := by decide +kernel
theorem d_Gr_soleChoice_51 : decode prog_3_method_25_code 51 = .ok (.ifCond .eq 6, 3) := by decide +kernel
theorem d_Gr_soleChoice_54 : decode prog_3_method_25_code 54 = .ok (.goto 12, 3) := by decide +kernel
theorem d_Gr_soleChoice_57 : decode prog_3_method_25_code 57 = .ok (.iload_n 3, 1) := by decide +kernel
theorem d_Gr_soleChoice_58 : decode prog_3_method_25_code 58 = .ok (.ifCond .lt 5, 3) := by decide +kernel
theorem d_Gr_soleChoice_61 : decode prog_3_method_25_code 61 = .ok (.iconst (-1), 1) := by decide +kernel
theorem d_Gr_soleChoice_62 : decode prog_3_method_25_code 62 = .ok (.ireturn, 1) := by decide +kernel
theorem d_Gr_soleChoice_63 : decode prog_3_method_25_code 63 = .ok (.iload 4, 2) := by decide +kernel
theorem d_Gr_soleChoice_65 : decode prog_3_method_25_code 65 = .ok (.istore_n 3, 1) := by decide +kernel
theorem d_Gr_soleChoice_66 : decode prog_3_method_25_code 66 = .ok (.iinc 4 1, 3) := by decide +kernel
theorem d_Gr_soleChoice_69 : decode prog_3_method_25_code 69 = .ok (.goto (-64), 3) := by decide +kernel
theorem d_Gr_soleChoice_72 : decode prog_3_method_25_code 72 = .ok (.iload_n 3, 1) := by decide +kernel
theorem d_Gr_soleChoice_73 : decode prog_3_method_25_code 73 = .ok (.ireturn, 1) := by decide +kernel
set_option maxHeartbeats 4000000 in
set_option maxRecDepth 100000 in
theorem K_Gr_soleChoice_5 {F : FT} (hD : ∀ σ, va_D F.2.2.1 (GW F.2.1 σ)) (hm : F.2.2.2.2.2.2.2.2.2.2.2.2.2.2.1 = 5) (ok : OkF F prog_3_method_25_code "LastSeen$Graves" ({ frames := 3, cells := 0, slots := 0, locals := 72 } : Room)) {Q : Int → SS → Prop} (hQ : RetI F Q) {x1 x2 x3 x4 : Int} {s : SS} (h : B_Gr_soleChoice_5 Q (fun x1 x2 x3 x4 s => AtS F 5 [(0, .ref (F.2.1.1 9)), (1, vI x1), (2, vI x2), (3, vI x3), (4, vI x4)] [] s) x1 x2 x3 x4 s) : AtS F 5 [(0, .ref (F.2.1.1 9)), (1, vI x1), (2, vI x2), (3, vI x3), (4, vI x4)] [] s := by
  unfold B_Gr_soleChoice_5 at h
  refine r_iload ok 4 d_Gr_soleChoice_5 rfl ?_
  refine r_aload_n ok 0 d_Gr_soleChoice_7 rfl rfl ?_
  refine g_Gr_lostCount ok d_Gr_soleChoice_8 ?_
  refine r_icmp_ge ok 72 d_Gr_soleChoice_11 (by decide) h.1 h.2.1 (fun c => ?_) (fun c => ?_)
  · replace h := h.2.2.1 c
    refine r_iload_n ok 3 d_Gr_soleChoice_72 rfl rfl ?_
    exact hQ _ _ _ _ _ (ok_code ok) d_Gr_soleChoice_73 h
  · replace h := h.2.2.2 c
    refine r_aload_n ok 0 d_Gr_soleChoice_14 rfl rfl ?_
    refine g_Gr_choices ok d_Gr_soleChoice_15 ?_
    refine r_iload_n ok 1 d_Gr_soleChoice_18 rfl rfl ?_
    refine r_iald ok 57 d_Gr_soleChoice_19 (by decide) rfl h.1 ?_
    replace h := h.2
    refine r_iload ok 4 d_Gr_soleChoice_20 rfl ?_
    refine r_ishr ok d_Gr_soleChoice_22 ?_
    refine r_iconst ok 1 d_Gr_soleChoice_23 rfl ?_
    refine r_iand ok d_Gr_soleChoice_24 ?_
    refine r_if_ne ok 31 d_Gr_soleChoice_25 (by decide) h.1 (fun c => ?_) (fun c => ?_)
    · replace h := h.2.1 c
      refine r_aload_n ok 0 d_Gr_soleChoice_31 rfl rfl ?_
      refine r_iload_n ok 2 d_Gr_soleChoice_32 rfl rfl ?_
      refine r_iconst ok 1 d_Gr_soleChoice_33 rfl ?_
      refine r_iload_n ok 1 d_Gr_soleChoice_34 rfl rfl ?_
      refine r_ishl ok d_Gr_soleChoice_35 ?_
      refine r_iconst ok (-1) d_Gr_soleChoice_36 rfl ?_
      refine r_ixor ok d_Gr_soleChoice_37 ?_
      refine r_iand ok d_Gr_soleChoice_38 ?_
      refine r_iconst ok 1 d_Gr_soleChoice_39 rfl ?_
      refine r_aload_n ok 0 d_Gr_soleChoice_40 rfl rfl ?_
      refine g_Gr_same ok d_Gr_soleChoice_41 ?_
      refine r_iload ok 4 d_Gr_soleChoice_44 rfl ?_
      refine r_iald ok 56 d_Gr_soleChoice_46 (by decide) rfl h.1 ?_
      replace h := h.2
      refine r_ishl ok d_Gr_soleChoice_47 ?_
      refine r_callVi (As := [vI (bnd x2 (bxr (shl 1 x1) (-1))), vI (shl 1 (s.2 56 x4))]) (rest := []) ok 9 rfl rfl rfl wl_Gr_111 wi_y_Gr_shortage ws_y_Gr_shortage wn_Gr wc_y_Gr_shortage (by decide) (by decide) hh_Gr_shortage (Nat.le_of_ble_eq_true rfl) rfl d_Gr_soleChoice_48 (L_Gr_shortage F.1 F.2.1 F.2.2.1 hD h) (fun r2 s1 h => ?_)
      refine r_if_eq ok 57 d_Gr_soleChoice_51 (by decide) h.1 (fun c => ?_) (fun c => ?_)
      · replace h := h.2.1 c
        refine r_iload_n ok 3 d_Gr_soleChoice_57 rfl rfl ?_
        refine r_if_lt ok 63 d_Gr_soleChoice_58 (by decide) h.1 (fun c => ?_) (fun c => ?_)
        · replace h := h.2.1 c
          refine r_iload ok 4 d_Gr_soleChoice_63 rfl ?_
          refine r_istore_n ok [(3, vI x4), (0, .ref (F.2.1.1 9)), (1, vI x1), (2, vI x2), (4, vI x4)] d_Gr_soleChoice_65 rfl hm (by decide) rfl ?_
          refine r_iinc ok 4 (x4 + 1) [(4, vI (x4 + 1)), (3, vI x4), (0, .ref (F.2.1.1 9)), (1, vI x1), (2, vI x2)] d_Gr_soleChoice_66 rfl rfl hm (by decide) rfl ?_
          refine r_goto ok 5 d_Gr_soleChoice_69 (by decide) ?_
          exact r_sub [2, 3, 4, 1, 0] rfl h
        · replace h := h.2.2 c
          refine r_iconst ok (-1) d_Gr_soleChoice_61 rfl ?_
          exact hQ _ _ _ _ _ (ok_code ok) d_Gr_soleChoice_62 h
      · replace h := h.2.2 c
        refine r_goto ok 66 d_Gr_soleChoice_54 (by decide) ?_
        refine r_iinc ok 4 (x4 + 1) [(4, vI (x4 + 1)), (0, .ref (F.2.1.1 9)), (1, vI x1), (2, vI x2), (3, vI x3)] d_Gr_soleChoice_66 rfl rfl hm (by decide) rfl ?_
        refine r_goto ok 5 d_Gr_soleChoice_69 (by decide) ?_
        exact r_sub [1, 2, 3, 4, 0] rfl h
    · replace h := h.2.2 c
      refine r_goto ok 66 d_Gr_soleChoice_28 (by decide) ?_
      refine r_iinc ok 4 (x4 + 1) [(4, vI (x4 + 1)), (0, .ref (F.2.1.1 9)), (1, vI x1), (2, vI x2), (3, vI x3)] d_Gr_soleChoice_66 rfl rfl hm (by decide) rfl ?_
      refine r_goto ok 5 d_Gr_soleChoice_69 (by decide) ?_
      exact r_sub [1, 2, 3, 4, 0] rfl h
set_option maxHeartbeats 4000000 in
set_option maxRecDepth 100000 in
theorem K_Gr_soleChoice_e {F : FT} (hD : ∀ σ, va_D F.2.2.1 (GW F.2.1 σ)) (hm : F.2.2.2.2.2.2.2.2.2.2.2.2.2.2.1 = 5) (ok : OkF F prog_3_method_25_code "LastSeen$Graves" ({ frames := 3, cells := 0, slots := 0, locals := 72 } : Room)) {Q : Int → SS → Prop} (hQ : RetI F Q) {x1 x2 : Int} {s : SS} (h : B_Gr_soleChoice_e Q (fun x1 x2 x3 x4 s => AtS F 5 [(0, .ref (F.2.1.1 9)), (1, vI x1), (2, vI x2), (3, vI x3), (4, vI x4)] [] s) x1 x2 s) : AtS F 0 [(0, .ref (F.2.1.1 9)), (1, vI x1), (2, vI x2)] [] s := by
  unfold B_Gr_soleChoice_e at h
  refine r_iconst ok (-1) d_Gr_soleChoice_0 rfl ?_
  refine r_istore_n ok [(3, vI (-1)), (0, .ref (F.2.1.1 9)), (1, vI x1), (2, vI x2)] d_Gr_soleChoice_1 rfl hm (by decide) rfl ?_
  refine r_iconst ok 0 d_Gr_soleChoice_2 rfl ?_
  refine r_istore ok [(4, vI 0), (3, vI (-1)), (0, .ref (F.2.1.1 9)), (1, vI x1), (2, vI x2)] d_Gr_soleChoice_3 hm (by decide) rfl ?_
  exact r_sub [2, 3, 4, 1, 0] rfl h
theorem L_Gr_soleChoice (l : Launch) (G : GE) (A : Nat → Prop) (hD : ∀ σ, va_D A (GW G σ)) {x1 x2 : Int} {s : SS} {Q : Int → SS → Prop} (h : Sp_Gr_soleChoice x1 x2 s Q) : Met l y_Gr_soleChoice (Cond.code y_Gr_soleChoice prog_3_method_25_code 5 (some .int) :: lw_ok) ({ frames := 3, cells := 0, slots := 0, locals := 72 } : Room) (va_Pc [.ref (G.1 9), vI x1, vI x2] (gB G s)) (va_Qi (fun (r : Int32) (s2 : SS) => ∃ x : Int, r = iI x ∧ Q x s2) (fun s2 t => gB G s2 t) A) 0 0 A := by
  refine met_i hD (by decide) ⟨rfl, rfl⟩ (Nat.le_of_ble_eq_true rfl) (lv := [(0, .ref (G.1 9)), (1, vI x1), (2, vI x2)]) rfl (fun F h1 h2 h3 hm ok hQ => ?_)
  subst h1 h2 h3
  have hDF := hD
  exact K_Gr_soleChoice_e hDF hm ok hQ (h _ (fun _ _ _ _ _ hb => K_Gr_soleChoice_5 hDF hm ok hQ hb))
theorem d_Gr_lostName_0 : decode prog_3_method_10_code 0 = .ok (.aload_n 0, 1) := by decide +kernel
theorem d_Gr_lostName_1 : decode prog_3_method_10_code 1 = .ok (.getfield 31, 3) := by decide +kernel
theorem d_Gr_lostName_4 : decode prog_3_method_10_code 4 = .ok (.iload_n 1, 1) := by decide +kernel
theorem d_Gr_lostName_5 : decode prog_3_method_10_code 5 = .ok (.iaload, 1) := by decide +kernel
theorem d_Gr_lostName_6 : decode prog_3_method_10_code 6 = .ok (.ireturn, 1) := by decide +kernel
set_option maxHeartbeats 4000000 in
set_option maxRecDepth 100000 in
theorem K_Gr_lostName_e {F : FT} (hD : ∀ σ, va_D F.2.2.1 (GW F.2.1 σ)) (hm : F.2.2.2.2.2.2.2.2.2.2.2.2.2.2.1 = 2) (ok : OkF F prog_3_method_10_code "LastSeen$Graves" ({ frames := 0, cells := 0, slots := 0, locals := 0 } : Room)) {Q : Int → SS → Prop} (hQ : RetI F Q) {x1 : Int} {s : SS} (h : Sp_Gr_lostName x1 s Q) : AtS F 0 [(0, .ref (F.2.1.1 9)), (1, vI x1)] [] s := by
  unfold Sp_Gr_lostName at h
  refine r_aload_n ok 0 d_Gr_lostName_0 rfl rfl ?_
  refine g_Gr_lostNames ok d_Gr_lostName_1 ?_
  refine r_iload_n ok 1 d_Gr_lostName_4 rfl rfl ?_
  refine r_iald ok 52 d_Gr_lostName_5 (by decide) rfl h.1 ?_
  replace h := h.2
  exact hQ _ _ _ _ _ (ok_code ok) d_Gr_lostName_6 h
theorem L_Gr_lostName (l : Launch) (G : GE) (A : Nat → Prop) (hD : ∀ σ, va_D A (GW G σ)) {x1 : Int} {s : SS} {Q : Int → SS → Prop} (h : Sp_Gr_lostName x1 s Q) : Met l y_Gr_lostName (Cond.code y_Gr_lostName prog_3_method_10_code 2 (some .int) :: lw_ok) ({ frames := 0, cells := 0, slots := 0, locals := 0 } : Room) (va_Pc [.ref (G.1 9), vI x1] (gB G s)) (va_Qi (fun (r : Int32) (s2 : SS) => ∃ x : Int, r = iI x ∧ Q x s2) (fun s2 t => gB G s2 t) A) 0 0 A := by
  refine met_i hD (by decide) ⟨rfl, rfl⟩ (Nat.le_of_ble_eq_true rfl) (lv := [(0, .ref (G.1 9)), (1, vI x1)]) rfl (fun F h1 h2 h3 hm ok hQ => ?_)
  subst h1 h2 h3
  have hDF := hD
  exact K_Gr_lostName_e hDF hm ok hQ h
theorem d_LS_only_0 : decode prog_1_method_32_code 0 = .ok (.aload_n 0, 1) := by decide +kernel
theorem d_LS_only_1 : decode prog_1_method_32_code 1 = .ok (.iload_n 1, 1) := by decide +kernel
theorem d_LS_only_2 : decode prog_1_method_32_code 2 = .ok (.invokevirtual 327, 3) := by decide +kernel
theorem d_LS_only_5 : decode prog_1_method_32_code 5 = .ok (.ifCond .ne 5, 3) := by decide +kernel
theorem d_LS_only_8 : decode prog_1_method_32_code 8 = .ok (.iconst (-1), 1) := by decide +kernel
theorem d_LS_only_9 : decode prog_1_method_32_code 9 = .ok (.ireturn, 1) := by decide +kernel
theorem d_LS_only_10 : decode prog_1_method_32_code 10 = .ok (.aload_n 0, 1) := by decide +kernel
theorem d_LS_only_11 : decode prog_1_method_32_code 11 = .ok (.getfield 70, 3) := by decide +kernel
theorem d_LS_only_14 : decode prog_1_method_32_code 14 = .ok (.iload_n 2, 1) := by decide +kernel
theorem d_LS_only_15 : decode prog_1_method_32_code 15 = .ok (.invokevirtual 333, 3) := by decide +kernel
theorem d_LS_only_18 : decode prog_1_method_32_code 18 = .ok (.ifCond .eq 11, 3) := by decide +kernel
theorem d_LS_only_21 : decode prog_1_method_32_code 21 = .ok (.iload_n 2, 1) := by decide +kernel
theorem d_LS_only_22 : decode prog_1_method_32_code 22 = .ok (.iload_n 1, 1) := by decide +kernel
theorem d_LS_only_23 : decode prog_1_method_32_code 23 = .ok (.ishr, 1) := by decide +kernel
theorem d_LS_only_24 : decode prog_1_method_32_code 24 = .ok (.iconst 1, 1) := by decide +kernel
theorem d_LS_only_25 : decode prog_1_method_32_code 25 = .ok (.iand, 1) := by decide +kernel
theorem d_LS_only_26 : decode prog_1_method_32_code 26 = .ok (.ifCond .ne 6, 3) := by decide +kernel
theorem d_LS_only_29 : decode prog_1_method_32_code 29 = .ok (.bipush (-2), 2) := by decide +kernel
theorem d_LS_only_31 : decode prog_1_method_32_code 31 = .ok (.ireturn, 1) := by decide +kernel
theorem d_LS_only_32 : decode prog_1_method_32_code 32 = .ok (.aload_n 0, 1) := by decide +kernel
theorem d_LS_only_33 : decode prog_1_method_32_code 33 = .ok (.getfield 70, 3) := by decide +kernel
theorem d_LS_only_36 : decode prog_1_method_32_code 36 = .ok (.aload_n 0, 1) := by decide +kernel
theorem d_LS_only_37 : decode prog_1_method_32_code 37 = .ok (.getfield 122, 3) := by decide +kernel
theorem d_LS_only_40 : decode prog_1_method_32_code 40 = .ok (.invokevirtual 336, 3) := by decide +kernel
theorem d_LS_only_43 : decode prog_1_method_32_code 43 = .ok (.aload_n 0, 1) := by decide +kernel
theorem d_LS_only_44 : decode prog_1_method_32_code 44 = .ok (.getfield 70, 3) := by decide +kernel
theorem d_LS_only_47 : decode prog_1_method_32_code 47 = .ok (.iload_n 1, 1) := by decide +kernel
theorem d_LS_only_48 : decode prog_1_method_32_code 48 = .ok (.iload_n 2, 1) := by decide +kernel
theorem d_LS_only_49 : decode prog_1_method_32_code 49 = .ok (.invokevirtual 342, 3) := by decide +kernel
theorem d_LS_only_52 : decode prog_1_method_32_code 52 = .ok (.istore_n 3, 1) := by decide +kernel
theorem d_LS_only_53 : decode prog_1_method_32_code 53 = .ok (.iload_n 3, 1) := by decide +kernel
theorem d_LS_only_54 : decode prog_1_method_32_code 54 = .ok (.ifCond .ge 8, 3) := by decide +kernel
theorem d_LS_only_57 : decode prog_1_method_32_code 57 = .ok (.bipush (-5), 2) := by decide +kernel
theorem d_LS_only_59 : decode prog_1_method_32_code 59 = .ok (.goto 11, 3) := by decide +kernel
theorem d_LS_only_62 : decode prog_1_method_32_code 62 = .ok (.aload_n 0, 1) := by decide +kernel
theorem d_LS_only_63 : decode prog_1_method_32_code 63 = .ok (.getfield 70, 3) := by decide +kernel
theorem d_LS_only_66 : decode prog_1_method_32_code 66 = .ok (.iload_n 3, 1) := by decide +kernel
theorem d_LS_only_67 : decode prog_1_method_32_code 67 = .ok (.invokevirtual 345, 3) := by decide +kernel
theorem d_LS_only_70 : decode prog_1_method_32_code 70 = .ok (.ireturn, 1) := by decide +kernel
set_option maxHeartbeats 4000000 in
set_option maxRecDepth 100000 in
theorem K_LS_only_e {F : FT} (hD : ∀ σ, va_D F.2.2.1 (GW F.2.1 σ)) (hm : F.2.2.2.2.2.2.2.2.2.2.2.2.2.2.1 = 4) (ok : OkF F prog_1_method_32_code "LastSeen" ({ frames := 4, cells := 0, slots := 0, locals := 96 } : Room)) {Q : Int → SS → Prop} (hQ : RetI F Q) {x1 x2 : Int} {s : SS} (h : Sp_LS_only x1 x2 s Q) : AtS F 0 [(0, .ref (F.2.1.1 0)), (1, vI x1), (2, vI x2)] [] s := by
  unfold Sp_LS_only at h
  refine r_aload_n ok 0 d_LS_only_0 rfl rfl ?_
  refine r_iload_n ok 1 d_LS_only_1 rfl rfl ?_
  refine r_callVi (As := [vI x1]) (rest := []) ok 0 rfl rfl rfl wl_LS_327 wi_y_LS_isSet ws_y_LS_isSet wn_LS wc_y_LS_isSet (by decide) (by decide) hh_LS_isSet (Nat.le_of_ble_eq_true rfl) rfl d_LS_only_2 (L_LS_isSet F.1 F.2.1 F.2.2.1 hD h) (fun r2 s1 h => ?_)
  refine r_if_ne ok 10 d_LS_only_5 (by decide) h.1 (fun c => ?_) (fun c => ?_)
  · replace h := h.2.1 c
    refine r_aload_n ok 0 d_LS_only_10 rfl rfl ?_
    refine g_LS_graves ok d_LS_only_11 ?_
    refine r_iload_n ok 2 d_LS_only_14 rfl rfl ?_
    refine r_callVi (As := [vI x2]) (rest := []) ok 9 rfl rfl rfl wl_LS_333 wi_y_Gr_areSets ws_y_Gr_areSets wn_Gr wc_y_Gr_areSets (by decide) (by decide) hh_Gr_areSets (Nat.le_of_ble_eq_true rfl) rfl d_LS_only_15 (L_Gr_areSets F.1 F.2.1 F.2.2.1 hD h) (fun r4 s3 h => ?_)
    refine r_if_eq ok 29 d_LS_only_18 (by decide) h.1 (fun c => ?_) (fun c => ?_)
    · replace h := h.2.1 c
      refine r_bipush ok (-2) d_LS_only_29 (by decide) ?_
      exact hQ _ _ _ _ _ (ok_code ok) d_LS_only_31 h
    · replace h := h.2.2 c
      refine r_iload_n ok 2 d_LS_only_21 rfl rfl ?_
      refine r_iload_n ok 1 d_LS_only_22 rfl rfl ?_
      refine r_ishr ok d_LS_only_23 ?_
      refine r_iconst ok 1 d_LS_only_24 rfl ?_
      refine r_iand ok d_LS_only_25 ?_
      refine r_if_ne ok 32 d_LS_only_26 (by decide) h.1 (fun c => ?_) (fun c => ?_)
      · replace h := h.2.1 c
        refine r_aload_n ok 0 d_LS_only_32 rfl rfl ?_
        refine g_LS_graves ok d_LS_only_33 ?_
        refine r_aload_n ok 0 d_LS_only_36 rfl rfl ?_
        refine g_LS_entries ok d_LS_only_37 ?_
        refine r_callVv (As := [vI (s3.1 1)]) (rest := []) ok 9 rfl rfl rfl wl_LS_336 wi_y_Gr_readChoices ws_y_Gr_readChoices wn_Gr wc_y_Gr_readChoices (by decide) (by decide) hh_Gr_readChoices (Nat.le_of_ble_eq_true rfl) rfl d_LS_only_40 (L_Gr_readChoices F.1 F.2.1 F.2.2.1 hD h) (fun s5 h => ?_)
        refine r_aload_n ok 0 d_LS_only_43 rfl rfl ?_
        refine g_LS_graves ok d_LS_only_44 ?_
        refine r_iload_n ok 1 d_LS_only_47 rfl rfl ?_
        refine r_iload_n ok 2 d_LS_only_48 rfl rfl ?_
        refine r_callVi (As := [vI x1, vI x2]) (rest := []) ok 9 rfl rfl rfl wl_LS_342 wi_y_Gr_soleChoice ws_y_Gr_soleChoice wn_Gr wc_y_Gr_soleChoice (by decide) (by decide) hh_Gr_soleChoice (Nat.le_of_ble_eq_true rfl) rfl d_LS_only_49 (L_Gr_soleChoice F.1 F.2.1 F.2.2.1 hD h) (fun r7 s6 h => ?_)
        refine r_istore_n ok [(3, vI r7), (0, .ref (F.2.1.1 0)), (1, vI x1), (2, vI x2)] d_LS_only_52 rfl hm (by decide) rfl ?_
        refine r_iload_n ok 0 d_LS_only_53 rfl rfl ?_
        refine r_if_ge ok 62 d_LS_only_54 (by decide) h.1 (fun c => ?_) (fun c => ?_)
        · replace h := h.2.1 c
          refine r_aload_n ok 1 d_LS_only_62 rfl rfl ?_
          refine g_LS_graves ok d_LS_only_63 ?_
          refine r_iload_n ok 0 d_LS_only_66 rfl rfl ?_
          refine r_callVi (As := [vI r7]) (rest := []) ok 9 rfl rfl rfl wl_LS_345 wi_y_Gr_lostName ws_y_Gr_lostName wn_Gr wc_y_Gr_lostName (by decide) (by decide) hh_Gr_lostName (Nat.le_of_ble_eq_true rfl) rfl d_LS_only_67 (L_Gr_lostName F.1 F.2.1 F.2.2.1 hD h) (fun r9 s8 h => ?_)
          exact hQ _ _ _ _ _ (ok_code ok) d_LS_only_70 h
        · replace h := h.2.2 c
          refine r_bipush ok (-5) d_LS_only_57 (by decide) ?_
          refine r_goto ok 70 d_LS_only_59 (by decide) ?_
          exact hQ _ _ _ _ _ (ok_code ok) d_LS_only_70 h
      · replace h := h.2.2 c
        refine r_bipush ok (-2) d_LS_only_29 (by decide) ?_
        exact hQ _ _ _ _ _ (ok_code ok) d_LS_only_31 h
  · replace h := h.2.2 c
    refine r_iconst ok (-1) d_LS_only_8 rfl ?_
    exact hQ _ _ _ _ _ (ok_code ok) d_LS_only_9 h
theorem L_LS_only (l : Launch) (G : GE) (A : Nat → Prop) (hD : ∀ σ, va_D A (GW G σ)) {x1 x2 : Int} {s : SS} {Q : Int → SS → Prop} (h : Sp_LS_only x1 x2 s Q) : Met l y_LS_only (Cond.code y_LS_only prog_1_method_32_code 4 (some .int) :: lw_ok) ({ frames := 4, cells := 0, slots := 0, locals := 96 } : Room) (va_Pc [.ref (G.1 0), vI x1, vI x2] (gB G s)) (va_Qi (fun (r : Int32) (s2 : SS) => ∃ x : Int, r = iI x ∧ Q x s2) (fun s2 t => gB G s2 t) A) 0 0 A := by
  refine met_i hD (by decide) ⟨rfl, rfl⟩ (Nat.le_of_ble_eq_true rfl) (lv := [(0, .ref (G.1 0)), (1, vI x1), (2, vI x2)]) rfl (fun F h1 h2 h3 hm ok hQ => ?_)
  subst h1 h2 h3
  have hDF := hD
  exact K_LS_only_e hDF hm ok hQ h
theorem d_LS_why_0 : decode prog_1_method_33_code 0 = .ok (.aload_n 0, 1) := by decide +kernel
theorem d_LS_why_1 : decode prog_1_method_33_code 1 = .ok (.getfield 70, 3) := by decide +kernel
theorem d_LS_why_4 : decode prog_1_method_33_code 4 = .ok (.iload_n 1, 1) := by decide +kernel
theorem d_LS_why_5 : decode prog_1_method_33_code 5 = .ok (.invokevirtual 333, 3) := by decide +kernel
theorem d_LS_why_8 : decode prog_1_method_33_code 8 = .ok (.ifCond .ne 6, 3) := by decide +kernel
theorem d_LS_why_11 : decode prog_1_method_33_code 11 = .ok (.bipush (-2), 2) := by decide +kernel
theorem d_LS_why_13 : decode prog_1_method_33_code 13 = .ok (.ireturn, 1) := by decide +kernel
theorem d_LS_why_14 : decode prog_1_method_33_code 14 = .ok (.aload_n 0, 1) := by decide +kernel
theorem d_LS_why_15 : decode prog_1_method_33_code 15 = .ok (.getfield 70, 3) := by decide +kernel
theorem d_LS_why_18 : decode prog_1_method_33_code 18 = .ok (.aload_n 0, 1) := by decide +kernel
theorem d_LS_why_19 : decode prog_1_method_33_code 19 = .ok (.getfield 122, 3) := by decide +kernel
theorem d_LS_why_22 : decode prog_1_method_33_code 22 = .ok (.invokevirtual 336, 3) := by decide +kernel
theorem d_LS_why_25 : decode prog_1_method_33_code 25 = .ok (.aload_n 0, 1) := by decide +kernel
theorem d_LS_why_26 : decode prog_1_method_33_code 26 = .ok (.getfield 70, 3) := by decide +kernel
theorem d_LS_why_29 : decode prog_1_method_33_code 29 = .ok (.iload_n 1, 1) := by decide +kernel
theorem d_LS_why_30 : decode prog_1_method_33_code 30 = .ok (.iconst 0, 1) := by decide +kernel
theorem d_LS_why_31 : decode prog_1_method_33_code 31 = .ok (.invokevirtual 348, 3) := by decide +kernel
theorem d_LS_why_34 : decode prog_1_method_33_code 34 = .ok (.ireturn, 1) := by decide +kernel
set_option maxHeartbeats 4000000 in
set_option maxRecDepth 100000 in
theorem K_LS_why_e {F : FT} (hD : ∀ σ, va_D F.2.2.1 (GW F.2.1 σ)) (hm : F.2.2.2.2.2.2.2.2.2.2.2.2.2.2.1 = 2) (ok : OkF F prog_1_method_33_code "LastSeen" ({ frames := 4, cells := 0, slots := 0, locals := 90 } : Room)) {Q : Int → SS → Prop} (hQ : RetI F Q) {x1 : Int} {s : SS} (h : Sp_LS_why x1 s Q) : AtS F 0 [(0, .ref (F.2.1.1 0)), (1, vI x1)] [] s := by
  unfold Sp_LS_why at h
  refine r_aload_n ok 0 d_LS_why_0 rfl rfl ?_
  refine g_LS_graves ok d_LS_why_1 ?_
  refine r_iload_n ok 1 d_LS_why_4 rfl rfl ?_
  refine r_callVi (As := [vI x1]) (rest := []) ok 9 rfl rfl rfl wl_LS_333 wi_y_Gr_areSets ws_y_Gr_areSets wn_Gr wc_y_Gr_areSets (by decide) (by decide) hh_Gr_areSets (Nat.le_of_ble_eq_true rfl) rfl d_LS_why_5 (L_Gr_areSets F.1 F.2.1 F.2.2.1 hD h) (fun r2 s1 h => ?_)
  refine r_if_ne ok 14 d_LS_why_8 (by decide) h.1 (fun c => ?_) (fun c => ?_)
  · replace h := h.2.1 c
    refine r_aload_n ok 0 d_LS_why_14 rfl rfl ?_
    refine g_LS_graves ok d_LS_why_15 ?_
    refine r_aload_n ok 0 d_LS_why_18 rfl rfl ?_
    refine g_LS_entries ok d_LS_why_19 ?_
    refine r_callVv (As := [vI (s1.1 1)]) (rest := []) ok 9 rfl rfl rfl wl_LS_336 wi_y_Gr_readChoices ws_y_Gr_readChoices wn_Gr wc_y_Gr_readChoices (by decide) (by decide) hh_Gr_readChoices (Nat.le_of_ble_eq_true rfl) rfl d_LS_why_22 (L_Gr_readChoices F.1 F.2.1 F.2.2.1 hD h) (fun s3 h => ?_)
    refine r_aload_n ok 0 d_LS_why_25 rfl rfl ?_
    refine g_LS_graves ok d_LS_why_26 ?_
    refine r_iload_n ok 1 d_LS_why_29 rfl rfl ?_
    refine r_iconst ok 0 d_LS_why_30 rfl ?_
    refine r_callVi (As := [vI x1, vI 0]) (rest := []) ok 9 rfl rfl rfl wl_LS_348 wi_y_Gr_shortage ws_y_Gr_shortage wn_Gr wc_y_Gr_shortage (by decide) (by decide) hh_Gr_shortage (Nat.le_of_ble_eq_true rfl) rfl d_LS_why_31 (L_Gr_shortage F.1 F.2.1 F.2.2.1 hD h) (fun r5 s4 h => ?_)
    exact hQ _ _ _ _ _ (ok_code ok) d_LS_why_34 h
  · replace h := h.2.2 c
    refine r_bipush ok (-2) d_LS_why_11 (by decide) ?_
    exact hQ _ _ _ _ _ (ok_code ok) d_LS_why_13 h
theorem L_LS_why (l : Launch) (G : GE) (A : Nat → Prop) (hD : ∀ σ, va_D A (GW G σ)) {x1 : Int} {s : SS} {Q : Int → SS → Prop} (h : Sp_LS_why x1 s Q) : Met l y_LS_why (Cond.code y_LS_why prog_1_method_33_code 2 (some .int) :: lw_ok) ({ frames := 4, cells := 0, slots := 0, locals := 90 } : Room) (va_Pc [.ref (G.1 0), vI x1] (gB G s)) (va_Qi (fun (r : Int32) (s2 : SS) => ∃ x : Int, r = iI x ∧ Q x s2) (fun s2 t => gB G s2 t) A) 0 0 A := by
  refine met_i hD (by decide) ⟨rfl, rfl⟩ (Nat.le_of_ble_eq_true rfl) (lv := [(0, .ref (G.1 0)), (1, vI x1)]) rfl (fun F h1 h2 h3 hm ok hQ => ?_)
  subst h1 h2 h3
  have hDF := hD
  exact K_LS_why_e hDF hm ok hQ h
theorem d_Gr_givenTo_0 : decode prog_3_method_27_code 0 = .ok (.aload_n 0, 1) := by decide +kernel
theorem d_Gr_givenTo_1 : decode prog_3_method_27_code 1 = .ok (.getfield 25, 3) := by decide +kernel
theorem d_Gr_givenTo_4 : decode prog_3_method_27_code 4 = .ok (.iload_n 1, 1) := by decide +kernel
theorem d_Gr_givenTo_5 : decode prog_3_method_27_code 5 = .ok (.iaload, 1) := by decide +kernel
theorem d_Gr_givenTo_6 : decode prog_3_method_27_code 6 = .ok (.ireturn, 1) := by decide +kernel
set_option maxHeartbeats 4000000 in
set_option maxRecDepth 100000 in
theorem K_Gr_givenTo_e {F : FT} (hD : ∀ σ, va_D F.2.2.1 (GW F.2.1 σ)) (hm : F.2.2.2.2.2.2.2.2.2.2.2.2.2.2.1 = 2) (ok : OkF F prog_3_method_27_code "LastSeen$Graves" ({ frames := 0, cells := 0, slots := 0, locals := 0 } : Room)) {Q : Int → SS → Prop} (hQ : RetI F Q) {x1 : Int} {s : SS} (h : Sp_Gr_givenTo x1 s Q) : AtS F 0 [(0, .ref (F.2.1.1 9)), (1, vI x1)] [] s := by
  unfold Sp_Gr_givenTo at h
  refine r_aload_n ok 0 d_Gr_givenTo_0 rfl rfl ?_
  refine g_Gr_given ok d_Gr_givenTo_1 ?_
  refine r_iload_n ok 1 d_Gr_givenTo_4 rfl rfl ?_
  refine r_iald ok 50 d_Gr_givenTo_5 (by decide) rfl h.1 ?_
  replace h := h.2
  exact hQ _ _ _ _ _ (ok_code ok) d_Gr_givenTo_6 h
theorem L_Gr_givenTo (l : Launch) (G : GE) (A : Nat → Prop) (hD : ∀ σ, va_D A (GW G σ)) {x1 : Int} {s : SS} {Q : Int → SS → Prop} (h : Sp_Gr_givenTo x1 s Q) : Met l y_Gr_givenTo (Cond.code y_Gr_givenTo prog_3_method_27_code 2 (some .int) :: lw_ok) ({ frames := 0, cells := 0, slots := 0, locals := 0 } : Room) (va_Pc [.ref (G.1 9), vI x1] (gB G s)) (va_Qi (fun (r : Int32) (s2 : SS) => ∃ x : Int, r = iI x ∧ Q x s2) (fun s2 t => gB G s2 t) A) 0 0 A := by
  refine met_i hD (by decide) ⟨rfl, rfl⟩ (Nat.le_of_ble_eq_true rfl) (lv := [(0, .ref (G.1 9)), (1, vI x1)]) rfl (fun F h1 h2 h3 hm ok hQ => ?_)
  subst h1 h2 h3
  have hDF := hD
  exact K_Gr_givenTo_e hDF hm ok hQ h
theorem d_Gr_setsBeside_0 : decode prog_3_method_26_code 0 = .ok (.iconst 0, 1) := by decide +kernel
theorem d_Gr_setsBeside_1 : decode prog_3_method_26_code 1 = .ok (.istore_n 2, 1) := by decide +kernel
theorem d_Gr_setsBeside_2 : decode prog_3_method_26_code 2 = .ok (.iconst 0, 1) := by decide +kernel
theorem d_Gr_setsBeside_3 : decode prog_3_method_26_code 3 = .ok (.istore_n 3, 1) := by decide +kernel
theorem d_Gr_setsBeside_4 : decode prog_3_method_26_code 4 = .ok (.iload_n 3, 1) := by decide +kernel
theorem d_Gr_setsBeside_5 : decode prog_3_method_26_code 5 = .ok (.aload_n 0, 1) := by decide +kernel
theorem d_Gr_setsBeside_6 : decode prog_3_method_26_code 6 = .ok (.getfield 56, 3) := by decide +kernel
theorem d_Gr_setsBeside_9 : decode prog_3_method_26_code 9 = .ok (.if_icmp .ge 30, 3) := by decide +kernel
theorem d_Gr_setsBeside_12 : decode prog_3_method_26_code 12 = .ok (.aload_n 0, 1) := by decide +kernel
theorem d_Gr_setsBeside_13 : decode prog_3_method_26_code 13 = .ok (.getfield 9, 3) := by decide +kernel
theorem d_Gr_setsBeside_16 : decode prog_3_method_26_code 16 = .ok (.iload_n 3, 1) := by decide +kernel
theorem d_Gr_setsBeside_17 : decode prog_3_method_26_code 17 = .ok (.iaload, 1) := by decide +kernel
theorem d_Gr_setsBeside_18 : decode prog_3_method_26_code 18 = .ok (.aload_n 0, 1) := by decide +kernel
theorem d_Gr_setsBeside_19 : decode prog_3_method_26_code 19 = .ok (.getfield 9, 3) := by decide +kernel
theorem d_Gr_setsBeside_22 : decode prog_3_method_26_code 22 = .ok (.iload_n 1, 1) := by decide +kernel
theorem d_Gr_setsBeside_23 : decode prog_3_method_26_code 23 = .ok (.iaload, 1) := by decide +kernel
theorem d_Gr_setsBeside_24 : decode prog_3_method_26_code 24 = .ok (.if_icmp .ne 9, 3) := by decide +kernel
theorem d_Gr_setsBeside_27 : decode prog_3_method_26_code 27 = .ok (.iload_n 2, 1) := by decide +kernel
theorem d_Gr_setsBeside_28 : decode prog_3_method_26_code 28 = .ok (.iconst 1, 1) := by decide +kernel
theorem d_Gr_setsBeside_29 : decode prog_3_method_26_code 29 = .ok (.iload_n 3, 1) := by decide +kernel
theorem d_Gr_setsBeside_30 : decode prog_3_method_26_code 30 = .ok (.ishl, 1) := by decide +kernel
theorem d_Gr_setsBeside_31 : decode prog_3_method_26_code 31 = .ok (.ior, 1) := by decide +kernel
theorem d_Gr_setsBeside_32 : decode prog_3_method_26_code 32 = .ok (.istore_n 2, 1) := by decide +kernel
theorem d_Gr_setsBeside_33 : decode prog_3_method_26_code 33 = .ok (.iinc 3 1, 3) := by decide +kernel
theorem d_Gr_setsBeside_36 : decode prog_3_method_26_code 36 = .ok (.goto (-32), 3) := by decide +kernel
theorem d_Gr_setsBeside_39 : decode prog_3_method_26_code 39 = .ok (.iload_n 2, 1) := by decide +kernel
theorem d_Gr_setsBeside_40 : decode prog_3_method_26_code 40 = .ok (.ireturn, 1) := by decide +kernel
set_option maxHeartbeats 4000000 in
set_option maxRecDepth 100000 in
theorem K_Gr_setsBeside_4 {F : FT} (hD : ∀ σ, va_D F.2.2.1 (GW F.2.1 σ)) (hm : F.2.2.2.2.2.2.2.2.2.2.2.2.2.2.1 = 4) (ok : OkF F prog_3_method_26_code "LastSeen$Graves" ({ frames := 0, cells := 0, slots := 0, locals := 0 } : Room)) {Q : Int → SS → Prop} (hQ : RetI F Q) {x1 x2 x3 : Int} {s : SS} (h : B_Gr_setsBeside_4 Q (fun x1 x2 x3 s => AtS F 4 [(0, .ref (F.2.1.1 9)), (1, vI x1), (2, vI x2), (3, vI x3)] [] s) x1 x2 x3 s) : AtS F 4 [(0, .ref (F.2.1.1 9)), (1, vI x1), (2, vI x2), (3, vI x3)] [] s := by
  unfold B_Gr_setsBeside_4 at h
  refine r_iload_n ok 3 d_Gr_setsBeside_4 rfl rfl ?_
  refine r_aload_n ok 0 d_Gr_setsBeside_5 rfl rfl ?_
  refine g_Gr_setCount ok d_Gr_setsBeside_6 ?_
  refine r_icmp_ge ok 39 d_Gr_setsBeside_9 (by decide) h.1 h.2.1 (fun c => ?_) (fun c => ?_)
  · replace h := h.2.2.1 c
    refine r_iload_n ok 2 d_Gr_setsBeside_39 rfl rfl ?_
    exact hQ _ _ _ _ _ (ok_code ok) d_Gr_setsBeside_40 h
  · replace h := h.2.2.2 c
    refine r_aload_n ok 0 d_Gr_setsBeside_12 rfl rfl ?_
    refine g_Gr_grave ok d_Gr_setsBeside_13 ?_
    refine r_iload_n ok 3 d_Gr_setsBeside_16 rfl rfl ?_
    refine r_iald ok 45 d_Gr_setsBeside_17 (by decide) rfl h.1 ?_
    replace h := h.2
    refine r_aload_n ok 0 d_Gr_setsBeside_18 rfl rfl ?_
    refine g_Gr_grave ok d_Gr_setsBeside_19 ?_
    refine r_iload_n ok 1 d_Gr_setsBeside_22 rfl rfl ?_
    refine r_iald ok 45 d_Gr_setsBeside_23 (by decide) rfl h.1 ?_
    replace h := h.2
    refine r_icmp_ne ok 33 d_Gr_setsBeside_24 (by decide) h.1 h.2.1 (fun c => ?_) (fun c => ?_)
    · replace h := h.2.2.1 c
      refine r_iinc ok 3 (x3 + 1) [(3, vI (x3 + 1)), (0, .ref (F.2.1.1 9)), (1, vI x1), (2, vI x2)] d_Gr_setsBeside_33 rfl rfl hm (by decide) rfl ?_
      refine r_goto ok 4 d_Gr_setsBeside_36 (by decide) ?_
      exact r_sub [1, 2, 3, 0] rfl h
    · replace h := h.2.2.2 c
      refine r_iload_n ok 2 d_Gr_setsBeside_27 rfl rfl ?_
      refine r_iconst ok 1 d_Gr_setsBeside_28 rfl ?_
      refine r_iload_n ok 3 d_Gr_setsBeside_29 rfl rfl ?_
      refine r_ishl ok d_Gr_setsBeside_30 ?_
      refine r_ior ok d_Gr_setsBeside_31 ?_
      refine r_istore_n ok [(2, vI (bor x2 (shl 1 x3))), (0, .ref (F.2.1.1 9)), (1, vI x1), (3, vI x3)] d_Gr_setsBeside_32 rfl hm (by decide) rfl ?_
      refine r_iinc ok 3 (x3 + 1) [(3, vI (x3 + 1)), (2, vI (bor x2 (shl 1 x3))), (0, .ref (F.2.1.1 9)), (1, vI x1)] d_Gr_setsBeside_33 rfl rfl hm (by decide) rfl ?_
      refine r_goto ok 4 d_Gr_setsBeside_36 (by decide) ?_
      exact r_sub [2, 3, 1, 0] rfl h
set_option maxHeartbeats 4000000 in
set_option maxRecDepth 100000 in
theorem K_Gr_setsBeside_e {F : FT} (hD : ∀ σ, va_D F.2.2.1 (GW F.2.1 σ)) (hm : F.2.2.2.2.2.2.2.2.2.2.2.2.2.2.1 = 4) (ok : OkF F prog_3_method_26_code "LastSeen$Graves" ({ frames := 0, cells := 0, slots := 0, locals := 0 } : Room)) {Q : Int → SS → Prop} (hQ : RetI F Q) {x1 : Int} {s : SS} (h : B_Gr_setsBeside_e Q (fun x1 x2 x3 s => AtS F 4 [(0, .ref (F.2.1.1 9)), (1, vI x1), (2, vI x2), (3, vI x3)] [] s) x1 s) : AtS F 0 [(0, .ref (F.2.1.1 9)), (1, vI x1)] [] s := by
  unfold B_Gr_setsBeside_e at h
  refine r_iconst ok 0 d_Gr_setsBeside_0 rfl ?_
  refine r_istore_n ok [(2, vI 0), (0, .ref (F.2.1.1 9)), (1, vI x1)] d_Gr_setsBeside_1 rfl hm (by decide) rfl ?_
  refine r_iconst ok 0 d_Gr_setsBeside_2 rfl ?_
  refine r_istore_n ok [(3, vI 0), (2, vI 0), (0, .ref (F.2.1.1 9)), (1, vI x1)] d_Gr_setsBeside_3 rfl hm (by decide) rfl ?_
  exact r_sub [2, 3, 1, 0] rfl h
theorem L_Gr_setsBeside (l : Launch) (G : GE) (A : Nat → Prop) (hD : ∀ σ, va_D A (GW G σ)) {x1 : Int} {s : SS} {Q : Int → SS → Prop} (h : Sp_Gr_setsBeside x1 s Q) : Met l y_Gr_setsBeside (Cond.code y_Gr_setsBeside prog_3_method_26_code 4 (some .int) :: lw_ok) ({ frames := 0, cells := 0, slots := 0, locals := 0 } : Room) (va_Pc [.ref (G.1 9), vI x1] (gB G s)) (va_Qi (fun (r : Int32) (s2 : SS) => ∃ x : Int, r = iI x ∧ Q x s2) (fun s2 t => gB G s2 t) A) 0 0 A := by
  refine met_i hD (by decide) ⟨rfl, rfl⟩ (Nat.le_of_ble_eq_true rfl) (lv := [(0, .ref (G.1 9)), (1, vI x1)]) rfl (fun F h1 h2 h3 hm ok hQ => ?_)
  subst h1 h2 h3
  have hDF := hD
  exact K_Gr_setsBeside_e hDF hm ok hQ (h _ (fun _ _ _ _ hb => K_Gr_setsBeside_4 hDF hm ok hQ hb))
theorem d_Gr_entitle_0 : decode prog_3_method_28_code 0 = .ok (.aload_n 0, 1) := by decide +kernel
theorem d_Gr_entitle_1 : decode prog_3_method_28_code 1 = .ok (.getfield 25, 3) := by decide +kernel
theorem d_Gr_entitle_4 : decode prog_3_method_28_code 4 = .ok (.iload_n 1, 1) := by decide +kernel
theorem d_Gr_entitle_5 : decode prog_3_method_28_code 5 = .ok (.iload_n 2, 1) := by decide +kernel
theorem d_Gr_entitle_6 : decode prog_3_method_28_code 6 = .ok (.iastore, 1) := by decide +kernel
theorem d_Gr_entitle_7 : decode prog_3_method_28_code 7 = .ok (.aload_n 0, 1) := by decide +kernel
theorem d_Gr_entitle_8 : decode prog_3_method_28_code 8 = .ok (.getfield 28, 3) := by decide +kernel
theorem d_Gr_entitle_11 : decode prog_3_method_28_code 11 = .ok (.iload_n 1, 1) := by decide +kernel
theorem d_Gr_entitle_12 : decode prog_3_method_28_code 12 = .ok (.aload_n 0, 1) := by decide +kernel
theorem d_Gr_entitle_13 : decode prog_3_method_28_code 13 = .ok (.getfield 114, 3) := by decide +kernel
theorem d_Gr_entitle_16 : decode prog_3_method_28_code 16 = .ok (.iastore, 1) := by decide +kernel
theorem d_Gr_entitle_17 : decode prog_3_method_28_code 17 = .ok (.aload_n 0, 1) := by decide +kernel
theorem d_Gr_entitle_18 : decode prog_3_method_28_code 18 = .ok (.dup, 1) := by decide +kernel
theorem d_Gr_entitle_19 : decode prog_3_method_28_code 19 = .ok (.getfield 114, 3) := by decide +kernel
theorem d_Gr_entitle_22 : decode prog_3_method_28_code 22 = .ok (.iconst 1, 1) := by decide +kernel
theorem d_Gr_entitle_23 : decode prog_3_method_28_code 23 = .ok (.iadd, 1) := by decide +kernel
theorem d_Gr_entitle_24 : decode prog_3_method_28_code 24 = .ok (.putfield 114, 3) := by decide +kernel
theorem d_Gr_entitle_27 : decode prog_3_method_28_code 27 = .ok (.return_, 1) := by decide +kernel
set_option maxHeartbeats 4000000 in
set_option maxRecDepth 100000 in
theorem K_Gr_entitle_e {F : FT} (hD : ∀ σ, va_D F.2.2.1 (GW F.2.1 σ)) (hm : F.2.2.2.2.2.2.2.2.2.2.2.2.2.2.1 = 3) (ok : OkF F prog_3_method_28_code "LastSeen$Graves" ({ frames := 0, cells := 0, slots := 0, locals := 0 } : Room)) {Q : SS → Prop} (hQ : RetV F Q) {x1 x2 : Int} {s : SS} (h : Sp_Gr_entitle x1 x2 s Q) : AtS F 0 [(0, .ref (F.2.1.1 9)), (1, vI x1), (2, vI x2)] [] s := by
  unfold Sp_Gr_entitle at h
  refine r_aload_n ok 0 d_Gr_entitle_0 rfl rfl ?_
  refine g_Gr_given ok d_Gr_entitle_1 ?_
  refine r_iload_n ok 1 d_Gr_entitle_4 rfl rfl ?_
  refine r_iload_n ok 2 d_Gr_entitle_5 rfl rfl ?_
  refine r_iast ok 50 d_Gr_entitle_6 (by decide) rfl h.1 ?_
  replace h := h.2 _ rfl
  generalize sA s 50 x1 x2 = s1 at h ⊢
  refine r_aload_n ok 0 d_Gr_entitle_7 rfl rfl ?_
  refine g_Gr_givenTurn ok d_Gr_entitle_8 ?_
  refine r_iload_n ok 1 d_Gr_entitle_11 rfl rfl ?_
  refine r_aload_n ok 0 d_Gr_entitle_12 rfl rfl ?_
  refine g_Gr_turns ok d_Gr_entitle_13 ?_
  refine r_iast ok 51 d_Gr_entitle_16 (by decide) rfl h.1 ?_
  replace h := h.2 _ rfl
  generalize sA s1 51 x1 (s1.1 26) = s2 at h ⊢
  refine r_aload_n ok 0 d_Gr_entitle_17 rfl rfl ?_
  refine r_dup ok d_Gr_entitle_18 rfl ?_
  refine g_Gr_turns ok d_Gr_entitle_19 ?_
  refine r_iconst ok 1 d_Gr_entitle_22 rfl ?_
  refine r_iadd ok d_Gr_entitle_23 ?_
  refine p_Gr_turns ok d_Gr_entitle_24 ?_
  replace h := h _ rfl
  generalize sF s2 26 ((s2.1 26) + 1) = s3 at h ⊢
  exact hQ _ _ _ _ (ok_code ok) d_Gr_entitle_27 h
theorem L_Gr_entitle (l : Launch) (G : GE) (A : Nat → Prop) (hD : ∀ σ, va_D A (GW G σ)) {x1 x2 : Int} {s : SS} {Q : SS → Prop} (h : Sp_Gr_entitle x1 x2 s Q) : Met l y_Gr_entitle (Cond.code y_Gr_entitle prog_3_method_28_code 3 (none) :: lw_ok) ({ frames := 0, cells := 0, slots := 0, locals := 0 } : Room) (va_Pc [.ref (G.1 9), vI x1, vI x2] (gB G s)) (va_Qv (fun (s2 : SS) => Q s2) (fun s2 t => gB G s2 t) A) 0 0 A := by
  refine met_v hD (by decide) ⟨rfl, rfl⟩ (Nat.le_of_ble_eq_true rfl) (lv := [(0, .ref (G.1 9)), (1, vI x1), (2, vI x2)]) rfl (fun F h1 h2 h3 hm ok hQ => ?_)
  subst h1 h2 h3
  have hDF := hD
  exact K_Gr_entitle_e hDF hm ok hQ h
theorem d_LS_give_0 : decode prog_1_method_34_code 0 = .ok (.aload_n 0, 1) := by decide +kernel
theorem d_LS_give_1 : decode prog_1_method_34_code 1 = .ok (.iload_n 1, 1) := by decide +kernel
theorem d_LS_give_2 : decode prog_1_method_34_code 2 = .ok (.invokevirtual 327, 3) := by decide +kernel
theorem d_LS_give_5 : decode prog_1_method_34_code 5 = .ok (.ifCond .ne 5, 3) := by decide +kernel
theorem d_LS_give_8 : decode prog_1_method_34_code 8 = .ok (.iconst (-1), 1) := by decide +kernel
theorem d_LS_give_9 : decode prog_1_method_34_code 9 = .ok (.ireturn, 1) := by decide +kernel
theorem d_LS_give_10 : decode prog_1_method_34_code 10 = .ok (.aload_n 0, 1) := by decide +kernel
theorem d_LS_give_11 : decode prog_1_method_34_code 11 = .ok (.getfield 70, 3) := by decide +kernel
theorem d_LS_give_14 : decode prog_1_method_34_code 14 = .ok (.iload_n 1, 1) := by decide +kernel
theorem d_LS_give_15 : decode prog_1_method_34_code 15 = .ok (.invokevirtual 351, 3) := by decide +kernel
theorem d_LS_give_18 : decode prog_1_method_34_code 18 = .ok (.ifCond .lt 6, 3) := by decide +kernel
theorem d_LS_give_21 : decode prog_1_method_34_code 21 = .ok (.bipush (-3), 2) := by decide +kernel
theorem d_LS_give_23 : decode prog_1_method_34_code 23 = .ok (.ireturn, 1) := by decide +kernel
theorem d_LS_give_24 : decode prog_1_method_34_code 24 = .ok (.aload_n 0, 1) := by decide +kernel
theorem d_LS_give_25 : decode prog_1_method_34_code 25 = .ok (.getfield 70, 3) := by decide +kernel
theorem d_LS_give_28 : decode prog_1_method_34_code 28 = .ok (.aload_n 0, 1) := by decide +kernel
theorem d_LS_give_29 : decode prog_1_method_34_code 29 = .ok (.getfield 122, 3) := by decide +kernel
theorem d_LS_give_32 : decode prog_1_method_34_code 32 = .ok (.invokevirtual 336, 3) := by decide +kernel
theorem d_LS_give_35 : decode prog_1_method_34_code 35 = .ok (.aload_n 0, 1) := by decide +kernel
theorem d_LS_give_36 : decode prog_1_method_34_code 36 = .ok (.getfield 70, 3) := by decide +kernel
theorem d_LS_give_39 : decode prog_1_method_34_code 39 = .ok (.iload_n 1, 1) := by decide +kernel
theorem d_LS_give_40 : decode prog_1_method_34_code 40 = .ok (.aload_n 0, 1) := by decide +kernel
theorem d_LS_give_41 : decode prog_1_method_34_code 41 = .ok (.getfield 70, 3) := by decide +kernel
theorem d_LS_give_44 : decode prog_1_method_34_code 44 = .ok (.iload_n 1, 1) := by decide +kernel
theorem d_LS_give_45 : decode prog_1_method_34_code 45 = .ok (.invokevirtual 354, 3) := by decide +kernel
theorem d_LS_give_48 : decode prog_1_method_34_code 48 = .ok (.invokevirtual 342, 3) := by decide +kernel
theorem d_LS_give_51 : decode prog_1_method_34_code 51 = .ok (.istore_n 2, 1) := by decide +kernel
theorem d_LS_give_52 : decode prog_1_method_34_code 52 = .ok (.iload_n 2, 1) := by decide +kernel
theorem d_LS_give_53 : decode prog_1_method_34_code 53 = .ok (.ifCond .ge 6, 3) := by decide +kernel
theorem d_LS_give_56 : decode prog_1_method_34_code 56 = .ok (.bipush (-3), 2) := by decide +kernel
theorem d_LS_give_58 : decode prog_1_method_34_code 58 = .ok (.ireturn, 1) := by decide +kernel
theorem d_LS_give_59 : decode prog_1_method_34_code 59 = .ok (.aload_n 0, 1) := by decide +kernel
theorem d_LS_give_60 : decode prog_1_method_34_code 60 = .ok (.getfield 70, 3) := by decide +kernel
theorem d_LS_give_63 : decode prog_1_method_34_code 63 = .ok (.iload_n 1, 1) := by decide +kernel
theorem d_LS_give_64 : decode prog_1_method_34_code 64 = .ok (.iload_n 2, 1) := by decide +kernel
theorem d_LS_give_65 : decode prog_1_method_34_code 65 = .ok (.invokevirtual 357, 3) := by decide +kernel
theorem d_LS_give_68 : decode prog_1_method_34_code 68 = .ok (.aload_n 0, 1) := by decide +kernel
theorem d_LS_give_69 : decode prog_1_method_34_code 69 = .ok (.getfield 70, 3) := by decide +kernel
theorem d_LS_give_72 : decode prog_1_method_34_code 72 = .ok (.iload_n 2, 1) := by decide +kernel
theorem d_LS_give_73 : decode prog_1_method_34_code 73 = .ok (.invokevirtual 345, 3) := by decide +kernel
theorem d_LS_give_76 : decode prog_1_method_34_code 76 = .ok (.ireturn, 1) := by decide +kernel
set_option maxHeartbeats 4000000 in
set_option maxRecDepth 100000 in
theorem K_LS_give_e {F : FT} (hD : ∀ σ, va_D F.2.2.1 (GW F.2.1 σ)) (hm : F.2.2.2.2.2.2.2.2.2.2.2.2.2.2.1 = 3) (ok : OkF F prog_1_method_34_code "LastSeen" ({ frames := 4, cells := 0, slots := 0, locals := 96 } : Room)) {Q : Int → SS → Prop} (hQ : RetI F Q) {x1 : Int} {s : SS} (h : Sp_LS_give x1 s Q) : AtS F 0 [(0, .ref (F.2.1.1 0)), (1, vI x1)] [] s := by
  unfold Sp_LS_give at h
  refine r_aload_n ok 0 d_LS_give_0 rfl rfl ?_
  refine r_iload_n ok 1 d_LS_give_1 rfl rfl ?_
  refine r_callVi (As := [vI x1]) (rest := []) ok 0 rfl rfl rfl wl_LS_327 wi_y_LS_isSet ws_y_LS_isSet wn_LS wc_y_LS_isSet (by decide) (by decide) hh_LS_isSet (Nat.le_of_ble_eq_true rfl) rfl d_LS_give_2 (L_LS_isSet F.1 F.2.1 F.2.2.1 hD h) (fun r2 s1 h => ?_)
  refine r_if_ne ok 10 d_LS_give_5 (by decide) h.1 (fun c => ?_) (fun c => ?_)
  · replace h := h.2.1 c
    refine r_aload_n ok 0 d_LS_give_10 rfl rfl ?_
    refine g_LS_graves ok d_LS_give_11 ?_
    refine r_iload_n ok 1 d_LS_give_14 rfl rfl ?_
    refine r_callVi (As := [vI x1]) (rest := []) ok 9 rfl rfl rfl wl_LS_351 wi_y_Gr_givenTo ws_y_Gr_givenTo wn_Gr wc_y_Gr_givenTo (by decide) (by decide) hh_Gr_givenTo (Nat.le_of_ble_eq_true rfl) rfl d_LS_give_15 (L_Gr_givenTo F.1 F.2.1 F.2.2.1 hD h) (fun r4 s3 h => ?_)
    refine r_if_lt ok 24 d_LS_give_18 (by decide) h.1 (fun c => ?_) (fun c => ?_)
    · replace h := h.2.1 c
      refine r_aload_n ok 0 d_LS_give_24 rfl rfl ?_
      refine g_LS_graves ok d_LS_give_25 ?_
      refine r_aload_n ok 0 d_LS_give_28 rfl rfl ?_
      refine g_LS_entries ok d_LS_give_29 ?_
      refine r_callVv (As := [vI (s3.1 1)]) (rest := []) ok 9 rfl rfl rfl wl_LS_336 wi_y_Gr_readChoices ws_y_Gr_readChoices wn_Gr wc_y_Gr_readChoices (by decide) (by decide) hh_Gr_readChoices (Nat.le_of_ble_eq_true rfl) rfl d_LS_give_32 (L_Gr_readChoices F.1 F.2.1 F.2.2.1 hD h) (fun s5 h => ?_)
      refine r_aload_n ok 0 d_LS_give_35 rfl rfl ?_
      refine g_LS_graves ok d_LS_give_36 ?_
      refine r_iload_n ok 1 d_LS_give_39 rfl rfl ?_
      refine r_aload_n ok 0 d_LS_give_40 rfl rfl ?_
      refine g_LS_graves ok d_LS_give_41 ?_
      refine r_iload_n ok 1 d_LS_give_44 rfl rfl ?_
      refine r_callVi (As := [vI x1]) (rest := [vI x1, .ref (F.2.1.1 9)]) ok 9 rfl rfl rfl wl_LS_354 wi_y_Gr_setsBeside ws_y_Gr_setsBeside wn_Gr wc_y_Gr_setsBeside (by decide) (by decide) hh_Gr_setsBeside (Nat.le_of_ble_eq_true rfl) rfl d_LS_give_45 (L_Gr_setsBeside F.1 F.2.1 F.2.2.1 hD h) (fun r7 s6 h => ?_)
      refine r_callVi (As := [vI x1, vI r7]) (rest := []) ok 9 rfl rfl rfl wl_LS_342 wi_y_Gr_soleChoice ws_y_Gr_soleChoice wn_Gr wc_y_Gr_soleChoice (by decide) (by decide) hh_Gr_soleChoice (Nat.le_of_ble_eq_true rfl) rfl d_LS_give_48 (L_Gr_soleChoice F.1 F.2.1 F.2.2.1 hD h) (fun r9 s8 h => ?_)
      refine r_istore_n ok [(2, vI r9), (0, .ref (F.2.1.1 0)), (1, vI x1)] d_LS_give_51 rfl hm (by decide) rfl ?_
      refine r_iload_n ok 0 d_LS_give_52 rfl rfl ?_
      refine r_if_ge ok 59 d_LS_give_53 (by decide) h.1 (fun c => ?_) (fun c => ?_)
      · replace h := h.2.1 c
        refine r_aload_n ok 1 d_LS_give_59 rfl rfl ?_
        refine g_LS_graves ok d_LS_give_60 ?_
        refine r_iload_n ok 2 d_LS_give_63 rfl rfl ?_
        refine r_iload_n ok 0 d_LS_give_64 rfl rfl ?_
        refine r_callVv (As := [vI x1, vI r9]) (rest := []) ok 9 rfl rfl rfl wl_LS_357 wi_y_Gr_entitle ws_y_Gr_entitle wn_Gr wc_y_Gr_entitle (by decide) (by decide) hh_Gr_entitle (Nat.le_of_ble_eq_true rfl) rfl d_LS_give_65 (L_Gr_entitle F.1 F.2.1 F.2.2.1 hD h) (fun s10 h => ?_)
        refine r_aload_n ok 1 d_LS_give_68 rfl rfl ?_
        refine g_LS_graves ok d_LS_give_69 ?_
        refine r_iload_n ok 0 d_LS_give_72 rfl rfl ?_
        refine r_callVi (As := [vI r9]) (rest := []) ok 9 rfl rfl rfl wl_LS_345 wi_y_Gr_lostName ws_y_Gr_lostName wn_Gr wc_y_Gr_lostName (by decide) (by decide) hh_Gr_lostName (Nat.le_of_ble_eq_true rfl) rfl d_LS_give_73 (L_Gr_lostName F.1 F.2.1 F.2.2.1 hD h) (fun r12 s11 h => ?_)
        exact hQ _ _ _ _ _ (ok_code ok) d_LS_give_76 h
      · replace h := h.2.2 c
        refine r_bipush ok (-3) d_LS_give_56 (by decide) ?_
        exact hQ _ _ _ _ _ (ok_code ok) d_LS_give_58 h
    · replace h := h.2.2 c
      refine r_bipush ok (-3) d_LS_give_21 (by decide) ?_
      exact hQ _ _ _ _ _ (ok_code ok) d_LS_give_23 h
  · replace h := h.2.2 c
    refine r_iconst ok (-1) d_LS_give_8 rfl ?_
    exact hQ _ _ _ _ _ (ok_code ok) d_LS_give_9 h
theorem L_LS_give (l : Launch) (G : GE) (A : Nat → Prop) (hD : ∀ σ, va_D A (GW G σ)) {x1 : Int} {s : SS} {Q : Int → SS → Prop} (h : Sp_LS_give x1 s Q) : Met l y_LS_give (Cond.code y_LS_give prog_1_method_34_code 3 (some .int) :: lw_ok) ({ frames := 4, cells := 0, slots := 0, locals := 96 } : Room) (va_Pc [.ref (G.1 0), vI x1] (gB G s)) (va_Qi (fun (r : Int32) (s2 : SS) => ∃ x : Int, r = iI x ∧ Q x s2) (fun s2 t => gB G s2 t) A) 0 0 A := by
  refine met_i hD (by decide) ⟨rfl, rfl⟩ (Nat.le_of_ble_eq_true rfl) (lv := [(0, .ref (G.1 0)), (1, vI x1)]) rfl (fun F h1 h2 h3 hm ok hQ => ?_)
  subst h1 h2 h3
  have hDF := hD
  exact K_LS_give_e hDF hm ok hQ h
theorem d_Gr_strip_0 : decode prog_3_method_29_code 0 = .ok (.aload_n 0, 1) := by decide +kernel
theorem d_Gr_strip_1 : decode prog_3_method_29_code 1 = .ok (.getfield 28, 3) := by decide +kernel
theorem d_Gr_strip_4 : decode prog_3_method_29_code 4 = .ok (.iload_n 1, 1) := by decide +kernel
theorem d_Gr_strip_5 : decode prog_3_method_29_code 5 = .ok (.iaload, 1) := by decide +kernel
theorem d_Gr_strip_6 : decode prog_3_method_29_code 6 = .ok (.istore_n 2, 1) := by decide +kernel
theorem d_Gr_strip_7 : decode prog_3_method_29_code 7 = .ok (.iconst 0, 1) := by decide +kernel
theorem d_Gr_strip_8 : decode prog_3_method_29_code 8 = .ok (.istore_n 3, 1) := by decide +kernel
theorem d_Gr_strip_9 : decode prog_3_method_29_code 9 = .ok (.iconst 0, 1) := by decide +kernel
theorem d_Gr_strip_10 : decode prog_3_method_29_code 10 = .ok (.istore 4, 2) := by decide +kernel
theorem d_Gr_strip_12 : decode prog_3_method_29_code 12 = .ok (.iload 4, 2) := by decide +kernel
theorem d_Gr_strip_14 : decode prog_3_method_29_code 14 = .ok (.aload_n 0, 1) := by decide +kernel
theorem d_Gr_strip_15 : decode prog_3_method_29_code 15 = .ok (.getfield 56, 3) := by decide +kernel
theorem d_Gr_strip_18 : decode prog_3_method_29_code 18 = .ok (.if_icmp .ge 72, 3) := by decide +kernel
theorem d_Gr_strip_21 : decode prog_3_method_29_code 21 = .ok (.aload_n 0, 1) := by decide +kernel
theorem d_Gr_strip_22 : decode prog_3_method_29_code 22 = .ok (.getfield 25, 3) := by decide +kernel
theorem d_Gr_strip_25 : decode prog_3_method_29_code 25 = .ok (.iload 4, 2) := by decide +kernel
theorem d_Gr_strip_27 : decode prog_3_method_29_code 27 = .ok (.iaload, 1) := by decide +kernel
theorem d_Gr_strip_28 : decode prog_3_method_29_code 28 = .ok (.ifCond .lt 18, 3) := by decide +kernel
theorem d_Gr_strip_31 : decode prog_3_method_29_code 31 = .ok (.aload_n 0, 1) := by decide +kernel
theorem d_Gr_strip_32 : decode prog_3_method_29_code 32 = .ok (.getfield 28, 3) := by decide +kernel
theorem d_Gr_strip_35 : decode prog_3_method_29_code 35 = .ok (.iload 4, 2) := by decide +kernel
theorem d_Gr_strip_37 : decode prog_3_method_29_code 37 = .ok (.iaload, 1) := by decide +kernel
theorem d_Gr_strip_38 : decode prog_3_method_29_code 38 = .ok (.iload_n 2, 1) := by decide +kernel
theorem d_Gr_strip_39 : decode prog_3_method_29_code 39 = .ok (.if_icmp .lt 7, 3) := by decide +kernel
theorem d_Gr_strip_42 : decode prog_3_method_29_code 42 = .ok (.iconst 1, 1) := by decide +kernel
theorem d_Gr_strip_43 : decode prog_3_method_29_code 43 = .ok (.goto 4, 3) := by decide +kernel
theorem d_Gr_strip_46 : decode prog_3_method_29_code 46 = .ok (.iconst 0, 1) := by decide +kernel
theorem d_Gr_strip_47 : decode prog_3_method_29_code 47 = .ok (.istore 5, 2) := by decide +kernel
theorem d_Gr_strip_49 : decode prog_3_method_29_code 49 = .ok (.iload 5, 2) := by decide +kernel
theorem d_Gr_strip_51 : decode prog_3_method_29_code 51 = .ok (.ifCond .eq 33, 3) := by decide +kernel
theorem d_Gr_strip_54 : decode prog_3_method_29_code 54 = .ok (.aload_n 0, 1) := by decide +kernel
theorem d_Gr_strip_55 : decode prog_3_method_29_code 55 = .ok (.getfield 9, 3) := by decide +kernel
theorem d_Gr_strip_58 : decode prog_3_method_29_code 58 = .ok (.iload 4, 2) := by decide +kernel
theorem d_Gr_strip_60 : decode prog_3_method_29_code 60 = .ok (.iaload, 1) := by decide +kernel
theorem d_Gr_strip_61 : decode prog_3_method_29_code 61 = .ok (.aload_n 0, 1) := by decide +kernel
theorem d_Gr_strip_62 : decode prog_3_method_29_code 62 = .ok (.getfield 9, 3) := by decide +kernel
theorem d_Gr_strip_65 : decode prog_3_method_29_code 65 = .ok (.iload_n 1, 1) := by decide +kernel
theorem d_Gr_strip_66 : decode prog_3_method_29_code 66 = .ok (.iaload, 1) := by decide +kernel
theorem d_Gr_strip_67 : decode prog_3_method_29_code 67 = .ok (.if_icmp .eq 6, 3) := by decide +kernel
theorem d_Gr_strip_70 : decode prog_3_method_29_code 70 = .ok (.goto 14, 3) := by decide +kernel
theorem d_Gr_strip_73 : decode prog_3_method_29_code 73 = .ok (.aload_n 0, 1) := by decide +kernel
theorem d_Gr_strip_74 : decode prog_3_method_29_code 74 = .ok (.getfield 25, 3) := by decide +kernel
theorem d_Gr_strip_77 : decode prog_3_method_29_code 77 = .ok (.iload 4, 2) := by decide +kernel
theorem d_Gr_strip_79 : decode prog_3_method_29_code 79 = .ok (.iconst (-1), 1) := by decide +kernel
theorem d_Gr_strip_80 : decode prog_3_method_29_code 80 = .ok (.iastore, 1) := by decide +kernel
theorem d_Gr_strip_81 : decode prog_3_method_29_code 81 = .ok (.iinc 3 1, 3) := by decide +kernel
theorem d_Gr_strip_84 : decode prog_3_method_29_code 84 = .ok (.iinc 4 1, 3) := by decide +kernel
theorem d_Gr_strip_87 : decode prog_3_method_29_code 87 = .ok (.goto (-75), 3) := by decide +kernel
theorem d_Gr_strip_90 : decode prog_3_method_29_code 90 = .ok (.iload_n 3, 1) := by decide +kernel
theorem d_Gr_strip_91 : decode prog_3_method_29_code 91 = .ok (.ireturn, 1) := by decide +kernel
set_option maxHeartbeats 4000000 in
set_option maxRecDepth 100000 in
theorem K_Gr_strip_12 {F : FT} (hD : ∀ σ, va_D F.2.2.1 (GW F.2.1 σ)) (hm : F.2.2.2.2.2.2.2.2.2.2.2.2.2.2.1 = 6) (ok : OkF F prog_3_method_29_code "LastSeen$Graves" ({ frames := 0, cells := 0, slots := 0, locals := 0 } : Room)) {Q : Int → SS → Prop} (hQ : RetI F Q) {x1 x2 x3 x4 : Int} {s : SS} (h : B_Gr_strip_12 Q (fun x1 x2 x3 x4 s => AtS F 12 [(0, .ref (F.2.1.1 9)), (1, vI x1), (2, vI x2), (3, vI x3), (4, vI x4)] [] s) (fun x1 x2 x3 x4 y0 s => AtS F 47 [(0, .ref (F.2.1.1 9)), (1, vI x1), (2, vI x2), (3, vI x3), (4, vI x4)] [vI y0] s) x1 x2 x3 x4 s) : AtS F 12 [(0, .ref (F.2.1.1 9)), (1, vI x1), (2, vI x2), (3, vI x3), (4, vI x4)] [] s := by
  unfold B_Gr_strip_12 at h
  refine r_iload ok 4 d_Gr_strip_12 rfl ?_
  refine r_aload_n ok 0 d_Gr_strip_14 rfl rfl ?_
  refine g_Gr_setCount ok d_Gr_strip_15 ?_
  refine r_icmp_ge ok 90 d_Gr_strip_18 (by decide) h.1 h.2.1 (fun c => ?_) (fun c => ?_)
  · replace h := h.2.2.1 c
    refine r_iload_n ok 3 d_Gr_strip_90 rfl rfl ?_
    exact hQ _ _ _ _ _ (ok_code ok) d_Gr_strip_91 h
  · replace h := h.2.2.2 c
    refine r_aload_n ok 0 d_Gr_strip_21 rfl rfl ?_
    refine g_Gr_given ok d_Gr_strip_22 ?_
    refine r_iload ok 4 d_Gr_strip_25 rfl ?_
    refine r_iald ok 50 d_Gr_strip_27 (by decide) rfl h.1 ?_
    replace h := h.2
    refine r_if_lt ok 46 d_Gr_strip_28 (by decide) h.1 (fun c => ?_) (fun c => ?_)
    · replace h := h.2.1 c
      refine r_iconst ok 0 d_Gr_strip_46 rfl ?_
      exact r_sub [0, 1, 2, 3, 4] rfl h
    · replace h := h.2.2 c
      refine r_aload_n ok 0 d_Gr_strip_31 rfl rfl ?_
      refine g_Gr_givenTurn ok d_Gr_strip_32 ?_
      refine r_iload ok 4 d_Gr_strip_35 rfl ?_
      refine r_iald ok 51 d_Gr_strip_37 (by decide) rfl h.1 ?_
      replace h := h.2
      refine r_iload_n ok 2 d_Gr_strip_38 rfl rfl ?_
      refine r_icmp_lt ok 46 d_Gr_strip_39 (by decide) h.1 h.2.1 (fun c => ?_) (fun c => ?_)
      · replace h := h.2.2.1 c
        refine r_iconst ok 0 d_Gr_strip_46 rfl ?_
        exact r_sub [0, 1, 2, 3, 4] rfl h
      · replace h := h.2.2.2 c
        refine r_iconst ok 1 d_Gr_strip_42 rfl ?_
        refine r_goto ok 47 d_Gr_strip_43 (by decide) ?_
        exact r_sub [0, 1, 2, 3, 4] rfl h
set_option maxHeartbeats 4000000 in
set_option maxRecDepth 100000 in
theorem K_Gr_strip_47 {F : FT} (hD : ∀ σ, va_D F.2.2.1 (GW F.2.1 σ)) (hm : F.2.2.2.2.2.2.2.2.2.2.2.2.2.2.1 = 6) (ok : OkF F prog_3_method_29_code "LastSeen$Graves" ({ frames := 0, cells := 0, slots := 0, locals := 0 } : Room)) {Q : Int → SS → Prop} (hQ : RetI F Q) {x1 x2 x3 x4 y0 : Int} {s : SS} (h : B_Gr_strip_47 Q (fun x1 x2 x3 x4 s => AtS F 12 [(0, .ref (F.2.1.1 9)), (1, vI x1), (2, vI x2), (3, vI x3), (4, vI x4)] [] s) (fun x1 x2 x3 x4 y0 s => AtS F 47 [(0, .ref (F.2.1.1 9)), (1, vI x1), (2, vI x2), (3, vI x3), (4, vI x4)] [vI y0] s) x1 x2 x3 x4 y0 s) : AtS F 47 [(0, .ref (F.2.1.1 9)), (1, vI x1), (2, vI x2), (3, vI x3), (4, vI x4)] [vI y0] s := by
  unfold B_Gr_strip_47 at h
  refine r_istore ok [(5, vI y0), (0, .ref (F.2.1.1 9)), (1, vI x1), (2, vI x2), (3, vI x3), (4, vI x4)] d_Gr_strip_47 hm (by decide) rfl ?_
  refine r_iload ok 0 d_Gr_strip_49 rfl ?_
  refine r_if_eq ok 84 d_Gr_strip_51 (by decide) h.1 (fun c => ?_) (fun c => ?_)
  · replace h := h.2.1 c
    refine r_iinc ok 5 (x4 + 1) [(4, vI (x4 + 1)), (5, vI y0), (0, .ref (F.2.1.1 9)), (1, vI x1), (2, vI x2), (3, vI x3)] d_Gr_strip_84 rfl rfl hm (by decide) rfl ?_
    refine r_goto ok 12 d_Gr_strip_87 (by decide) ?_
    exact r_sub [2, 3, 4, 5, 0] rfl h
  · replace h := h.2.2 c
    refine r_aload_n ok 1 d_Gr_strip_54 rfl rfl ?_
    refine g_Gr_grave ok d_Gr_strip_55 ?_
    refine r_iload ok 5 d_Gr_strip_58 rfl ?_
    refine r_iald ok 45 d_Gr_strip_60 (by decide) rfl h.1 ?_
    replace h := h.2
    refine r_aload_n ok 1 d_Gr_strip_61 rfl rfl ?_
    refine g_Gr_grave ok d_Gr_strip_62 ?_
    refine r_iload_n ok 2 d_Gr_strip_65 rfl rfl ?_
    refine r_iald ok 45 d_Gr_strip_66 (by decide) rfl h.1 ?_
    replace h := h.2
    refine r_icmp_eq ok 73 d_Gr_strip_67 (by decide) h.1 h.2.1 (fun c => ?_) (fun c => ?_)
    · replace h := h.2.2.1 c
      refine r_aload_n ok 1 d_Gr_strip_73 rfl rfl ?_
      refine g_Gr_given ok d_Gr_strip_74 ?_
      refine r_iload ok 5 d_Gr_strip_77 rfl ?_
      refine r_iconst ok (-1) d_Gr_strip_79 rfl ?_
      refine r_iast ok 50 d_Gr_strip_80 (by decide) rfl h.1 ?_
      replace h := h.2 _ rfl
      generalize sA s 50 x4 (-1) = s1 at h ⊢
      refine r_iinc ok 4 (x3 + 1) [(3, vI (x3 + 1)), (5, vI y0), (0, .ref (F.2.1.1 9)), (1, vI x1), (2, vI x2), (4, vI x4)] d_Gr_strip_81 rfl rfl hm (by decide) rfl ?_
      refine r_iinc ok 5 (x4 + 1) [(4, vI (x4 + 1)), (3, vI (x3 + 1)), (5, vI y0), (0, .ref (F.2.1.1 9)), (1, vI x1), (2, vI x2)] d_Gr_strip_84 rfl rfl hm (by decide) rfl ?_
      refine r_goto ok 12 d_Gr_strip_87 (by decide) ?_
      exact r_sub [3, 4, 5, 1, 0] rfl h
    · replace h := h.2.2.2 c
      refine r_goto ok 84 d_Gr_strip_70 (by decide) ?_
      refine r_iinc ok 5 (x4 + 1) [(4, vI (x4 + 1)), (5, vI y0), (0, .ref (F.2.1.1 9)), (1, vI x1), (2, vI x2), (3, vI x3)] d_Gr_strip_84 rfl rfl hm (by decide) rfl ?_
      refine r_goto ok 12 d_Gr_strip_87 (by decide) ?_
      exact r_sub [2, 3, 4, 5, 0] rfl h
set_option maxHeartbeats 4000000 in
set_option maxRecDepth 100000 in
theorem K_Gr_strip_e {F : FT} (hD : ∀ σ, va_D F.2.2.1 (GW F.2.1 σ)) (hm : F.2.2.2.2.2.2.2.2.2.2.2.2.2.2.1 = 6) (ok : OkF F prog_3_method_29_code "LastSeen$Graves" ({ frames := 0, cells := 0, slots := 0, locals := 0 } : Room)) {Q : Int → SS → Prop} (hQ : RetI F Q) {x1 : Int} {s : SS} (h : B_Gr_strip_e Q (fun x1 x2 x3 x4 s => AtS F 12 [(0, .ref (F.2.1.1 9)), (1, vI x1), (2, vI x2), (3, vI x3), (4, vI x4)] [] s) (fun x1 x2 x3 x4 y0 s => AtS F 47 [(0, .ref (F.2.1.1 9)), (1, vI x1), (2, vI x2), (3, vI x3), (4, vI x4)] [vI y0] s) x1 s) : AtS F 0 [(0, .ref (F.2.1.1 9)), (1, vI x1)] [] s := by
  unfold B_Gr_strip_e at h
  refine r_aload_n ok 0 d_Gr_strip_0 rfl rfl ?_
  refine g_Gr_givenTurn ok d_Gr_strip_1 ?_
  refine r_iload_n ok 1 d_Gr_strip_4 rfl rfl ?_
  refine r_iald ok 51 d_Gr_strip_5 (by decide) rfl h.1 ?_
  replace h := h.2
  refine r_istore_n ok [(2, vI (s.2 51 x1)), (0, .ref (F.2.1.1 9)), (1, vI x1)] d_Gr_strip_6 rfl hm (by decide) rfl ?_
  refine r_iconst ok 0 d_Gr_strip_7 rfl ?_
  refine r_istore_n ok [(3, vI 0), (2, vI (s.2 51 x1)), (0, .ref (F.2.1.1 9)), (1, vI x1)] d_Gr_strip_8 rfl hm (by decide) rfl ?_
  refine r_iconst ok 0 d_Gr_strip_9 rfl ?_
  refine r_istore ok [(4, vI 0), (3, vI 0), (2, vI (s.2 51 x1)), (0, .ref (F.2.1.1 9)), (1, vI x1)] d_Gr_strip_10 hm (by decide) rfl ?_
  exact r_sub [3, 4, 2, 1, 0] rfl h
theorem L_Gr_strip (l : Launch) (G : GE) (A : Nat → Prop) (hD : ∀ σ, va_D A (GW G σ)) {x1 : Int} {s : SS} {Q : Int → SS → Prop} (h : Sp_Gr_strip x1 s Q) : Met l y_Gr_strip (Cond.code y_Gr_strip prog_3_method_29_code 6 (some .int) :: lw_ok) ({ frames := 0, cells := 0, slots := 0, locals := 0 } : Room) (va_Pc [.ref (G.1 9), vI x1] (gB G s)) (va_Qi (fun (r : Int32) (s2 : SS) => ∃ x : Int, r = iI x ∧ Q x s2) (fun s2 t => gB G s2 t) A) 0 0 A := by
  refine met_i hD (by decide) ⟨rfl, rfl⟩ (Nat.le_of_ble_eq_true rfl) (lv := [(0, .ref (G.1 9)), (1, vI x1)]) rfl (fun F h1 h2 h3 hm ok hQ => ?_)
  subst h1 h2 h3
  have hDF := hD
  exact K_Gr_strip_e hDF hm ok hQ (h _ _ (fun _ _ _ _ _ hb => K_Gr_strip_12 hDF hm ok hQ hb) (fun _ _ _ _ _ _ hb => K_Gr_strip_47 hDF hm ok hQ hb))
theorem d_LS_take_0 : decode prog_1_method_35_code 0 = .ok (.aload_n 0, 1) := by decide +kernel
theorem d_LS_take_1 : decode prog_1_method_35_code 1 = .ok (.iload_n 1, 1) := by decide +kernel
theorem d_LS_take_2 : decode prog_1_method_35_code 2 = .ok (.invokevirtual 327, 3) := by decide +kernel
theorem d_LS_take_5 : decode prog_1_method_35_code 5 = .ok (.ifCond .ne 5, 3) := by decide +kernel
theorem d_LS_take_8 : decode prog_1_method_35_code 8 = .ok (.iconst (-1), 1) := by decide +kernel
theorem d_LS_take_9 : decode prog_1_method_35_code 9 = .ok (.ireturn, 1) := by decide +kernel
theorem d_LS_take_10 : decode prog_1_method_35_code 10 = .ok (.aload_n 0, 1) := by decide +kernel
theorem d_LS_take_11 : decode prog_1_method_35_code 11 = .ok (.getfield 70, 3) := by decide +kernel
theorem d_LS_take_14 : decode prog_1_method_35_code 14 = .ok (.iload_n 1, 1) := by decide +kernel
theorem d_LS_take_15 : decode prog_1_method_35_code 15 = .ok (.invokevirtual 351, 3) := by decide +kernel
theorem d_LS_take_18 : decode prog_1_method_35_code 18 = .ok (.ifCond .ge 6, 3) := by decide +kernel
theorem d_LS_take_21 : decode prog_1_method_35_code 21 = .ok (.bipush (-3), 2) := by decide +kernel
theorem d_LS_take_23 : decode prog_1_method_35_code 23 = .ok (.ireturn, 1) := by decide +kernel
theorem d_LS_take_24 : decode prog_1_method_35_code 24 = .ok (.aload_n 0, 1) := by decide +kernel
theorem d_LS_take_25 : decode prog_1_method_35_code 25 = .ok (.getfield 70, 3) := by decide +kernel
theorem d_LS_take_28 : decode prog_1_method_35_code 28 = .ok (.iload_n 1, 1) := by decide +kernel
theorem d_LS_take_29 : decode prog_1_method_35_code 29 = .ok (.invokevirtual 360, 3) := by decide +kernel
theorem d_LS_take_32 : decode prog_1_method_35_code 32 = .ok (.ireturn, 1) := by decide +kernel
set_option maxHeartbeats 4000000 in
set_option maxRecDepth 100000 in
theorem K_LS_take_e {F : FT} (hD : ∀ σ, va_D F.2.2.1 (GW F.2.1 σ)) (hm : F.2.2.2.2.2.2.2.2.2.2.2.2.2.2.1 = 2) (ok : OkF F prog_1_method_35_code "LastSeen" ({ frames := 2, cells := 0, slots := 0, locals := 41 } : Room)) {Q : Int → SS → Prop} (hQ : RetI F Q) {x1 : Int} {s : SS} (h : Sp_LS_take x1 s Q) : AtS F 0 [(0, .ref (F.2.1.1 0)), (1, vI x1)] [] s := by
  unfold Sp_LS_take at h
  refine r_aload_n ok 0 d_LS_take_0 rfl rfl ?_
  refine r_iload_n ok 1 d_LS_take_1 rfl rfl ?_
  refine r_callVi (As := [vI x1]) (rest := []) ok 0 rfl rfl rfl wl_LS_327 wi_y_LS_isSet ws_y_LS_isSet wn_LS wc_y_LS_isSet (by decide) (by decide) hh_LS_isSet (Nat.le_of_ble_eq_true rfl) rfl d_LS_take_2 (L_LS_isSet F.1 F.2.1 F.2.2.1 hD h) (fun r2 s1 h => ?_)
  refine r_if_ne ok 10 d_LS_take_5 (by decide) h.1 (fun c => ?_) (fun c => ?_)
  · replace h := h.2.1 c
    refine r_aload_n ok 0 d_LS_take_10 rfl rfl ?_
    refine g_LS_graves ok d_LS_take_11 ?_
    refine r_iload_n ok 1 d_LS_take_14 rfl rfl ?_
    refine r_callVi (As := [vI x1]) (rest := []) ok 9 rfl rfl rfl wl_LS_351 wi_y_Gr_givenTo ws_y_Gr_givenTo wn_Gr wc_y_Gr_givenTo (by decide) (by decide) hh_Gr_givenTo (Nat.le_of_ble_eq_true rfl) rfl d_LS_take_15 (L_Gr_givenTo F.1 F.2.1 F.2.2.1 hD h) (fun r4 s3 h => ?_)
    refine r_if_ge ok 24 d_LS_take_18 (by decide) h.1 (fun c => ?_) (fun c => ?_)
    · replace h := h.2.1 c
      refine r_aload_n ok 0 d_LS_take_24 rfl rfl ?_
      refine g_LS_graves ok d_LS_take_25 ?_
      refine r_iload_n ok 1 d_LS_take_28 rfl rfl ?_
      refine r_callVi (As := [vI x1]) (rest := []) ok 9 rfl rfl rfl wl_LS_360 wi_y_Gr_strip ws_y_Gr_strip wn_Gr wc_y_Gr_strip (by decide) (by decide) hh_Gr_strip (Nat.le_of_ble_eq_true rfl) rfl d_LS_take_29 (L_Gr_strip F.1 F.2.1 F.2.2.1 hD h) (fun r6 s5 h => ?_)
      exact hQ _ _ _ _ _ (ok_code ok) d_LS_take_32 h
    · replace h := h.2.2 c
      refine r_bipush ok (-3) d_LS_take_21 (by decide) ?_
      exact hQ _ _ _ _ _ (ok_code ok) d_LS_take_23 h
  · replace h := h.2.2 c
    refine r_iconst ok (-1) d_LS_take_8 rfl ?_
    exact hQ _ _ _ _ _ (ok_code ok) d_LS_take_9 h
theorem L_LS_take (l : Launch) (G : GE) (A : Nat → Prop) (hD : ∀ σ, va_D A (GW G σ)) {x1 : Int} {s : SS} {Q : Int → SS → Prop} (h : Sp_LS_take x1 s Q) : Met l y_LS_take (Cond.code y_LS_take prog_1_method_35_code 2 (some .int) :: lw_ok) ({ frames := 2, cells := 0, slots := 0, locals := 41 } : Room) (va_Pc [.ref (G.1 0), vI x1] (gB G s)) (va_Qi (fun (r : Int32) (s2 : SS) => ∃ x : Int, r = iI x ∧ Q x s2) (fun s2 t => gB G s2 t) A) 0 0 A := by
  refine met_i hD (by decide) ⟨rfl, rfl⟩ (Nat.le_of_ble_eq_true rfl) (lv := [(0, .ref (G.1 0)), (1, vI x1)]) rfl (fun F h1 h2 h3 hm ok hQ => ?_)
  subst h1 h2 h3
  have hDF := hD
  exact K_LS_take_e hDF hm ok hQ h
theorem d_LS_named_0 : decode prog_1_method_36_code 0 = .ok (.aload_n 0, 1) := by decide +kernel
theorem d_LS_named_1 : decode prog_1_method_36_code 1 = .ok (.iload_n 1, 1) := by decide +kernel
theorem d_LS_named_2 : decode prog_1_method_36_code 2 = .ok (.invokevirtual 327, 3) := by decide +kernel
theorem d_LS_named_5 : decode prog_1_method_36_code 5 = .ok (.ifCond .ne 5, 3) := by decide +kernel
theorem d_LS_named_8 : decode prog_1_method_36_code 8 = .ok (.iconst (-1), 1) := by decide +kernel
theorem d_LS_named_9 : decode prog_1_method_36_code 9 = .ok (.ireturn, 1) := by decide +kernel
theorem d_LS_named_10 : decode prog_1_method_36_code 10 = .ok (.aload_n 0, 1) := by decide +kernel
theorem d_LS_named_11 : decode prog_1_method_36_code 11 = .ok (.getfield 70, 3) := by decide +kernel
theorem d_LS_named_14 : decode prog_1_method_36_code 14 = .ok (.iload_n 1, 1) := by decide +kernel
theorem d_LS_named_15 : decode prog_1_method_36_code 15 = .ok (.invokevirtual 351, 3) := by decide +kernel
theorem d_LS_named_18 : decode prog_1_method_36_code 18 = .ok (.istore_n 2, 1) := by decide +kernel
theorem d_LS_named_19 : decode prog_1_method_36_code 19 = .ok (.iload_n 2, 1) := by decide +kernel
theorem d_LS_named_20 : decode prog_1_method_36_code 20 = .ok (.ifCond .ge 8, 3) := by decide +kernel
theorem d_LS_named_23 : decode prog_1_method_36_code 23 = .ok (.bipush (-5), 2) := by decide +kernel
theorem d_LS_named_25 : decode prog_1_method_36_code 25 = .ok (.goto 11, 3) := by decide +kernel
theorem d_LS_named_28 : decode prog_1_method_36_code 28 = .ok (.aload_n 0, 1) := by decide +kernel
theorem d_LS_named_29 : decode prog_1_method_36_code 29 = .ok (.getfield 70, 3) := by decide +kernel
theorem d_LS_named_32 : decode prog_1_method_36_code 32 = .ok (.iload_n 2, 1) := by decide +kernel
theorem d_LS_named_33 : decode prog_1_method_36_code 33 = .ok (.invokevirtual 345, 3) := by decide +kernel
theorem d_LS_named_36 : decode prog_1_method_36_code 36 = .ok (.ireturn, 1) := by decide +kernel
set_option maxHeartbeats 4000000 in
set_option maxRecDepth 100000 in
theorem K_LS_named_e {F : FT} (hD : ∀ σ, va_D F.2.2.1 (GW F.2.1 σ)) (hm : F.2.2.2.2.2.2.2.2.2.2.2.2.2.2.1 = 3) (ok : OkF F prog_1_method_36_code "LastSeen" ({ frames := 2, cells := 0, slots := 0, locals := 41 } : Room)) {Q : Int → SS → Prop} (hQ : RetI F Q) {x1 : Int} {s : SS} (h : Sp_LS_named x1 s Q) : AtS F 0 [(0, .ref (F.2.1.1 0)), (1, vI x1)] [] s := by
  unfold Sp_LS_named at h
  refine r_aload_n ok 0 d_LS_named_0 rfl rfl ?_
  refine r_iload_n ok 1 d_LS_named_1 rfl rfl ?_
  refine r_callVi (As := [vI x1]) (rest := []) ok 0 rfl rfl rfl wl_LS_327 wi_y_LS_isSet ws_y_LS_isSet wn_LS wc_y_LS_isSet (by decide) (by decide) hh_LS_isSet (Nat.le_of_ble_eq_true rfl) rfl d_LS_named_2 (L_LS_isSet F.1 F.2.1 F.2.2.1 hD h) (fun r2 s1 h => ?_)
  refine r_if_ne ok 10 d_LS_named_5 (by decide) h.1 (fun c => ?_) (fun c => ?_)
  · replace h := h.2.1 c
    refine r_aload_n ok 0 d_LS_named_10 rfl rfl ?_
    refine g_LS_graves ok d_LS_named_11 ?_
    refine r_iload_n ok 1 d_LS_named_14 rfl rfl ?_
    refine r_callVi (As := [vI x1]) (rest := []) ok 9 rfl rfl rfl wl_LS_351 wi_y_Gr_givenTo ws_y_Gr_givenTo wn_Gr wc_y_Gr_givenTo (by decide) (by decide) hh_Gr_givenTo (Nat.le_of_ble_eq_true rfl) rfl d_LS_named_15 (L_Gr_givenTo F.1 F.2.1 F.2.2.1 hD h) (fun r4 s3 h => ?_)
    refine r_istore_n ok [(2, vI r4), (0, .ref (F.2.1.1 0)), (1, vI x1)] d_LS_named_18 rfl hm (by decide) rfl ?_
    refine r_iload_n ok 0 d_LS_named_19 rfl rfl ?_
    refine r_if_ge ok 28 d_LS_named_20 (by decide) h.1 (fun c => ?_) (fun c => ?_)
    · replace h := h.2.1 c
      refine r_aload_n ok 1 d_LS_named_28 rfl rfl ?_
      refine g_LS_graves ok d_LS_named_29 ?_
      refine r_iload_n ok 0 d_LS_named_32 rfl rfl ?_
      refine r_callVi (As := [vI r4]) (rest := []) ok 9 rfl rfl rfl wl_LS_345 wi_y_Gr_lostName ws_y_Gr_lostName wn_Gr wc_y_Gr_lostName (by decide) (by decide) hh_Gr_lostName (Nat.le_of_ble_eq_true rfl) rfl d_LS_named_33 (L_Gr_lostName F.1 F.2.1 F.2.2.1 hD h) (fun r6 s5 h => ?_)
      exact hQ _ _ _ _ _ (ok_code ok) d_LS_named_36 h
    · replace h := h.2.2 c
      refine r_bipush ok (-5) d_LS_named_23 (by decide) ?_
      refine r_goto ok 36 d_LS_named_25 (by decide) ?_
      exact hQ _ _ _ _ _ (ok_code ok) d_LS_named_36 h
  · replace h := h.2.2 c
    refine r_iconst ok (-1) d_LS_named_8 rfl ?_
    exact hQ _ _ _ _ _ (ok_code ok) d_LS_named_9 h
theorem L_LS_named (l : Launch) (G : GE) (A : Nat → Prop) (hD : ∀ σ, va_D A (GW G σ)) {x1 : Int} {s : SS} {Q : Int → SS → Prop} (h : Sp_LS_named x1 s Q) : Met l y_LS_named (Cond.code y_LS_named prog_1_method_36_code 3 (some .int) :: lw_ok) ({ frames := 2, cells := 0, slots := 0, locals := 41 } : Room) (va_Pc [.ref (G.1 0), vI x1] (gB G s)) (va_Qi (fun (r : Int32) (s2 : SS) => ∃ x : Int, r = iI x ∧ Q x s2) (fun s2 t => gB G s2 t) A) 0 0 A := by
  refine met_i hD (by decide) ⟨rfl, rfl⟩ (Nat.le_of_ble_eq_true rfl) (lv := [(0, .ref (G.1 0)), (1, vI x1)]) rfl (fun F h1 h2 h3 hm ok hQ => ?_)
  subst h1 h2 h3
  have hDF := hD
  exact K_LS_named_e hDF hm ok hQ h
theorem d_LS_personsNow_0 : decode prog_1_method_50_code 0 = .ok (.aload_n 0, 1) := by decide +kernel
theorem d_LS_personsNow_1 : decode prog_1_method_50_code 1 = .ok (.getfield 26, 3) := by decide +kernel
theorem d_LS_personsNow_4 : decode prog_1_method_50_code 4 = .ok (.aload_n 0, 1) := by decide +kernel
theorem d_LS_personsNow_5 : decode prog_1_method_50_code 5 = .ok (.getfield 122, 3) := by decide +kernel
theorem d_LS_personsNow_8 : decode prog_1_method_50_code 8 = .ok (.invokevirtual 153, 3) := by decide +kernel
theorem d_LS_personsNow_11 : decode prog_1_method_50_code 11 = .ok (.iconst 0, 1) := by decide +kernel
theorem d_LS_personsNow_12 : decode prog_1_method_50_code 12 = .ok (.istore_n 1, 1) := by decide +kernel
theorem d_LS_personsNow_13 : decode prog_1_method_50_code 13 = .ok (.iconst 0, 1) := by decide +kernel
theorem d_LS_personsNow_14 : decode prog_1_method_50_code 14 = .ok (.istore_n 2, 1) := by decide +kernel
theorem d_LS_personsNow_15 : decode prog_1_method_50_code 15 = .ok (.iload_n 2, 1) := by decide +kernel
theorem d_LS_personsNow_16 : decode prog_1_method_50_code 16 = .ok (.aload_n 0, 1) := by decide +kernel
theorem d_LS_personsNow_17 : decode prog_1_method_50_code 17 = .ok (.getfield 26, 3) := by decide +kernel
theorem d_LS_personsNow_20 : decode prog_1_method_50_code 20 = .ok (.invokevirtual 115, 3) := by decide +kernel
theorem d_LS_personsNow_23 : decode prog_1_method_50_code 23 = .ok (.if_icmp .ge 24, 3) := by decide +kernel
theorem d_LS_personsNow_26 : decode prog_1_method_50_code 26 = .ok (.aload_n 0, 1) := by decide +kernel
theorem d_LS_personsNow_27 : decode prog_1_method_50_code 27 = .ok (.getfield 26, 3) := by decide +kernel
theorem d_LS_personsNow_30 : decode prog_1_method_50_code 30 = .ok (.iload_n 2, 1) := by decide +kernel
theorem d_LS_personsNow_31 : decode prog_1_method_50_code 31 = .ok (.invokevirtual 164, 3) := by decide +kernel
theorem d_LS_personsNow_34 : decode prog_1_method_50_code 34 = .ok (.iload_n 2, 1) := by decide +kernel
theorem d_LS_personsNow_35 : decode prog_1_method_50_code 35 = .ok (.if_icmp .ne 6, 3) := by decide +kernel
theorem d_LS_personsNow_38 : decode prog_1_method_50_code 38 = .ok (.iinc 1 1, 3) := by decide +kernel
theorem d_LS_personsNow_41 : decode prog_1_method_50_code 41 = .ok (.iinc 2 1, 3) := by decide +kernel
theorem d_LS_personsNow_44 : decode prog_1_method_50_code 44 = .ok (.goto (-29), 3) := by decide +kernel
theorem d_LS_personsNow_47 : decode prog_1_method_50_code 47 = .ok (.iload_n 1, 1) := by decide +kernel
theorem d_LS_personsNow_48 : decode prog_1_method_50_code 48 = .ok (.ireturn, 1) := by decide +kernel
set_option maxHeartbeats 4000000 in
set_option maxRecDepth 100000 in
theorem K_LS_personsNow_15 {F : FT} (hD : ∀ σ, va_D F.2.2.1 (GW F.2.1 σ)) (hm : F.2.2.2.2.2.2.2.2.2.2.2.2.2.2.1 = 3) (ok : OkF F prog_1_method_50_code "LastSeen" ({ frames := 3, cells := 0, slots := 0, locals := 67 } : Room)) {Q : Int → SS → Prop} (hQ : RetI F Q) {x1 x2 : Int} {s : SS} (h : B_LS_personsNow_15 Q (fun x1 x2 s => AtS F 15 [(0, .ref (F.2.1.1 0)), (1, vI x1), (2, vI x2)] [] s) x1 x2 s) : AtS F 15 [(0, .ref (F.2.1.1 0)), (1, vI x1), (2, vI x2)] [] s := by
  unfold B_LS_personsNow_15 at h
  refine r_iload_n ok 2 d_LS_personsNow_15 rfl rfl ?_
  refine r_aload_n ok 0 d_LS_personsNow_16 rfl rfl ?_
  refine g_LS_names ok d_LS_personsNow_17 ?_
  refine r_callVi (As := []) (rest := [vI x2]) ok 3 rfl rfl rfl wl_LS_115 wi_y_Na_size ws_y_Na_size wn_Na wc_y_Na_size (by decide) (by decide) hh_Na_size (Nat.le_of_ble_eq_true rfl) rfl d_LS_personsNow_20 (L_Na_size F.1 F.2.1 F.2.2.1 hD h) (fun r3 s2 h => ?_)
  refine r_icmp_ge ok 47 d_LS_personsNow_23 (by decide) h.1 h.2.1 (fun c => ?_) (fun c => ?_)
  · replace h := h.2.2.1 c
    refine r_iload_n ok 1 d_LS_personsNow_47 rfl rfl ?_
    exact hQ _ _ _ _ _ (ok_code ok) d_LS_personsNow_48 h
  · replace h := h.2.2.2 c
    refine r_aload_n ok 0 d_LS_personsNow_26 rfl rfl ?_
    refine g_LS_names ok d_LS_personsNow_27 ?_
    refine r_iload_n ok 2 d_LS_personsNow_30 rfl rfl ?_
    refine r_callVi (As := [vI x2]) (rest := []) ok 3 rfl rfl rfl wl_LS_164 wi_y_Na_leastOf ws_y_Na_leastOf wn_Na wc_y_Na_leastOf (by decide) (by decide) hh_Na_leastOf (Nat.le_of_ble_eq_true rfl) rfl d_LS_personsNow_31 (L_Na_leastOf F.1 F.2.1 F.2.2.1 hD h) (fun r5 s4 h => ?_)
    refine r_iload_n ok 2 d_LS_personsNow_34 rfl rfl ?_
    refine r_icmp_ne ok 41 d_LS_personsNow_35 (by decide) h.1 h.2.1 (fun c => ?_) (fun c => ?_)
    · replace h := h.2.2.1 c
      refine r_iinc ok 2 (x2 + 1) [(2, vI (x2 + 1)), (0, .ref (F.2.1.1 0)), (1, vI x1)] d_LS_personsNow_41 rfl rfl hm (by decide) rfl ?_
      refine r_goto ok 15 d_LS_personsNow_44 (by decide) ?_
      exact r_sub [1, 2, 0] rfl h
    · replace h := h.2.2.2 c
      refine r_iinc ok 1 (x1 + 1) [(1, vI (x1 + 1)), (0, .ref (F.2.1.1 0)), (2, vI x2)] d_LS_personsNow_38 rfl rfl hm (by decide) rfl ?_
      refine r_iinc ok 2 (x2 + 1) [(2, vI (x2 + 1)), (1, vI (x1 + 1)), (0, .ref (F.2.1.1 0))] d_LS_personsNow_41 rfl rfl hm (by decide) rfl ?_
      refine r_goto ok 15 d_LS_personsNow_44 (by decide) ?_
      exact r_sub [2, 1, 0] rfl h
set_option maxHeartbeats 4000000 in
set_option maxRecDepth 100000 in
theorem K_LS_personsNow_e {F : FT} (hD : ∀ σ, va_D F.2.2.1 (GW F.2.1 σ)) (hm : F.2.2.2.2.2.2.2.2.2.2.2.2.2.2.1 = 3) (ok : OkF F prog_1_method_50_code "LastSeen" ({ frames := 3, cells := 0, slots := 0, locals := 67 } : Room)) {Q : Int → SS → Prop} (hQ : RetI F Q) {s : SS} (h : B_LS_personsNow_e Q (fun x1 x2 s => AtS F 15 [(0, .ref (F.2.1.1 0)), (1, vI x1), (2, vI x2)] [] s)  s) : AtS F 0 [(0, .ref (F.2.1.1 0))] [] s := by
  unfold B_LS_personsNow_e at h
  refine r_aload_n ok 0 d_LS_personsNow_0 rfl rfl ?_
  refine g_LS_names ok d_LS_personsNow_1 ?_
  refine r_aload_n ok 0 d_LS_personsNow_4 rfl rfl ?_
  refine g_LS_entries ok d_LS_personsNow_5 ?_
  refine r_callVv (As := [vI (s.1 1)]) (rest := []) ok 3 rfl rfl rfl wl_LS_153 wi_y_Na_readBy ws_y_Na_readBy wn_Na wc_y_Na_readBy (by decide) (by decide) hh_Na_readBy (Nat.le_of_ble_eq_true rfl) rfl d_LS_personsNow_8 (L_Na_readBy F.1 F.2.1 F.2.2.1 hD h) (fun s1 h => ?_)
  refine r_iconst ok 0 d_LS_personsNow_11 rfl ?_
  refine r_istore_n ok [(1, vI 0), (0, .ref (F.2.1.1 0))] d_LS_personsNow_12 rfl hm (by decide) rfl ?_
  refine r_iconst ok 0 d_LS_personsNow_13 rfl ?_
  refine r_istore_n ok [(2, vI 0), (1, vI 0), (0, .ref (F.2.1.1 0))] d_LS_personsNow_14 rfl hm (by decide) rfl ?_
  exact r_sub [2, 1, 0] rfl h
theorem L_LS_personsNow (l : Launch) (G : GE) (A : Nat → Prop) (hD : ∀ σ, va_D A (GW G σ)) {s : SS} {Q : Int → SS → Prop} (h : Sp_LS_personsNow  s Q) : Met l y_LS_personsNow (Cond.code y_LS_personsNow prog_1_method_50_code 3 (some .int) :: lw_ok) ({ frames := 3, cells := 0, slots := 0, locals := 67 } : Room) (va_Pc [.ref (G.1 0)] (gB G s)) (va_Qi (fun (r : Int32) (s2 : SS) => ∃ x : Int, r = iI x ∧ Q x s2) (fun s2 t => gB G s2 t) A) 0 0 A := by
  refine met_i hD (by decide) ⟨rfl, rfl⟩ (Nat.le_of_ble_eq_true rfl) (lv := [(0, .ref (G.1 0))]) rfl (fun F h1 h2 h3 hm ok hQ => ?_)
  subst h1 h2 h3
  have hDF := hD
  exact K_LS_personsNow_e hDF hm ok hQ (h _ (fun _ _ _ hb => K_LS_personsNow_15 hDF hm ok hQ hb))
theorem d_LS_standingNow_0 : decode prog_1_method_51_code 0 = .ok (.aload_n 0, 1) := by decide +kernel
theorem d_LS_standingNow_1 : decode prog_1_method_51_code 1 = .ok (.getfield 33, 3) := by decide +kernel
theorem d_LS_standingNow_4 : decode prog_1_method_51_code 4 = .ok (.aload_n 0, 1) := by decide +kernel
theorem d_LS_standingNow_5 : decode prog_1_method_51_code 5 = .ok (.getfield 122, 3) := by decide +kernel
theorem d_LS_standingNow_8 : decode prog_1_method_51_code 8 = .ok (.aload_n 0, 1) := by decide +kernel
theorem d_LS_standingNow_9 : decode prog_1_method_51_code 9 = .ok (.getfield 122, 3) := by decide +kernel
theorem d_LS_standingNow_12 : decode prog_1_method_51_code 12 = .ok (.invokevirtual 201, 3) := by decide +kernel
theorem d_LS_standingNow_15 : decode prog_1_method_51_code 15 = .ok (.aload_n 0, 1) := by decide +kernel
theorem d_LS_standingNow_16 : decode prog_1_method_51_code 16 = .ok (.getfield 33, 3) := by decide +kernel
theorem d_LS_standingNow_19 : decode prog_1_method_51_code 19 = .ok (.invokevirtual 204, 3) := by decide +kernel
theorem d_LS_standingNow_22 : decode prog_1_method_51_code 22 = .ok (.ireturn, 1) := by decide +kernel
set_option maxHeartbeats 4000000 in
set_option maxRecDepth 100000 in
theorem K_LS_standingNow_e {F : FT} (hD : ∀ σ, va_D F.2.2.1 (GW F.2.1 σ)) (hm : F.2.2.2.2.2.2.2.2.2.2.2.2.2.2.1 = 1) (ok : OkF F prog_1_method_51_code "LastSeen" ({ frames := 1, cells := 0, slots := 0, locals := 24 } : Room)) {Q : Int → SS → Prop} (hQ : RetI F Q) {s : SS} (h : Sp_LS_standingNow  s Q) : AtS F 0 [(0, .ref (F.2.1.1 0))] [] s := by
  unfold Sp_LS_standingNow at h
  refine r_aload_n ok 0 d_LS_standingNow_0 rfl rfl ?_
  refine g_LS_words ok d_LS_standingNow_1 ?_
  refine r_aload_n ok 0 d_LS_standingNow_4 rfl rfl ?_
  refine g_LS_entries ok d_LS_standingNow_5 ?_
  refine r_aload_n ok 0 d_LS_standingNow_8 rfl rfl ?_
  refine g_LS_entries ok d_LS_standingNow_9 ?_
  refine r_callVv (As := [vI (s.1 1), vI (s.1 1)]) (rest := []) ok 4 rfl rfl rfl wl_LS_201 wi_y_Wo_readBy ws_y_Wo_readBy wn_Wo wc_y_Wo_readBy (by decide) (by decide) hh_Wo_readBy (Nat.le_of_ble_eq_true rfl) rfl d_LS_standingNow_12 (L_Wo_readBy F.1 F.2.1 F.2.2.1 hD h) (fun s1 h => ?_)
  refine r_aload_n ok 0 d_LS_standingNow_15 rfl rfl ?_
  refine g_LS_words ok d_LS_standingNow_16 ?_
  refine r_callVi (As := []) (rest := []) ok 4 rfl rfl rfl wl_LS_204 wi_y_Wo_standing ws_y_Wo_standing wn_Wo wc_y_Wo_standing (by decide) (by decide) hh_Wo_standing (Nat.le_of_ble_eq_true rfl) rfl d_LS_standingNow_19 (L_Wo_standing F.1 F.2.1 F.2.2.1 hD h) (fun r3 s2 h => ?_)
  exact hQ _ _ _ _ _ (ok_code ok) d_LS_standingNow_22 h
theorem L_LS_standingNow (l : Launch) (G : GE) (A : Nat → Prop) (hD : ∀ σ, va_D A (GW G σ)) {s : SS} {Q : Int → SS → Prop} (h : Sp_LS_standingNow  s Q) : Met l y_LS_standingNow (Cond.code y_LS_standingNow prog_1_method_51_code 1 (some .int) :: lw_ok) ({ frames := 1, cells := 0, slots := 0, locals := 24 } : Room) (va_Pc [.ref (G.1 0)] (gB G s)) (va_Qi (fun (r : Int32) (s2 : SS) => ∃ x : Int, r = iI x ∧ Q x s2) (fun s2 t => gB G s2 t) A) 0 0 A := by
  refine met_i hD (by decide) ⟨rfl, rfl⟩ (Nat.le_of_ble_eq_true rfl) (lv := [(0, .ref (G.1 0))]) rfl (fun F h1 h2 h3 hm ok hQ => ?_)
  subst h1 h2 h3
  have hDF := hD
  exact K_LS_standingNow_e hDF hm ok hQ h
theorem d_Gr_givenSets_0 : decode prog_3_method_30_code 0 = .ok (.iconst 0, 1) := by decide +kernel
theorem d_Gr_givenSets_1 : decode prog_3_method_30_code 1 = .ok (.istore_n 1, 1) := by decide +kernel
theorem d_Gr_givenSets_2 : decode prog_3_method_30_code 2 = .ok (.iconst 0, 1) := by decide +kernel
theorem d_Gr_givenSets_3 : decode prog_3_method_30_code 3 = .ok (.istore_n 2, 1) := by decide +kernel
theorem d_Gr_givenSets_4 : decode prog_3_method_30_code 4 = .ok (.iload_n 2, 1) := by decide +kernel
theorem d_Gr_givenSets_5 : decode prog_3_method_30_code 5 = .ok (.aload_n 0, 1) := by decide +kernel
theorem d_Gr_givenSets_6 : decode prog_3_method_30_code 6 = .ok (.getfield 56, 3) := by decide +kernel
theorem d_Gr_givenSets_9 : decode prog_3_method_30_code 9 = .ok (.if_icmp .ge 21, 3) := by decide +kernel
theorem d_Gr_givenSets_12 : decode prog_3_method_30_code 12 = .ok (.aload_n 0, 1) := by decide +kernel
theorem d_Gr_givenSets_13 : decode prog_3_method_30_code 13 = .ok (.getfield 25, 3) := by decide +kernel
theorem d_Gr_givenSets_16 : decode prog_3_method_30_code 16 = .ok (.iload_n 2, 1) := by decide +kernel
theorem d_Gr_givenSets_17 : decode prog_3_method_30_code 17 = .ok (.iaload, 1) := by decide +kernel
theorem d_Gr_givenSets_18 : decode prog_3_method_30_code 18 = .ok (.ifCond .lt 6, 3) := by decide +kernel
theorem d_Gr_givenSets_21 : decode prog_3_method_30_code 21 = .ok (.iinc 1 1, 3) := by decide +kernel
theorem d_Gr_givenSets_24 : decode prog_3_method_30_code 24 = .ok (.iinc 2 1, 3) := by decide +kernel
theorem d_Gr_givenSets_27 : decode prog_3_method_30_code 27 = .ok (.goto (-23), 3) := by decide +kernel
theorem d_Gr_givenSets_30 : decode prog_3_method_30_code 30 = .ok (.iload_n 1, 1) := by decide +kernel
theorem d_Gr_givenSets_31 : decode prog_3_method_30_code 31 = .ok (.ireturn, 1) := by decide +kernel
set_option maxHeartbeats 4000000 in
set_option maxRecDepth 100000 in
theorem K_Gr_givenSets_4 {F : FT} (hD : ∀ σ, va_D F.2.2.1 (GW F.2.1 σ)) (hm : F.2.2.2.2.2.2.2.2.2.2.2.2.2.2.1 = 3) (ok : OkF F prog_3_method_30_code "LastSeen$Graves" ({ frames := 0, cells := 0, slots := 0, locals := 0 } : Room)) {Q : Int → SS → Prop} (hQ : RetI F Q) {x1 x2 : Int} {s : SS} (h : B_Gr_givenSets_4 Q (fun x1 x2 s => AtS F 4 [(0, .ref (F.2.1.1 9)), (1, vI x1), (2, vI x2)] [] s) x1 x2 s) : AtS F 4 [(0, .ref (F.2.1.1 9)), (1, vI x1), (2, vI x2)] [] s := by
  unfold B_Gr_givenSets_4 at h
  refine r_iload_n ok 2 d_Gr_givenSets_4 rfl rfl ?_
  refine r_aload_n ok 0 d_Gr_givenSets_5 rfl rfl ?_
  refine g_Gr_setCount ok d_Gr_givenSets_6 ?_
  refine r_icmp_ge ok 30 d_Gr_givenSets_9 (by decide) h.1 h.2.1 (fun c => ?_) (fun c => ?_)
  · replace h := h.2.2.1 c
    refine r_iload_n ok 1 d_Gr_givenSets_30 rfl rfl ?_
    exact hQ _ _ _ _ _ (ok_code ok) d_Gr_givenSets_31 h
  · replace h := h.2.2.2 c
    refine r_aload_n ok 0 d_Gr_givenSets_12 rfl rfl ?_
    refine g_Gr_given ok d_Gr_givenSets_13 ?_
    refine r_iload_n ok 2 d_Gr_givenSets_16 rfl rfl ?_
    refine r_iald ok 50 d_Gr_givenSets_17 (by decide) rfl h.1 ?_
    replace h := h.2
    refine r_if_lt ok 24 d_Gr_givenSets_18 (by decide) h.1 (fun c => ?_) (fun c => ?_)
    · replace h := h.2.1 c
      refine r_iinc ok 2 (x2 + 1) [(2, vI (x2 + 1)), (0, .ref (F.2.1.1 9)), (1, vI x1)] d_Gr_givenSets_24 rfl rfl hm (by decide) rfl ?_
      refine r_goto ok 4 d_Gr_givenSets_27 (by decide) ?_
      exact r_sub [1, 2, 0] rfl h
    · replace h := h.2.2 c
      refine r_iinc ok 1 (x1 + 1) [(1, vI (x1 + 1)), (0, .ref (F.2.1.1 9)), (2, vI x2)] d_Gr_givenSets_21 rfl rfl hm (by decide) rfl ?_
      refine r_iinc ok 2 (x2 + 1) [(2, vI (x2 + 1)), (1, vI (x1 + 1)), (0, .ref (F.2.1.1 9))] d_Gr_givenSets_24 rfl rfl hm (by decide) rfl ?_
      refine r_goto ok 4 d_Gr_givenSets_27 (by decide) ?_
      exact r_sub [2, 1, 0] rfl h
set_option maxHeartbeats 4000000 in
set_option maxRecDepth 100000 in
theorem K_Gr_givenSets_e {F : FT} (hD : ∀ σ, va_D F.2.2.1 (GW F.2.1 σ)) (hm : F.2.2.2.2.2.2.2.2.2.2.2.2.2.2.1 = 3) (ok : OkF F prog_3_method_30_code "LastSeen$Graves" ({ frames := 0, cells := 0, slots := 0, locals := 0 } : Room)) {Q : Int → SS → Prop} (hQ : RetI F Q) {s : SS} (h : B_Gr_givenSets_e Q (fun x1 x2 s => AtS F 4 [(0, .ref (F.2.1.1 9)), (1, vI x1), (2, vI x2)] [] s)  s) : AtS F 0 [(0, .ref (F.2.1.1 9))] [] s := by
  unfold B_Gr_givenSets_e at h
  refine r_iconst ok 0 d_Gr_givenSets_0 rfl ?_
  refine r_istore_n ok [(1, vI 0), (0, .ref (F.2.1.1 9))] d_Gr_givenSets_1 rfl hm (by decide) rfl ?_
  refine r_iconst ok 0 d_Gr_givenSets_2 rfl ?_
  refine r_istore_n ok [(2, vI 0), (1, vI 0), (0, .ref (F.2.1.1 9))] d_Gr_givenSets_3 rfl hm (by decide) rfl ?_
  exact r_sub [2, 1, 0] rfl h
theorem L_Gr_givenSets (l : Launch) (G : GE) (A : Nat → Prop) (hD : ∀ σ, va_D A (GW G σ)) {s : SS} {Q : Int → SS → Prop} (h : Sp_Gr_givenSets  s Q) : Met l y_Gr_givenSets (Cond.code y_Gr_givenSets prog_3_method_30_code 3 (some .int) :: lw_ok) ({ frames := 0, cells := 0, slots := 0, locals := 0 } : Room) (va_Pc [.ref (G.1 9)] (gB G s)) (va_Qi (fun (r : Int32) (s2 : SS) => ∃ x : Int, r = iI x ∧ Q x s2) (fun s2 t => gB G s2 t) A) 0 0 A := by
  refine met_i hD (by decide) ⟨rfl, rfl⟩ (Nat.le_of_ble_eq_true rfl) (lv := [(0, .ref (G.1 9))]) rfl (fun F h1 h2 h3 hm ok hQ => ?_)
  subst h1 h2 h3
  have hDF := hD
  exact K_Gr_givenSets_e hDF hm ok hQ (h _ (fun _ _ _ hb => K_Gr_givenSets_4 hDF hm ok hQ hb))
theorem d_LS_count_0 : decode prog_1_method_37_code 0 = .ok (.iload_n 1, 1) := by decide +kernel
theorem d_LS_count_1 : decode prog_1_method_37_code 1 = .ok (.tableswitch 149 0 11 #[63, 68, 76, 81, 89, 94, 102, 107, 117, 125, 133, 141], 63) := by decide +kernel
theorem d_LS_count_64 : decode prog_1_method_37_code 64 = .ok (.aload_n 0, 1) := by decide +kernel
theorem d_LS_count_65 : decode prog_1_method_37_code 65 = .ok (.getfield 122, 3) := by decide +kernel
theorem d_LS_count_68 : decode prog_1_method_37_code 68 = .ok (.ireturn, 1) := by decide +kernel
theorem d_LS_count_69 : decode prog_1_method_37_code 69 = .ok (.aload_n 0, 1) := by decide +kernel
theorem d_LS_count_70 : decode prog_1_method_37_code 70 = .ok (.getfield 26, 3) := by decide +kernel
theorem d_LS_count_73 : decode prog_1_method_37_code 73 = .ok (.invokevirtual 115, 3) := by decide +kernel
theorem d_LS_count_76 : decode prog_1_method_37_code 76 = .ok (.ireturn, 1) := by decide +kernel
theorem d_LS_count_77 : decode prog_1_method_37_code 77 = .ok (.aload_n 0, 1) := by decide +kernel
theorem d_LS_count_78 : decode prog_1_method_37_code 78 = .ok (.invokevirtual 363, 3) := by decide +kernel
theorem d_LS_count_81 : decode prog_1_method_37_code 81 = .ok (.ireturn, 1) := by decide +kernel
theorem d_LS_count_82 : decode prog_1_method_37_code 82 = .ok (.aload_n 0, 1) := by decide +kernel
theorem d_LS_count_83 : decode prog_1_method_37_code 83 = .ok (.getfield 33, 3) := by decide +kernel
theorem d_LS_count_86 : decode prog_1_method_37_code 86 = .ok (.invokevirtual 184, 3) := by decide +kernel
theorem d_LS_count_89 : decode prog_1_method_37_code 89 = .ok (.ireturn, 1) := by decide +kernel
theorem d_LS_count_90 : decode prog_1_method_37_code 90 = .ok (.aload_n 0, 1) := by decide +kernel
theorem d_LS_count_91 : decode prog_1_method_37_code 91 = .ok (.invokevirtual 366, 3) := by decide +kernel
theorem d_LS_count_94 : decode prog_1_method_37_code 94 = .ok (.ireturn, 1) := by decide +kernel
theorem d_LS_count_95 : decode prog_1_method_37_code 95 = .ok (.aload_n 0, 1) := by decide +kernel
theorem d_LS_count_96 : decode prog_1_method_37_code 96 = .ok (.getfield 54, 3) := by decide +kernel
theorem d_LS_count_99 : decode prog_1_method_37_code 99 = .ok (.invokevirtual 255, 3) := by decide +kernel
theorem d_LS_count_102 : decode prog_1_method_37_code 102 = .ok (.ireturn, 1) := by decide +kernel
theorem d_LS_count_103 : decode prog_1_method_37_code 103 = .ok (.aload_n 0, 1) := by decide +kernel
theorem d_LS_count_104 : decode prog_1_method_37_code 104 = .ok (.getfield 269, 3) := by decide +kernel
theorem d_LS_count_107 : decode prog_1_method_37_code 107 = .ok (.ireturn, 1) := by decide +kernel
theorem d_LS_count_108 : decode prog_1_method_37_code 108 = .ok (.aload_n 0, 1) := by decide +kernel
theorem d_LS_count_109 : decode prog_1_method_37_code 109 = .ok (.iconst 0, 1) := by decide +kernel
theorem d_LS_count_110 : decode prog_1_method_37_code 110 = .ok (.aload_n 0, 1) := by decide +kernel
theorem d_LS_count_111 : decode prog_1_method_37_code 111 = .ok (.getfield 269, 3) := by decide +kernel
theorem d_LS_count_114 : decode prog_1_method_37_code 114 = .ok (.invokevirtual 272, 3) := by decide +kernel
theorem d_LS_count_117 : decode prog_1_method_37_code 117 = .ok (.ireturn, 1) := by decide +kernel
theorem d_LS_count_118 : decode prog_1_method_37_code 118 = .ok (.aload_n 0, 1) := by decide +kernel
theorem d_LS_count_119 : decode prog_1_method_37_code 119 = .ok (.getfield 70, 3) := by decide +kernel
theorem d_LS_count_122 : decode prog_1_method_37_code 122 = .ok (.invokevirtual 305, 3) := by decide +kernel
theorem d_LS_count_125 : decode prog_1_method_37_code 125 = .ok (.ireturn, 1) := by decide +kernel
theorem d_LS_count_126 : decode prog_1_method_37_code 126 = .ok (.aload_n 0, 1) := by decide +kernel
theorem d_LS_count_127 : decode prog_1_method_37_code 127 = .ok (.getfield 70, 3) := by decide +kernel
theorem d_LS_count_130 : decode prog_1_method_37_code 130 = .ok (.invokevirtual 315, 3) := by decide +kernel
theorem d_LS_count_133 : decode prog_1_method_37_code 133 = .ok (.ireturn, 1) := by decide +kernel
theorem d_LS_count_134 : decode prog_1_method_37_code 134 = .ok (.aload_n 0, 1) := by decide +kernel
theorem d_LS_count_135 : decode prog_1_method_37_code 135 = .ok (.getfield 70, 3) := by decide +kernel
theorem d_LS_count_138 : decode prog_1_method_37_code 138 = .ok (.invokevirtual 369, 3) := by decide +kernel
theorem d_LS_count_141 : decode prog_1_method_37_code 141 = .ok (.ireturn, 1) := by decide +kernel
theorem d_LS_count_142 : decode prog_1_method_37_code 142 = .ok (.aload_n 0, 1) := by decide +kernel
theorem d_LS_count_143 : decode prog_1_method_37_code 143 = .ok (.getfield 19, 3) := by decide +kernel
theorem d_LS_count_146 : decode prog_1_method_37_code 146 = .ok (.invokevirtual 372, 3) := by decide +kernel
theorem d_LS_count_149 : decode prog_1_method_37_code 149 = .ok (.ireturn, 1) := by decide +kernel
theorem d_LS_count_150 : decode prog_1_method_37_code 150 = .ok (.iconst (-1), 1) := by decide +kernel
theorem d_LS_count_151 : decode prog_1_method_37_code 151 = .ok (.ireturn, 1) := by decide +kernel
set_option maxHeartbeats 4000000 in
set_option maxRecDepth 100000 in
theorem K_LS_count_e {F : FT} (hD : ∀ σ, va_D F.2.2.1 (GW F.2.1 σ)) (hm : F.2.2.2.2.2.2.2.2.2.2.2.2.2.2.1 = 2) (ok : OkF F prog_1_method_37_code "LastSeen" ({ frames := 6, cells := 0, slots := 0, locals := 148 } : Room)) {Q : Int → SS → Prop} (hQ : RetI F Q) {x1 : Int} {s : SS} (h : Sp_LS_count x1 s Q) : AtS F 0 [(0, .ref (F.2.1.1 0)), (1, vI x1)] [] s := by
  unfold Sp_LS_count at h
  refine r_iload_n ok 1 d_LS_count_0 rfl rfl ?_
  have hx := h.1
  replace h := h.2
  rcases Decidable.em (x1 = 0) with c0 | c0
  · replace h := h.1 c0
    refine r_tblIn ok 0 64 d_LS_count_1 hx c0 (by decide) rfl (by decide) ?_
    refine r_aload_n ok 0 d_LS_count_64 rfl rfl ?_
    refine g_LS_entries ok d_LS_count_65 ?_
    exact hQ _ _ _ _ _ (ok_code ok) d_LS_count_68 h
  replace h := h.2
  rcases Decidable.em (x1 = 1) with c1 | c1
  · replace h := h.1 c1
    refine r_tblIn ok 1 69 d_LS_count_1 hx c1 (by decide) rfl (by decide) ?_
    refine r_aload_n ok 0 d_LS_count_69 rfl rfl ?_
    refine g_LS_names ok d_LS_count_70 ?_
    refine r_callVi (As := []) (rest := []) ok 3 rfl rfl rfl wl_LS_115 wi_y_Na_size ws_y_Na_size wn_Na wc_y_Na_size (by decide) (by decide) hh_Na_size (Nat.le_of_ble_eq_true rfl) rfl d_LS_count_73 (L_Na_size F.1 F.2.1 F.2.2.1 hD h) (fun r2 s1 h => ?_)
    exact hQ _ _ _ _ _ (ok_code ok) d_LS_count_76 h
  replace h := h.2
  rcases Decidable.em (x1 = 2) with c2 | c2
  · replace h := h.1 c2
    refine r_tblIn ok 2 77 d_LS_count_1 hx c2 (by decide) rfl (by decide) ?_
    refine r_aload_n ok 0 d_LS_count_77 rfl rfl ?_
    refine r_callVi (As := []) (rest := []) ok 0 rfl rfl rfl wl_LS_363 wi_y_LS_personsNow ws_y_LS_personsNow wn_LS wc_y_LS_personsNow (by decide) (by decide) hh_LS_personsNow (Nat.le_of_ble_eq_true rfl) rfl d_LS_count_78 (L_LS_personsNow F.1 F.2.1 F.2.2.1 hD h) (fun r4 s3 h => ?_)
    exact hQ _ _ _ _ _ (ok_code ok) d_LS_count_81 h
  replace h := h.2
  rcases Decidable.em (x1 = 3) with c3 | c3
  · replace h := h.1 c3
    refine r_tblIn ok 3 82 d_LS_count_1 hx c3 (by decide) rfl (by decide) ?_
    refine r_aload_n ok 0 d_LS_count_82 rfl rfl ?_
    refine g_LS_words ok d_LS_count_83 ?_
    refine r_callVi (As := []) (rest := []) ok 4 rfl rfl rfl wl_LS_184 wi_y_Wo_size ws_y_Wo_size wn_Wo wc_y_Wo_size (by decide) (by decide) hh_Wo_size (Nat.le_of_ble_eq_true rfl) rfl d_LS_count_86 (L_Wo_size F.1 F.2.1 F.2.2.1 hD h) (fun r6 s5 h => ?_)
    exact hQ _ _ _ _ _ (ok_code ok) d_LS_count_89 h
  replace h := h.2
  rcases Decidable.em (x1 = 4) with c4 | c4
  · replace h := h.1 c4
    refine r_tblIn ok 4 90 d_LS_count_1 hx c4 (by decide) rfl (by decide) ?_
    refine r_aload_n ok 0 d_LS_count_90 rfl rfl ?_
    refine r_callVi (As := []) (rest := []) ok 0 rfl rfl rfl wl_LS_366 wi_y_LS_standingNow ws_y_LS_standingNow wn_LS wc_y_LS_standingNow (by decide) (by decide) hh_LS_standingNow (Nat.le_of_ble_eq_true rfl) rfl d_LS_count_91 (L_LS_standingNow F.1 F.2.1 F.2.2.1 hD h) (fun r8 s7 h => ?_)
    exact hQ _ _ _ _ _ (ok_code ok) d_LS_count_94 h
  replace h := h.2
  rcases Decidable.em (x1 = 5) with c5 | c5
  · replace h := h.1 c5
    refine r_tblIn ok 5 95 d_LS_count_1 hx c5 (by decide) rfl (by decide) ?_
    refine r_aload_n ok 0 d_LS_count_95 rfl rfl ?_
    refine g_LS_rules ok d_LS_count_96 ?_
    refine r_callVi (As := []) (rest := []) ok 7 rfl rfl rfl wl_LS_255 wi_y_Ru_size ws_y_Ru_size wn_Ru wc_y_Ru_size (by decide) (by decide) hh_Ru_size (Nat.le_of_ble_eq_true rfl) rfl d_LS_count_99 (L_Ru_size F.1 F.2.1 F.2.2.1 hD h) (fun r10 s9 h => ?_)
    exact hQ _ _ _ _ _ (ok_code ok) d_LS_count_102 h
  replace h := h.2
  rcases Decidable.em (x1 = 6) with c6 | c6
  · replace h := h.1 c6
    refine r_tblIn ok 6 103 d_LS_count_1 hx c6 (by decide) rfl (by decide) ?_
    refine r_aload_n ok 0 d_LS_count_103 rfl rfl ?_
    refine g_LS_founds ok d_LS_count_104 ?_
    exact hQ _ _ _ _ _ (ok_code ok) d_LS_count_107 h
  replace h := h.2
  rcases Decidable.em (x1 = 7) with c7 | c7
  · replace h := h.1 c7
    refine r_tblIn ok 7 108 d_LS_count_1 hx c7 (by decide) rfl (by decide) ?_
    refine r_aload_n ok 0 d_LS_count_108 rfl rfl ?_
    refine r_iconst ok 0 d_LS_count_109 rfl ?_
    refine r_aload_n ok 0 d_LS_count_110 rfl rfl ?_
    refine g_LS_founds ok d_LS_count_111 ?_
    refine r_callVi (As := [vI 0, vI (s.1 0)]) (rest := []) ok 0 rfl rfl rfl wl_LS_272 wi_y_LS_holding ws_y_LS_holding wn_LS wc_y_LS_holding (by decide) (by decide) hh_LS_holding (Nat.le_of_ble_eq_true rfl) rfl d_LS_count_114 (L_LS_holding F.1 F.2.1 F.2.2.1 hD h) (fun r12 s11 h => ?_)
    exact hQ _ _ _ _ _ (ok_code ok) d_LS_count_117 h
  replace h := h.2
  rcases Decidable.em (x1 = 8) with c8 | c8
  · replace h := h.1 c8
    refine r_tblIn ok 8 118 d_LS_count_1 hx c8 (by decide) rfl (by decide) ?_
    refine r_aload_n ok 0 d_LS_count_118 rfl rfl ?_
    refine g_LS_graves ok d_LS_count_119 ?_
    refine r_callVi (As := []) (rest := []) ok 9 rfl rfl rfl wl_LS_305 wi_y_Gr_sets ws_y_Gr_sets wn_Gr wc_y_Gr_sets (by decide) (by decide) hh_Gr_sets (Nat.le_of_ble_eq_true rfl) rfl d_LS_count_122 (L_Gr_sets F.1 F.2.1 F.2.2.1 hD h) (fun r14 s13 h => ?_)
    exact hQ _ _ _ _ _ (ok_code ok) d_LS_count_125 h
  replace h := h.2
  rcases Decidable.em (x1 = 9) with c9 | c9
  · replace h := h.1 c9
    refine r_tblIn ok 9 126 d_LS_count_1 hx c9 (by decide) rfl (by decide) ?_
    refine r_aload_n ok 0 d_LS_count_126 rfl rfl ?_
    refine g_LS_graves ok d_LS_count_127 ?_
    refine r_callVi (As := []) (rest := []) ok 9 rfl rfl rfl wl_LS_315 wi_y_Gr_lost ws_y_Gr_lost wn_Gr wc_y_Gr_lost (by decide) (by decide) hh_Gr_lost (Nat.le_of_ble_eq_true rfl) rfl d_LS_count_130 (L_Gr_lost F.1 F.2.1 F.2.2.1 hD h) (fun r16 s15 h => ?_)
    exact hQ _ _ _ _ _ (ok_code ok) d_LS_count_133 h
  replace h := h.2
  rcases Decidable.em (x1 = 10) with c10 | c10
  · replace h := h.1 c10
    refine r_tblIn ok 10 134 d_LS_count_1 hx c10 (by decide) rfl (by decide) ?_
    refine r_aload_n ok 0 d_LS_count_134 rfl rfl ?_
    refine g_LS_graves ok d_LS_count_135 ?_
    refine r_callVi (As := []) (rest := []) ok 9 rfl rfl rfl wl_LS_369 wi_y_Gr_givenSets ws_y_Gr_givenSets wn_Gr wc_y_Gr_givenSets (by decide) (by decide) hh_Gr_givenSets (Nat.le_of_ble_eq_true rfl) rfl d_LS_count_138 (L_Gr_givenSets F.1 F.2.1 F.2.2.1 hD h) (fun r18 s17 h => ?_)
    exact hQ _ _ _ _ _ (ok_code ok) d_LS_count_141 h
  replace h := h.2
  rcases Decidable.em (x1 = 11) with c11 | c11
  · replace h := h.1 c11
    refine r_tblIn ok 11 142 d_LS_count_1 hx c11 (by decide) rfl (by decide) ?_
    refine r_aload_n ok 0 d_LS_count_142 rfl rfl ?_
    refine g_LS_tape ok d_LS_count_143 ?_
    refine r_callVi (As := []) (rest := []) ok 2 rfl rfl rfl wl_LS_372 wi_y_Ta_size ws_y_Ta_size wn_Ta wc_y_Ta_size (by decide) (by decide) hh_Ta_size (Nat.le_of_ble_eq_true rfl) rfl d_LS_count_146 (L_Ta_size F.1 F.2.1 F.2.2.1 hD h) (fun r20 s19 h => ?_)
    exact hQ _ _ _ _ _ (ok_code ok) d_LS_count_149 h
  replace h := h.2
  replace h := h c0 c1 c2 c3 c4 c5 c6 c7 c8 c9 c10 c11
  refine r_tblOut ok 150 d_LS_count_1 hx (by omega) (by decide) ?_
  refine r_iconst ok (-1) d_LS_count_150 rfl ?_
  exact hQ _ _ _ _ _ (ok_code ok) d_LS_count_151 h
theorem L_LS_count (l : Launch) (G : GE) (A : Nat → Prop) (hD : ∀ σ, va_D A (GW G σ)) {x1 : Int} {s : SS} {Q : Int → SS → Prop} (h : Sp_LS_count x1 s Q) : Met l y_LS_count (Cond.code y_LS_count prog_1_method_37_code 2 (some .int) :: lw_ok) ({ frames := 6, cells := 0, slots := 0, locals := 148 } : Room) (va_Pc [.ref (G.1 0), vI x1] (gB G s)) (va_Qi (fun (r : Int32) (s2 : SS) => ∃ x : Int, r = iI x ∧ Q x s2) (fun s2 t => gB G s2 t) A) 0 0 A := by
  refine met_i hD (by decide) ⟨rfl, rfl⟩ (Nat.le_of_ble_eq_true rfl) (lv := [(0, .ref (G.1 0)), (1, vI x1)]) rfl (fun F h1 h2 h3 hm ok hQ => ?_)
  subst h1 h2 h3
  have hDF := hD
  exact K_LS_count_e hDF hm ok hQ h
theorem d_Md_isIn_0 : decode prog_12_method_2_code 0 = .ok (.lload_n 0, 1) := by decide +kernel
theorem d_Md_isIn_1 : decode prog_12_method_2_code 1 = .ok (.lload_n 2, 1) := by decide +kernel
theorem d_Md_isIn_2 : decode prog_12_method_2_code 2 = .ok (.lcmp, 1) := by decide +kernel
theorem d_Md_isIn_3 : decode prog_12_method_2_code 3 = .ok (.ifCond .lt 14, 3) := by decide +kernel
theorem d_Md_isIn_6 : decode prog_12_method_2_code 6 = .ok (.lload_n 0, 1) := by decide +kernel
theorem d_Md_isIn_7 : decode prog_12_method_2_code 7 = .ok (.lload 4, 2) := by decide +kernel
theorem d_Md_isIn_9 : decode prog_12_method_2_code 9 = .ok (.lcmp, 1) := by decide +kernel
theorem d_Md_isIn_10 : decode prog_12_method_2_code 10 = .ok (.ifCond .gt 7, 3) := by decide +kernel
theorem d_Md_isIn_13 : decode prog_12_method_2_code 13 = .ok (.iconst 1, 1) := by decide +kernel
theorem d_Md_isIn_14 : decode prog_12_method_2_code 14 = .ok (.goto 4, 3) := by decide +kernel
theorem d_Md_isIn_17 : decode prog_12_method_2_code 17 = .ok (.iconst 0, 1) := by decide +kernel
theorem d_Md_isIn_18 : decode prog_12_method_2_code 18 = .ok (.ireturn, 1) := by decide +kernel
set_option maxHeartbeats 4000000 in
set_option maxRecDepth 100000 in
theorem K_Md_isIn_e {F : FT} (hD : ∀ σ, va_D F.2.2.1 (GW F.2.1 σ)) (hm : F.2.2.2.2.2.2.2.2.2.2.2.2.2.2.1 = 6) (ok : OkF F prog_12_method_2_code "LastSeenModel" ({ frames := 0, cells := 0, slots := 0, locals := 0 } : Room)) {Q : Int → SS → Prop} (hQ : RetZ F Q) {x0 x2 x4 : Int} {s : SS} (h : Sp_Md_isIn x0 x2 x4 s Q) : AtS F 0 [(0, vJ x0), (2, vJ x2), (4, vJ x4)] [] s := by
  unfold Sp_Md_isIn at h
  refine r_lload_n ok 0 d_Md_isIn_0 rfl rfl ?_
  refine r_lload_n ok 1 d_Md_isIn_1 rfl rfl ?_
  refine r_lcmp_lt ok 17 d_Md_isIn_2 d_Md_isIn_3 (by decide) h.1 h.2.1 (fun c => ?_) (fun c => ?_)
  · replace h := h.2.2.1 c
    refine r_iconst ok 0 d_Md_isIn_17 rfl ?_
    exact hQ _ _ _ _ _ (ok_code ok) d_Md_isIn_18 (by decide) h
  · replace h := h.2.2.2 c
    refine r_lload_n ok 0 d_Md_isIn_6 rfl rfl ?_
    refine r_lload ok 2 d_Md_isIn_7 rfl ?_
    refine r_lcmp_gt ok 17 d_Md_isIn_9 d_Md_isIn_10 (by decide) h.1 h.2.1 (fun c => ?_) (fun c => ?_)
    · replace h := h.2.2.1 c
      refine r_iconst ok 0 d_Md_isIn_17 rfl ?_
      exact hQ _ _ _ _ _ (ok_code ok) d_Md_isIn_18 (by decide) h
    · replace h := h.2.2.2 c
      refine r_iconst ok 1 d_Md_isIn_13 rfl ?_
      refine r_goto ok 18 d_Md_isIn_14 (by decide) ?_
      exact hQ _ _ _ _ _ (ok_code ok) d_Md_isIn_18 (by decide) h
theorem L_Md_isIn (l : Launch) (G : GE) (A : Nat → Prop) (hD : ∀ σ, va_D A (GW G σ)) {x0 x2 x4 : Int} {s : SS} {Q : Int → SS → Prop} (h : Sp_Md_isIn x0 x2 x4 s Q) : Met l y_Md_isIn (Cond.code y_Md_isIn prog_12_method_2_code 6 (some .boolean) :: lw_ok) ({ frames := 0, cells := 0, slots := 0, locals := 0 } : Room) (va_Pc [vJ x0, vJ x2, vJ x4] (gB G s)) (va_Qi (fun (r : Int32) (s2 : SS) => ∃ x : Int, r = iI x ∧ Q x s2) (fun s2 t => gB G s2 t) A) 0 0 A := by
  refine met_z hD (by decide) ⟨rfl, rfl⟩ (Nat.le_of_ble_eq_true rfl) (lv := [(0, vJ x0), (2, vJ x2), (4, vJ x4)]) rfl (fun F h1 h2 h3 hm ok hQ => ?_)
  subst h1 h2 h3
  have hDF := hD
  exact K_Md_isIn_e hDF hm ok hQ h
theorem d_Md_isPlace_0 : decode prog_12_method_3_code 0 = .ok (.iload_n 0, 1) := by decide +kernel
theorem d_Md_isPlace_1 : decode prog_12_method_3_code 1 = .ok (.ifCond .lt 13, 3) := by decide +kernel
theorem d_Md_isPlace_4 : decode prog_12_method_3_code 4 = .ok (.iload_n 0, 1) := by decide +kernel
theorem d_Md_isPlace_5 : decode prog_12_method_3_code 5 = .ok (.bipush 10, 2) := by decide +kernel
theorem d_Md_isPlace_7 : decode prog_12_method_3_code 7 = .ok (.if_icmp .ge 7, 3) := by decide +kernel
theorem d_Md_isPlace_10 : decode prog_12_method_3_code 10 = .ok (.iconst 1, 1) := by decide +kernel
theorem d_Md_isPlace_11 : decode prog_12_method_3_code 11 = .ok (.goto 4, 3) := by decide +kernel
theorem d_Md_isPlace_14 : decode prog_12_method_3_code 14 = .ok (.iconst 0, 1) := by decide +kernel
theorem d_Md_isPlace_15 : decode prog_12_method_3_code 15 = .ok (.ireturn, 1) := by decide +kernel
set_option maxHeartbeats 4000000 in
set_option maxRecDepth 100000 in
theorem K_Md_isPlace_e {F : FT} (hD : ∀ σ, va_D F.2.2.1 (GW F.2.1 σ)) (hm : F.2.2.2.2.2.2.2.2.2.2.2.2.2.2.1 = 1) (ok : OkF F prog_12_method_3_code "LastSeenModel" ({ frames := 0, cells := 0, slots := 0, locals := 0 } : Room)) {Q : Int → SS → Prop} (hQ : RetZ F Q) {x0 : Int} {s : SS} (h : Sp_Md_isPlace x0 s Q) : AtS F 0 [(0, vI x0)] [] s := by
  unfold Sp_Md_isPlace at h
  refine r_iload_n ok 0 d_Md_isPlace_0 rfl rfl ?_
  refine r_if_lt ok 14 d_Md_isPlace_1 (by decide) h.1 (fun c => ?_) (fun c => ?_)
  · replace h := h.2.1 c
    refine r_iconst ok 0 d_Md_isPlace_14 rfl ?_
    exact hQ _ _ _ _ _ (ok_code ok) d_Md_isPlace_15 (by decide) h
  · replace h := h.2.2 c
    refine r_iload_n ok 0 d_Md_isPlace_4 rfl rfl ?_
    refine r_bipush ok 10 d_Md_isPlace_5 (by decide) ?_
    refine r_icmp_ge ok 14 d_Md_isPlace_7 (by decide) h.1 (by decide) (fun c => ?_) (fun c => ?_)
    · replace h := h.2.1 c
      refine r_iconst ok 0 d_Md_isPlace_14 rfl ?_
      exact hQ _ _ _ _ _ (ok_code ok) d_Md_isPlace_15 (by decide) h
    · replace h := h.2.2 c
      refine r_iconst ok 1 d_Md_isPlace_10 rfl ?_
      refine r_goto ok 15 d_Md_isPlace_11 (by decide) ?_
      exact hQ _ _ _ _ _ (ok_code ok) d_Md_isPlace_15 (by decide) h
theorem L_Md_isPlace (l : Launch) (G : GE) (A : Nat → Prop) (hD : ∀ σ, va_D A (GW G σ)) {x0 : Int} {s : SS} {Q : Int → SS → Prop} (h : Sp_Md_isPlace x0 s Q) : Met l y_Md_isPlace (Cond.code y_Md_isPlace prog_12_method_3_code 1 (some .boolean) :: lw_ok) ({ frames := 0, cells := 0, slots := 0, locals := 0 } : Room) (va_Pc [vI x0] (gB G s)) (va_Qi (fun (r : Int32) (s2 : SS) => ∃ x : Int, r = iI x ∧ Q x s2) (fun s2 t => gB G s2 t) A) 0 0 A := by
  refine met_z hD (by decide) ⟨rfl, rfl⟩ (Nat.le_of_ble_eq_true rfl) (lv := [(0, vI x0)]) rfl (fun F h1 h2 h3 hm ok hQ => ?_)
  subst h1 h2 h3
  have hDF := hD
  exact K_Md_isPlace_e hDF hm ok hQ h
theorem d_Md_isName_0 : decode prog_12_method_4_code 0 = .ok (.iload_n 1, 1) := by decide +kernel
theorem d_Md_isName_1 : decode prog_12_method_4_code 1 = .ok (.ifCond .lt 15, 3) := by decide +kernel
theorem d_Md_isName_4 : decode prog_12_method_4_code 4 = .ok (.iload_n 1, 1) := by decide +kernel
theorem d_Md_isName_5 : decode prog_12_method_4_code 5 = .ok (.aload_n 0, 1) := by decide +kernel
theorem d_Md_isName_6 : decode prog_12_method_4_code 6 = .ok (.getfield 179, 3) := by decide +kernel
theorem d_Md_isName_9 : decode prog_12_method_4_code 9 = .ok (.if_icmp .ge 7, 3) := by decide +kernel
theorem d_Md_isName_12 : decode prog_12_method_4_code 12 = .ok (.iconst 1, 1) := by decide +kernel
theorem d_Md_isName_13 : decode prog_12_method_4_code 13 = .ok (.goto 4, 3) := by decide +kernel
theorem d_Md_isName_16 : decode prog_12_method_4_code 16 = .ok (.iconst 0, 1) := by decide +kernel
theorem d_Md_isName_17 : decode prog_12_method_4_code 17 = .ok (.ireturn, 1) := by decide +kernel
set_option maxHeartbeats 4000000 in
set_option maxRecDepth 100000 in
theorem K_Md_isName_e {F : FT} (hD : ∀ σ, va_D F.2.2.1 (GW F.2.1 σ)) (hm : F.2.2.2.2.2.2.2.2.2.2.2.2.2.2.1 = 2) (ok : OkF F prog_12_method_4_code "LastSeenModel" ({ frames := 0, cells := 0, slots := 0, locals := 0 } : Room)) {Q : Int → SS → Prop} (hQ : RetZ F Q) {x1 : Int} {s : SS} (h : Sp_Md_isName x1 s Q) : AtS F 0 [(0, .ref (F.2.1.1 10)), (1, vI x1)] [] s := by
  unfold Sp_Md_isName at h
  refine r_iload_n ok 1 d_Md_isName_0 rfl rfl ?_
  refine r_if_lt ok 16 d_Md_isName_1 (by decide) h.1 (fun c => ?_) (fun c => ?_)
  · replace h := h.2.1 c
    refine r_iconst ok 0 d_Md_isName_16 rfl ?_
    exact hQ _ _ _ _ _ (ok_code ok) d_Md_isName_17 (by decide) h
  · replace h := h.2.2 c
    refine r_iload_n ok 1 d_Md_isName_4 rfl rfl ?_
    refine r_aload_n ok 0 d_Md_isName_5 rfl rfl ?_
    refine g_Md_names ok d_Md_isName_6 ?_
    refine r_icmp_ge ok 16 d_Md_isName_9 (by decide) h.1 h.2.1 (fun c => ?_) (fun c => ?_)
    · replace h := h.2.2.1 c
      refine r_iconst ok 0 d_Md_isName_16 rfl ?_
      exact hQ _ _ _ _ _ (ok_code ok) d_Md_isName_17 (by decide) h
    · replace h := h.2.2.2 c
      refine r_iconst ok 1 d_Md_isName_12 rfl ?_
      refine r_goto ok 17 d_Md_isName_13 (by decide) ?_
      exact hQ _ _ _ _ _ (ok_code ok) d_Md_isName_17 (by decide) h
theorem L_Md_isName (l : Launch) (G : GE) (A : Nat → Prop) (hD : ∀ σ, va_D A (GW G σ)) {x1 : Int} {s : SS} {Q : Int → SS → Prop} (h : Sp_Md_isName x1 s Q) : Met l y_Md_isName (Cond.code y_Md_isName prog_12_method_4_code 2 (some .boolean) :: lw_ok) ({ frames := 0, cells := 0, slots := 0, locals := 0 } : Room) (va_Pc [.ref (G.1 10), vI x1] (gB G s)) (va_Qi (fun (r : Int32) (s2 : SS) => ∃ x : Int, r = iI x ∧ Q x s2) (fun s2 t => gB G s2 t) A) 0 0 A := by
  refine met_z hD (by decide) ⟨rfl, rfl⟩ (Nat.le_of_ble_eq_true rfl) (lv := [(0, .ref (G.1 10)), (1, vI x1)]) rfl (fun F h1 h2 h3 hm ok hQ => ?_)
  subst h1 h2 h3
  have hDF := hD
  exact K_Md_isName_e hDF hm ok hQ h
theorem d_Md_isWord_0 : decode prog_12_method_5_code 0 = .ok (.iload_n 1, 1) := by decide +kernel
theorem d_Md_isWord_1 : decode prog_12_method_5_code 1 = .ok (.ifCond .lt 15, 3) := by decide +kernel
theorem d_Md_isWord_4 : decode prog_12_method_5_code 4 = .ok (.iload_n 1, 1) := by decide +kernel
theorem d_Md_isWord_5 : decode prog_12_method_5_code 5 = .ok (.aload_n 0, 1) := by decide +kernel
theorem d_Md_isWord_6 : decode prog_12_method_5_code 6 = .ok (.getfield 182, 3) := by decide +kernel
theorem d_Md_isWord_9 : decode prog_12_method_5_code 9 = .ok (.if_icmp .ge 7, 3) := by decide +kernel
theorem d_Md_isWord_12 : decode prog_12_method_5_code 12 = .ok (.iconst 1, 1) := by decide +kernel
theorem d_Md_isWord_13 : decode prog_12_method_5_code 13 = .ok (.goto 4, 3) := by decide +kernel
theorem d_Md_isWord_16 : decode prog_12_method_5_code 16 = .ok (.iconst 0, 1) := by decide +kernel
theorem d_Md_isWord_17 : decode prog_12_method_5_code 17 = .ok (.ireturn, 1) := by decide +kernel
set_option maxHeartbeats 4000000 in
set_option maxRecDepth 100000 in
theorem K_Md_isWord_e {F : FT} (hD : ∀ σ, va_D F.2.2.1 (GW F.2.1 σ)) (hm : F.2.2.2.2.2.2.2.2.2.2.2.2.2.2.1 = 2) (ok : OkF F prog_12_method_5_code "LastSeenModel" ({ frames := 0, cells := 0, slots := 0, locals := 0 } : Room)) {Q : Int → SS → Prop} (hQ : RetZ F Q) {x1 : Int} {s : SS} (h : Sp_Md_isWord x1 s Q) : AtS F 0 [(0, .ref (F.2.1.1 10)), (1, vI x1)] [] s := by
  unfold Sp_Md_isWord at h
  refine r_iload_n ok 1 d_Md_isWord_0 rfl rfl ?_
  refine r_if_lt ok 16 d_Md_isWord_1 (by decide) h.1 (fun c => ?_) (fun c => ?_)
  · replace h := h.2.1 c
    refine r_iconst ok 0 d_Md_isWord_16 rfl ?_
    exact hQ _ _ _ _ _ (ok_code ok) d_Md_isWord_17 (by decide) h
  · replace h := h.2.2 c
    refine r_iload_n ok 1 d_Md_isWord_4 rfl rfl ?_
    refine r_aload_n ok 0 d_Md_isWord_5 rfl rfl ?_
    refine g_Md_words ok d_Md_isWord_6 ?_
    refine r_icmp_ge ok 16 d_Md_isWord_9 (by decide) h.1 h.2.1 (fun c => ?_) (fun c => ?_)
    · replace h := h.2.2.1 c
      refine r_iconst ok 0 d_Md_isWord_16 rfl ?_
      exact hQ _ _ _ _ _ (ok_code ok) d_Md_isWord_17 (by decide) h
    · replace h := h.2.2.2 c
      refine r_iconst ok 1 d_Md_isWord_12 rfl ?_
      refine r_goto ok 17 d_Md_isWord_13 (by decide) ?_
      exact hQ _ _ _ _ _ (ok_code ok) d_Md_isWord_17 (by decide) h
theorem L_Md_isWord (l : Launch) (G : GE) (A : Nat → Prop) (hD : ∀ σ, va_D A (GW G σ)) {x1 : Int} {s : SS} {Q : Int → SS → Prop} (h : Sp_Md_isWord x1 s Q) : Met l y_Md_isWord (Cond.code y_Md_isWord prog_12_method_5_code 2 (some .boolean) :: lw_ok) ({ frames := 0, cells := 0, slots := 0, locals := 0 } : Room) (va_Pc [.ref (G.1 10), vI x1] (gB G s)) (va_Qi (fun (r : Int32) (s2 : SS) => ∃ x : Int, r = iI x ∧ Q x s2) (fun s2 t => gB G s2 t) A) 0 0 A := by
  refine met_z hD (by decide) ⟨rfl, rfl⟩ (Nat.le_of_ble_eq_true rfl) (lv := [(0, .ref (G.1 10)), (1, vI x1)]) rfl (fun F h1 h2 h3 hm ok hQ => ?_)
  subst h1 h2 h3
  have hDF := hD
  exact K_Md_isWord_e hDF hm ok hQ h
theorem d_Md_bits_0 : decode prog_12_method_6_code 0 = .ok (.iconst 0, 1) := by decide +kernel
theorem d_Md_bits_1 : decode prog_12_method_6_code 1 = .ok (.istore_n 1, 1) := by decide +kernel
theorem d_Md_bits_2 : decode prog_12_method_6_code 2 = .ok (.iconst 0, 1) := by decide +kernel
theorem d_Md_bits_3 : decode prog_12_method_6_code 3 = .ok (.istore_n 2, 1) := by decide +kernel
theorem d_Md_bits_4 : decode prog_12_method_6_code 4 = .ok (.iload_n 2, 1) := by decide +kernel
theorem d_Md_bits_5 : decode prog_12_method_6_code 5 = .ok (.bipush 31, 2) := by decide +kernel
theorem d_Md_bits_7 : decode prog_12_method_6_code 7 = .ok (.if_icmp .ge 17, 3) := by decide +kernel
theorem d_Md_bits_10 : decode prog_12_method_6_code 10 = .ok (.iload_n 1, 1) := by decide +kernel
theorem d_Md_bits_11 : decode prog_12_method_6_code 11 = .ok (.iload_n 0, 1) := by decide +kernel
theorem d_Md_bits_12 : decode prog_12_method_6_code 12 = .ok (.iload_n 2, 1) := by decide +kernel
theorem d_Md_bits_13 : decode prog_12_method_6_code 13 = .ok (.ishr, 1) := by decide +kernel
theorem d_Md_bits_14 : decode prog_12_method_6_code 14 = .ok (.iconst 1, 1) := by decide +kernel
theorem d_Md_bits_15 : decode prog_12_method_6_code 15 = .ok (.iand, 1) := by decide +kernel
theorem d_Md_bits_16 : decode prog_12_method_6_code 16 = .ok (.iadd, 1) := by decide +kernel
theorem d_Md_bits_17 : decode prog_12_method_6_code 17 = .ok (.istore_n 1, 1) := by decide +kernel
theorem d_Md_bits_18 : decode prog_12_method_6_code 18 = .ok (.iinc 2 1, 3) := by decide +kernel
theorem d_Md_bits_21 : decode prog_12_method_6_code 21 = .ok (.goto (-17), 3) := by decide +kernel
theorem d_Md_bits_24 : decode prog_12_method_6_code 24 = .ok (.iload_n 1, 1) := by decide +kernel
theorem d_Md_bits_25 : decode prog_12_method_6_code 25 = .ok (.ireturn, 1) := by decide +kernel
set_option maxHeartbeats 4000000 in
set_option maxRecDepth 100000 in
theorem K_Md_bits_4 {F : FT} (hD : ∀ σ, va_D F.2.2.1 (GW F.2.1 σ)) (hm : F.2.2.2.2.2.2.2.2.2.2.2.2.2.2.1 = 3) (ok : OkF F prog_12_method_6_code "LastSeenModel" ({ frames := 0, cells := 0, slots := 0, locals := 0 } : Room)) {Q : Int → SS → Prop} (hQ : RetI F Q) {x0 x1 x2 : Int} {s : SS} (h : B_Md_bits_4 Q (fun x0 x1 x2 s => AtS F 4 [(0, vI x0), (1, vI x1), (2, vI x2)] [] s) x0 x1 x2 s) : AtS F 4 [(0, vI x0), (1, vI x1), (2, vI x2)] [] s := by
  unfold B_Md_bits_4 at h
  refine r_iload_n ok 2 d_Md_bits_4 rfl rfl ?_
  refine r_bipush ok 31 d_Md_bits_5 (by decide) ?_
  refine r_icmp_ge ok 24 d_Md_bits_7 (by decide) h.1 (by decide) (fun c => ?_) (fun c => ?_)
  · replace h := h.2.1 c
    refine r_iload_n ok 1 d_Md_bits_24 rfl rfl ?_
    exact hQ _ _ _ _ _ (ok_code ok) d_Md_bits_25 h
  · replace h := h.2.2 c
    refine r_iload_n ok 1 d_Md_bits_10 rfl rfl ?_
    refine r_iload_n ok 0 d_Md_bits_11 rfl rfl ?_
    refine r_iload_n ok 2 d_Md_bits_12 rfl rfl ?_
    refine r_ishr ok d_Md_bits_13 ?_
    refine r_iconst ok 1 d_Md_bits_14 rfl ?_
    refine r_iand ok d_Md_bits_15 ?_
    refine r_iadd ok d_Md_bits_16 ?_
    refine r_istore_n ok [(1, vI (x1 + (bnd (shr x0 x2) 1))), (0, vI x0), (2, vI x2)] d_Md_bits_17 rfl hm (by decide) rfl ?_
    refine r_iinc ok 2 (x2 + 1) [(2, vI (x2 + 1)), (1, vI (x1 + (bnd (shr x0 x2) 1))), (0, vI x0)] d_Md_bits_18 rfl rfl hm (by decide) rfl ?_
    refine r_goto ok 4 d_Md_bits_21 (by decide) ?_
    exact r_sub [2, 1, 0] rfl h
set_option maxHeartbeats 4000000 in
set_option maxRecDepth 100000 in
theorem K_Md_bits_e {F : FT} (hD : ∀ σ, va_D F.2.2.1 (GW F.2.1 σ)) (hm : F.2.2.2.2.2.2.2.2.2.2.2.2.2.2.1 = 3) (ok : OkF F prog_12_method_6_code "LastSeenModel" ({ frames := 0, cells := 0, slots := 0, locals := 0 } : Room)) {Q : Int → SS → Prop} (hQ : RetI F Q) {x0 : Int} {s : SS} (h : B_Md_bits_e Q (fun x0 x1 x2 s => AtS F 4 [(0, vI x0), (1, vI x1), (2, vI x2)] [] s) x0 s) : AtS F 0 [(0, vI x0)] [] s := by
  unfold B_Md_bits_e at h
  refine r_iconst ok 0 d_Md_bits_0 rfl ?_
  refine r_istore_n ok [(1, vI 0), (0, vI x0)] d_Md_bits_1 rfl hm (by decide) rfl ?_
  refine r_iconst ok 0 d_Md_bits_2 rfl ?_
  refine r_istore_n ok [(2, vI 0), (1, vI 0), (0, vI x0)] d_Md_bits_3 rfl hm (by decide) rfl ?_
  exact r_sub [2, 1, 0] rfl h
theorem L_Md_bits (l : Launch) (G : GE) (A : Nat → Prop) (hD : ∀ σ, va_D A (GW G σ)) {x0 : Int} {s : SS} {Q : Int → SS → Prop} (h : Sp_Md_bits x0 s Q) : Met l y_Md_bits (Cond.code y_Md_bits prog_12_method_6_code 3 (some .int) :: lw_ok) ({ frames := 0, cells := 0, slots := 0, locals := 0 } : Room) (va_Pc [vI x0] (gB G s)) (va_Qi (fun (r : Int32) (s2 : SS) => ∃ x : Int, r = iI x ∧ Q x s2) (fun s2 t => gB G s2 t) A) 0 0 A := by
  refine met_i hD (by decide) ⟨rfl, rfl⟩ (Nat.le_of_ble_eq_true rfl) (lv := [(0, vI x0)]) rfl (fun F h1 h2 h3 hm ok hQ => ?_)
  subst h1 h2 h3
  have hDF := hD
  exact K_Md_bits_e hDF hm ok hQ (h _ (fun _ _ _ _ hb => K_Md_bits_4 hDF hm ok hQ hb))
theorem d_Md_road_0 : decode prog_12_method_7_code 0 = .ok (.iload_n 1, 1) := by decide +kernel
theorem d_Md_road_1 : decode prog_12_method_7_code 1 = .ok (.invokestatic 185, 3) := by decide +kernel
theorem d_Md_road_4 : decode prog_12_method_7_code 4 = .ok (.ifCond .eq 10, 3) := by decide +kernel
theorem d_Md_road_7 : decode prog_12_method_7_code 7 = .ok (.iload_n 2, 1) := by decide +kernel
theorem d_Md_road_8 : decode prog_12_method_7_code 8 = .ok (.invokestatic 185, 3) := by decide +kernel
theorem d_Md_road_11 : decode prog_12_method_7_code 11 = .ok (.ifCond .ne 5, 3) := by decide +kernel
theorem d_Md_road_14 : decode prog_12_method_7_code 14 = .ok (.iconst (-1), 1) := by decide +kernel
theorem d_Md_road_15 : decode prog_12_method_7_code 15 = .ok (.ireturn, 1) := by decide +kernel
theorem d_Md_road_16 : decode prog_12_method_7_code 16 = .ok (.iload_n 3, 1) := by decide +kernel
theorem d_Md_road_17 : decode prog_12_method_7_code 17 = .ok (.i2l, 1) := by decide +kernel
theorem d_Md_road_18 : decode prog_12_method_7_code 18 = .ok (.lconst 1, 1) := by decide +kernel
theorem d_Md_road_19 : decode prog_12_method_7_code 19 = .ok (.ldc2_w 189, 3) := by decide +kernel
theorem d_Md_road_22 : decode prog_12_method_7_code 22 = .ok (.invokestatic 191, 3) := by decide +kernel
theorem d_Md_road_25 : decode prog_12_method_7_code 25 = .ok (.ifCond .eq 8, 3) := by decide +kernel
theorem d_Md_road_28 : decode prog_12_method_7_code 28 = .ok (.iload_n 1, 1) := by decide +kernel
theorem d_Md_road_29 : decode prog_12_method_7_code 29 = .ok (.iload_n 2, 1) := by decide +kernel
theorem d_Md_road_30 : decode prog_12_method_7_code 30 = .ok (.if_icmp .ne 6, 3) := by decide +kernel
theorem d_Md_road_33 : decode prog_12_method_7_code 33 = .ok (.bipush (-2), 2) := by decide +kernel
theorem d_Md_road_35 : decode prog_12_method_7_code 35 = .ok (.ireturn, 1) := by decide +kernel
theorem d_Md_road_36 : decode prog_12_method_7_code 36 = .ok (.aload_n 0, 1) := by decide +kernel
theorem d_Md_road_37 : decode prog_12_method_7_code 37 = .ok (.getfield 195, 3) := by decide +kernel
theorem d_Md_road_40 : decode prog_12_method_7_code 40 = .ok (.bipush 40, 2) := by decide +kernel
theorem d_Md_road_42 : decode prog_12_method_7_code 42 = .ok (.if_icmp .ne 6, 3) := by decide +kernel
theorem d_Md_road_45 : decode prog_12_method_7_code 45 = .ok (.bipush (-4), 2) := by decide +kernel
theorem d_Md_road_47 : decode prog_12_method_7_code 47 = .ok (.ireturn, 1) := by decide +kernel
theorem d_Md_road_48 : decode prog_12_method_7_code 48 = .ok (.aload_n 0, 1) := by decide +kernel
theorem d_Md_road_49 : decode prog_12_method_7_code 49 = .ok (.dup, 1) := by decide +kernel
theorem d_Md_road_50 : decode prog_12_method_7_code 50 = .ok (.getfield 195, 3) := by decide +kernel
theorem d_Md_road_53 : decode prog_12_method_7_code 53 = .ok (.iconst 1, 1) := by decide +kernel
theorem d_Md_road_54 : decode prog_12_method_7_code 54 = .ok (.iadd, 1) := by decide +kernel
theorem d_Md_road_55 : decode prog_12_method_7_code 55 = .ok (.putfield 195, 3) := by decide +kernel
theorem d_Md_road_58 : decode prog_12_method_7_code 58 = .ok (.iload_n 3, 1) := by decide +kernel
theorem d_Md_road_59 : decode prog_12_method_7_code 59 = .ok (.aload_n 0, 1) := by decide +kernel
theorem d_Md_road_60 : decode prog_12_method_7_code 60 = .ok (.getfield 7, 3) := by decide +kernel
theorem d_Md_road_63 : decode prog_12_method_7_code 63 = .ok (.bipush 10, 2) := by decide +kernel
theorem d_Md_road_65 : decode prog_12_method_7_code 65 = .ok (.iload_n 1, 1) := by decide +kernel
theorem d_Md_road_66 : decode prog_12_method_7_code 66 = .ok (.imul, 1) := by decide +kernel
theorem d_Md_road_67 : decode prog_12_method_7_code 67 = .ok (.iload_n 2, 1) := by decide +kernel
theorem d_Md_road_68 : decode prog_12_method_7_code 68 = .ok (.iadd, 1) := by decide +kernel
theorem d_Md_road_69 : decode prog_12_method_7_code 69 = .ok (.iaload, 1) := by decide +kernel
theorem d_Md_road_70 : decode prog_12_method_7_code 70 = .ok (.if_icmp .ge 27, 3) := by decide +kernel
theorem d_Md_road_73 : decode prog_12_method_7_code 73 = .ok (.aload_n 0, 1) := by decide +kernel
theorem d_Md_road_74 : decode prog_12_method_7_code 74 = .ok (.getfield 7, 3) := by decide +kernel
theorem d_Md_road_77 : decode prog_12_method_7_code 77 = .ok (.bipush 10, 2) := by decide +kernel
theorem d_Md_road_79 : decode prog_12_method_7_code 79 = .ok (.iload_n 1, 1) := by decide +kernel
theorem d_Md_road_80 : decode prog_12_method_7_code 80 = .ok (.imul, 1) := by decide +kernel
theorem d_Md_road_81 : decode prog_12_method_7_code 81 = .ok (.iload_n 2, 1) := by decide +kernel
theorem d_Md_road_82 : decode prog_12_method_7_code 82 = .ok (.iadd, 1) := by decide +kernel
theorem d_Md_road_83 : decode prog_12_method_7_code 83 = .ok (.iload_n 3, 1) := by decide +kernel
theorem d_Md_road_84 : decode prog_12_method_7_code 84 = .ok (.iastore, 1) := by decide +kernel
theorem d_Md_road_85 : decode prog_12_method_7_code 85 = .ok (.aload_n 0, 1) := by decide +kernel
theorem d_Md_road_86 : decode prog_12_method_7_code 86 = .ok (.getfield 7, 3) := by decide +kernel
theorem d_Md_road_89 : decode prog_12_method_7_code 89 = .ok (.bipush 10, 2) := by decide +kernel
theorem d_Md_road_91 : decode prog_12_method_7_code 91 = .ok (.iload_n 2, 1) := by decide +kernel
theorem d_Md_road_92 : decode prog_12_method_7_code 92 = .ok (.imul, 1) := by decide +kernel
theorem d_Md_road_93 : decode prog_12_method_7_code 93 = .ok (.iload_n 1, 1) := by decide +kernel
theorem d_Md_road_94 : decode prog_12_method_7_code 94 = .ok (.iadd, 1) := by decide +kernel
theorem d_Md_road_95 : decode prog_12_method_7_code 95 = .ok (.iload_n 3, 1) := by decide +kernel
theorem d_Md_road_96 : decode prog_12_method_7_code 96 = .ok (.iastore, 1) := by decide +kernel
theorem d_Md_road_97 : decode prog_12_method_7_code 97 = .ok (.iconst 0, 1) := by decide +kernel
theorem d_Md_road_98 : decode prog_12_method_7_code 98 = .ok (.istore 4, 2) := by decide +kernel
theorem d_Md_road_100 : decode prog_12_method_7_code 100 = .ok (.iload 4, 2) := by decide +kernel
theorem d_Md_road_102 : decode prog_12_method_7_code 102 = .ok (.bipush 10, 2) := by decide +kernel
theorem d_Md_road_104 : decode prog_12_method_7_code 104 = .ok (.if_icmp .ge 103, 3) := by decide +kernel
theorem d_Md_road_107 : decode prog_12_method_7_code 107 = .ok (.iconst 0, 1) := by decide +kernel
theorem d_Md_road_108 : decode prog_12_method_7_code 108 = .ok (.istore 5, 2) := by decide +kernel
theorem d_Md_road_110 : decode prog_12_method_7_code 110 = .ok (.iload 5, 2) := by decide +kernel
theorem d_Md_road_112 : decode prog_12_method_7_code 112 = .ok (.bipush 10, 2) := by decide +kernel
theorem d_Md_road_114 : decode prog_12_method_7_code 114 = .ok (.if_icmp .ge 87, 3) := by decide +kernel
theorem d_Md_road_117 : decode prog_12_method_7_code 117 = .ok (.iconst 0, 1) := by decide +kernel
theorem d_Md_road_118 : decode prog_12_method_7_code 118 = .ok (.istore 6, 2) := by decide +kernel
theorem d_Md_road_120 : decode prog_12_method_7_code 120 = .ok (.iload 6, 2) := by decide +kernel
theorem d_Md_road_122 : decode prog_12_method_7_code 122 = .ok (.bipush 10, 2) := by decide +kernel
theorem d_Md_road_124 : decode prog_12_method_7_code 124 = .ok (.if_icmp .ge 71, 3) := by decide +kernel
theorem d_Md_road_127 : decode prog_12_method_7_code 127 = .ok (.aload_n 0, 1) := by decide +kernel
theorem d_Md_road_128 : decode prog_12_method_7_code 128 = .ok (.getfield 7, 3) := by decide +kernel
theorem d_Md_road_131 : decode prog_12_method_7_code 131 = .ok (.bipush 10, 2) := by decide +kernel
theorem d_Md_road_133 : decode prog_12_method_7_code 133 = .ok (.iload 5, 2) := by decide +kernel
theorem d_Md_road_135 : decode prog_12_method_7_code 135 = .ok (.imul, 1) := by decide +kernel
theorem d_Md_road_136 : decode prog_12_method_7_code 136 = .ok (.iload 4, 2) := by decide +kernel
theorem d_Md_road_138 : decode prog_12_method_7_code 138 = .ok (.iadd, 1) := by decide +kernel
theorem d_Md_road_139 : decode prog_12_method_7_code 139 = .ok (.iaload, 1) := by decide +kernel
theorem d_Md_road_140 : decode prog_12_method_7_code 140 = .ok (.aload_n 0, 1) := by decide +kernel
theorem d_Md_road_141 : decode prog_12_method_7_code 141 = .ok (.getfield 7, 3) := by decide +kernel
theorem d_Md_road_144 : decode prog_12_method_7_code 144 = .ok (.bipush 10, 2) := by decide +kernel
theorem d_Md_road_146 : decode prog_12_method_7_code 146 = .ok (.iload 4, 2) := by decide +kernel
theorem d_Md_road_148 : decode prog_12_method_7_code 148 = .ok (.imul, 1) := by decide +kernel
theorem d_Md_road_149 : decode prog_12_method_7_code 149 = .ok (.iload 6, 2) := by decide +kernel
theorem d_Md_road_151 : decode prog_12_method_7_code 151 = .ok (.iadd, 1) := by decide +kernel
theorem d_Md_road_152 : decode prog_12_method_7_code 152 = .ok (.iaload, 1) := by decide +kernel
theorem d_Md_road_153 : decode prog_12_method_7_code 153 = .ok (.iadd, 1) := by decide +kernel
theorem d_Md_road_154 : decode prog_12_method_7_code 154 = .ok (.istore 7, 2) := by decide +kernel
theorem d_Md_road_156 : decode prog_12_method_7_code 156 = .ok (.iload 7, 2) := by decide +kernel
theorem d_Md_road_158 : decode prog_12_method_7_code 158 = .ok (.aload_n 0, 1) := by decide +kernel
theorem d_Md_road_159 : decode prog_12_method_7_code 159 = .ok (.getfield 7, 3) := by decide +kernel
theorem d_Md_road_162 : decode prog_12_method_7_code 162 = .ok (.bipush 10, 2) := by decide +kernel
theorem d_Md_road_164 : decode prog_12_method_7_code 164 = .ok (.iload 5, 2) := by decide +kernel
theorem d_Md_road_166 : decode prog_12_method_7_code 166 = .ok (.imul, 1) := by decide +kernel
theorem d_Md_road_167 : decode prog_12_method_7_code 167 = .ok (.iload 6, 2) := by decide +kernel
theorem d_Md_road_169 : decode prog_12_method_7_code 169 = .ok (.iadd, 1) := by decide +kernel
theorem d_Md_road_170 : decode prog_12_method_7_code 170 = .ok (.iaload, 1) := by decide +kernel
theorem d_Md_road_171 : decode prog_12_method_7_code 171 = .ok (.if_icmp .ge 18, 3) := by decide +kernel
theorem d_Md_road_174 : decode prog_12_method_7_code 174 = .ok (.aload_n 0, 1) := by decide +kernel
theorem d_Md_road_175 : decode prog_12_method_7_code 175 = .ok (.getfield 7, 3) := by decide +kernel
theorem d_Md_road_178 : decode prog_12_method_7_code 178 = .ok (.bipush 10, 2) := by decide +kernel
theorem d_Md_road_180 : decode prog_12_method_7_code 180 = .ok (.iload 5, 2) := by decide +kernel
theorem d_Md_road_182 : decode prog_12_method_7_code 182 = .ok (.imul, 1) := by decide +kernel
theorem d_Md_road_183 : decode prog_12_method_7_code 183 = .ok (.iload 6, 2) := by decide +kernel
theorem d_Md_road_185 : decode prog_12_method_7_code 185 = .ok (.iadd, 1) := by decide +kernel
theorem d_Md_road_186 : decode prog_12_method_7_code 186 = .ok (.iload 7, 2) := by decide +kernel
theorem d_Md_road_188 : decode prog_12_method_7_code 188 = .ok (.iastore, 1) := by decide +kernel
theorem d_Md_road_189 : decode prog_12_method_7_code 189 = .ok (.iinc 6 1, 3) := by decide +kernel
theorem d_Md_road_192 : decode prog_12_method_7_code 192 = .ok (.goto (-72), 3) := by decide +kernel
theorem d_Md_road_195 : decode prog_12_method_7_code 195 = .ok (.iinc 5 1, 3) := by decide +kernel
theorem d_Md_road_198 : decode prog_12_method_7_code 198 = .ok (.goto (-88), 3) := by decide +kernel
theorem d_Md_road_201 : decode prog_12_method_7_code 201 = .ok (.iinc 4 1, 3) := by decide +kernel
theorem d_Md_road_204 : decode prog_12_method_7_code 204 = .ok (.goto (-104), 3) := by decide +kernel
theorem d_Md_road_207 : decode prog_12_method_7_code 207 = .ok (.aload_n 0, 1) := by decide +kernel
theorem d_Md_road_208 : decode prog_12_method_7_code 208 = .ok (.getfield 195, 3) := by decide +kernel
theorem d_Md_road_211 : decode prog_12_method_7_code 211 = .ok (.ireturn, 1) := by decide +kernel
set_option maxHeartbeats 4000000 in
set_option maxRecDepth 100000 in
theorem K_Md_road_100 {F : FT} (hD : ∀ σ, va_D F.2.2.1 (GW F.2.1 σ)) (hm : F.2.2.2.2.2.2.2.2.2.2.2.2.2.2.1 = 8) (ok : OkF F prog_12_method_7_code "LastSeenModel" ({ frames := 1, cells := 0, slots := 0, locals := 25 } : Room)) {Q : Int → SS → Prop} (hQ : RetI F Q) {x4 : Int} {s : SS} (h : B_Md_road_100 Q (fun x4 s => AtS F 100 [(0, .ref (F.2.1.1 10)), (4, vI x4)] [] s) (fun x4 x5 s => AtS F 110 [(0, .ref (F.2.1.1 10)), (4, vI x4), (5, vI x5)] [] s) (fun x4 x5 x6 s => AtS F 120 [(0, .ref (F.2.1.1 10)), (4, vI x4), (5, vI x5), (6, vI x6)] [] s) x4 s) : AtS F 100 [(0, .ref (F.2.1.1 10)), (4, vI x4)] [] s := by
  unfold B_Md_road_100 at h
  refine r_iload ok 1 d_Md_road_100 rfl ?_
  refine r_bipush ok 10 d_Md_road_102 (by decide) ?_
  refine r_icmp_ge ok 207 d_Md_road_104 (by decide) h.1 (by decide) (fun c => ?_) (fun c => ?_)
  · replace h := h.2.1 c
    refine r_aload_n ok 0 d_Md_road_207 rfl rfl ?_
    refine g_Md_roads ok d_Md_road_208 ?_
    exact hQ _ _ _ _ _ (ok_code ok) d_Md_road_211 h
  · replace h := h.2.2 c
    refine r_iconst ok 0 d_Md_road_107 rfl ?_
    refine r_istore ok [(5, vI 0), (0, .ref (F.2.1.1 10)), (4, vI x4)] d_Md_road_108 hm (by decide) rfl ?_
    exact r_sub [1, 2, 0] rfl h
set_option maxHeartbeats 4000000 in
set_option maxRecDepth 100000 in
theorem K_Md_road_110 {F : FT} (hD : ∀ σ, va_D F.2.2.1 (GW F.2.1 σ)) (hm : F.2.2.2.2.2.2.2.2.2.2.2.2.2.2.1 = 8) (ok : OkF F prog_12_method_7_code "LastSeenModel" ({ frames := 1, cells := 0, slots := 0, locals := 25 } : Room)) {Q : Int → SS → Prop} (hQ : RetI F Q) {x4 x5 : Int} {s : SS} (h : B_Md_road_110 Q (fun x4 s => AtS F 100 [(0, .ref (F.2.1.1 10)), (4, vI x4)] [] s) (fun x4 x5 s => AtS F 110 [(0, .ref (F.2.1.1 10)), (4, vI x4), (5, vI x5)] [] s) (fun x4 x5 x6 s => AtS F 120 [(0, .ref (F.2.1.1 10)), (4, vI x4), (5, vI x5), (6, vI x6)] [] s) x4 x5 s) : AtS F 110 [(0, .ref (F.2.1.1 10)), (4, vI x4), (5, vI x5)] [] s := by
  unfold B_Md_road_110 at h
  refine r_iload ok 2 d_Md_road_110 rfl ?_
  refine r_bipush ok 10 d_Md_road_112 (by decide) ?_
  refine r_icmp_ge ok 201 d_Md_road_114 (by decide) h.1 (by decide) (fun c => ?_) (fun c => ?_)
  · replace h := h.2.1 c
    refine r_iinc ok 1 (x4 + 1) [(4, vI (x4 + 1)), (0, .ref (F.2.1.1 10)), (5, vI x5)] d_Md_road_201 rfl rfl hm (by decide) rfl ?_
    refine r_goto ok 100 d_Md_road_204 (by decide) ?_
    exact r_sub [1, 0] rfl h
  · replace h := h.2.2 c
    refine r_iconst ok 0 d_Md_road_117 rfl ?_
    refine r_istore ok [(6, vI 0), (0, .ref (F.2.1.1 10)), (4, vI x4), (5, vI x5)] d_Md_road_118 hm (by decide) rfl ?_
    exact r_sub [1, 2, 3, 0] rfl h
set_option maxHeartbeats 4000000 in
set_option maxRecDepth 100000 in
theorem K_Md_road_120 {F : FT} (hD : ∀ σ, va_D F.2.2.1 (GW F.2.1 σ)) (hm : F.2.2.2.2.2.2.2.2.2.2.2.2.2.2.1 = 8) (ok : OkF F prog_12_method_7_code "LastSeenModel" ({ frames := 1, cells := 0, slots := 0, locals := 25 } : Room)) {Q : Int → SS → Prop} (hQ : RetI F Q) {x4 x5 x6 : Int} {s : SS} (h : B_Md_road_120 Q (fun x4 s => AtS F 100 [(0, .ref (F.2.1.1 10)), (4, vI x4)] [] s) (fun x4 x5 s => AtS F 110 [(0, .ref (F.2.1.1 10)), (4, vI x4), (5, vI x5)] [] s) (fun x4 x5 x6 s => AtS F 120 [(0, .ref (F.2.1.1 10)), (4, vI x4), (5, vI x5), (6, vI x6)] [] s) x4 x5 x6 s) : AtS F 120 [(0, .ref (F.2.1.1 10)), (4, vI x4), (5, vI x5), (6, vI x6)] [] s := by
  unfold B_Md_road_120 at h
  refine r_iload ok 3 d_Md_road_120 rfl ?_
  refine r_bipush ok 10 d_Md_road_122 (by decide) ?_
  refine r_icmp_ge ok 195 d_Md_road_124 (by decide) h.1 (by decide) (fun c => ?_) (fun c => ?_)
  · replace h := h.2.1 c
    refine r_iinc ok 2 (x5 + 1) [(5, vI (x5 + 1)), (0, .ref (F.2.1.1 10)), (4, vI x4), (6, vI x6)] d_Md_road_195 rfl rfl hm (by decide) rfl ?_
    refine r_goto ok 110 d_Md_road_198 (by decide) ?_
    exact r_sub [1, 2, 0] rfl h
  · replace h := h.2.2 c
    refine r_aload_n ok 0 d_Md_road_127 rfl rfl ?_
    refine g_Md_far ok d_Md_road_128 ?_
    refine r_bipush ok 10 d_Md_road_131 (by decide) ?_
    refine r_iload ok 2 d_Md_road_133 rfl ?_
    refine r_imul ok d_Md_road_135 ?_
    refine r_iload ok 1 d_Md_road_136 rfl ?_
    refine r_iadd ok d_Md_road_138 ?_
    refine r_iald ok 59 d_Md_road_139 (by decide) rfl h.1 ?_
    replace h := h.2
    refine r_aload_n ok 0 d_Md_road_140 rfl rfl ?_
    refine g_Md_far ok d_Md_road_141 ?_
    refine r_bipush ok 10 d_Md_road_144 (by decide) ?_
    refine r_iload ok 1 d_Md_road_146 rfl ?_
    refine r_imul ok d_Md_road_148 ?_
    refine r_iload ok 3 d_Md_road_149 rfl ?_
    refine r_iadd ok d_Md_road_151 ?_
    refine r_iald ok 59 d_Md_road_152 (by decide) rfl h.1 ?_
    replace h := h.2
    refine r_iadd ok d_Md_road_153 ?_
    refine r_istore ok [(7, vI ((s.2 59 ((10 * x5) + x4)) + (s.2 59 ((10 * x4) + x6)))), (0, .ref (F.2.1.1 10)), (4, vI x4), (5, vI x5), (6, vI x6)] d_Md_road_154 hm (by decide) rfl ?_
    refine r_iload ok 0 d_Md_road_156 rfl ?_
    refine r_aload_n ok 1 d_Md_road_158 rfl rfl ?_
    refine g_Md_far ok d_Md_road_159 ?_
    refine r_bipush ok 10 d_Md_road_162 (by decide) ?_
    refine r_iload ok 3 d_Md_road_164 rfl ?_
    refine r_imul ok d_Md_road_166 ?_
    refine r_iload ok 4 d_Md_road_167 rfl ?_
    refine r_iadd ok d_Md_road_169 ?_
    refine r_iald ok 59 d_Md_road_170 (by decide) rfl h.1 ?_
    replace h := h.2
    refine r_icmp_ge ok 189 d_Md_road_171 (by decide) h.1 h.2.1 (fun c => ?_) (fun c => ?_)
    · replace h := h.2.2.1 c
      refine r_iinc ok 4 (x6 + 1) [(6, vI (x6 + 1)), (7, vI ((s.2 59 ((10 * x5) + x4)) + (s.2 59 ((10 * x4) + x6)))), (0, .ref (F.2.1.1 10)), (4, vI x4), (5, vI x5)] d_Md_road_189 rfl rfl hm (by decide) rfl ?_
      refine r_goto ok 120 d_Md_road_192 (by decide) ?_
      exact r_sub [2, 3, 4, 0] rfl h
    · replace h := h.2.2.2 c
      refine r_aload_n ok 1 d_Md_road_174 rfl rfl ?_
      refine g_Md_far ok d_Md_road_175 ?_
      refine r_bipush ok 10 d_Md_road_178 (by decide) ?_
      refine r_iload ok 3 d_Md_road_180 rfl ?_
      refine r_imul ok d_Md_road_182 ?_
      refine r_iload ok 4 d_Md_road_183 rfl ?_
      refine r_iadd ok d_Md_road_185 ?_
      refine r_iload ok 0 d_Md_road_186 rfl ?_
      refine r_iast ok 59 d_Md_road_188 (by decide) rfl h.1 ?_
      replace h := h.2 _ rfl
      generalize sA s 59 ((10 * x5) + x6) ((s.2 59 ((10 * x5) + x4)) + (s.2 59 ((10 * x4) + x6))) = s10 at h ⊢
      refine r_iinc ok 4 (x6 + 1) [(6, vI (x6 + 1)), (7, vI ((s.2 59 ((10 * x5) + x4)) + (s.2 59 ((10 * x4) + x6)))), (0, .ref (F.2.1.1 10)), (4, vI x4), (5, vI x5)] d_Md_road_189 rfl rfl hm (by decide) rfl ?_
      refine r_goto ok 120 d_Md_road_192 (by decide) ?_
      exact r_sub [2, 3, 4, 0] rfl h
set_option maxHeartbeats 4000000 in
set_option maxRecDepth 100000 in
theorem K_Md_road_e {F : FT} (hD : ∀ σ, va_D F.2.2.1 (GW F.2.1 σ)) (hm : F.2.2.2.2.2.2.2.2.2.2.2.2.2.2.1 = 8) (ok : OkF F prog_12_method_7_code "LastSeenModel" ({ frames := 1, cells := 0, slots := 0, locals := 25 } : Room)) {Q : Int → SS → Prop} (hQ : RetI F Q) {x1 x2 x3 : Int} {s : SS} (h : B_Md_road_e Q (fun x4 s => AtS F 100 [(0, .ref (F.2.1.1 10)), (4, vI x4)] [] s) (fun x4 x5 s => AtS F 110 [(0, .ref (F.2.1.1 10)), (4, vI x4), (5, vI x5)] [] s) (fun x4 x5 x6 s => AtS F 120 [(0, .ref (F.2.1.1 10)), (4, vI x4), (5, vI x5), (6, vI x6)] [] s) x1 x2 x3 s) : AtS F 0 [(0, .ref (F.2.1.1 10)), (1, vI x1), (2, vI x2), (3, vI x3)] [] s := by
  unfold B_Md_road_e at h
  refine r_iload_n ok 1 d_Md_road_0 rfl rfl ?_
  refine r_callSi (As := [vI x1]) (rest := []) ok wl_Md_185 wt_y_Md_isPlace wn_Md wc_y_Md_isPlace (by decide) (by decide) hh_Md_isPlace (Nat.le_of_ble_eq_true rfl) rfl d_Md_road_1 (L_Md_isPlace F.1 F.2.1 F.2.2.1 hD h) (fun r2 s1 h => ?_)
  refine r_if_eq ok 14 d_Md_road_4 (by decide) h.1 (fun c => ?_) (fun c => ?_)
  · replace h := h.2.1 c
    refine r_iconst ok (-1) d_Md_road_14 rfl ?_
    exact hQ _ _ _ _ _ (ok_code ok) d_Md_road_15 h
  · replace h := h.2.2 c
    refine r_iload_n ok 2 d_Md_road_7 rfl rfl ?_
    refine r_callSi (As := [vI x2]) (rest := []) ok wl_Md_185 wt_y_Md_isPlace wn_Md wc_y_Md_isPlace (by decide) (by decide) hh_Md_isPlace (Nat.le_of_ble_eq_true rfl) rfl d_Md_road_8 (L_Md_isPlace F.1 F.2.1 F.2.2.1 hD h) (fun r4 s3 h => ?_)
    refine r_if_ne ok 16 d_Md_road_11 (by decide) h.1 (fun c => ?_) (fun c => ?_)
    · replace h := h.2.1 c
      refine r_iload_n ok 3 d_Md_road_16 rfl rfl ?_
      refine r_i2l ok d_Md_road_17 h.1 ?_
      replace h := h.2
      refine r_lconst ok 1 d_Md_road_18 (by decide) ?_
      refine r_ldc2 ok 30 wk_Md_189 d_Md_road_19 (by decide) ?_
      refine r_callSi (As := [vJ x3, vJ 1, vJ 30]) (rest := []) ok wl_Md_191 wt_y_Md_isIn wn_Md wc_y_Md_isIn (by decide) (by decide) hh_Md_isIn (Nat.le_of_ble_eq_true rfl) rfl d_Md_road_22 (L_Md_isIn F.1 F.2.1 F.2.2.1 hD h) (fun r6 s5 h => ?_)
      refine r_if_eq ok 33 d_Md_road_25 (by decide) h.1 (fun c => ?_) (fun c => ?_)
      · replace h := h.2.1 c
        refine r_bipush ok (-2) d_Md_road_33 (by decide) ?_
        exact hQ _ _ _ _ _ (ok_code ok) d_Md_road_35 h
      · replace h := h.2.2 c
        refine r_iload_n ok 1 d_Md_road_28 rfl rfl ?_
        refine r_iload_n ok 2 d_Md_road_29 rfl rfl ?_
        refine r_icmp_ne ok 36 d_Md_road_30 (by decide) h.1 h.2.1 (fun c => ?_) (fun c => ?_)
        · replace h := h.2.2.1 c
          refine r_aload_n ok 0 d_Md_road_36 rfl rfl ?_
          refine g_Md_roads ok d_Md_road_37 ?_
          refine r_bipush ok 40 d_Md_road_40 (by decide) ?_
          refine r_icmp_ne ok 48 d_Md_road_42 (by decide) h.1 (by decide) (fun c => ?_) (fun c => ?_)
          · replace h := h.2.1 c
            refine r_aload_n ok 0 d_Md_road_48 rfl rfl ?_
            refine r_dup ok d_Md_road_49 rfl ?_
            refine g_Md_roads ok d_Md_road_50 ?_
            refine r_iconst ok 1 d_Md_road_53 rfl ?_
            refine r_iadd ok d_Md_road_54 ?_
            refine p_Md_roads ok d_Md_road_55 ?_
            replace h := h _ rfl
            generalize sF s5 28 ((s5.1 28) + 1) = s7 at h ⊢
            refine r_iload_n ok 3 d_Md_road_58 rfl rfl ?_
            refine r_aload_n ok 0 d_Md_road_59 rfl rfl ?_
            refine g_Md_far ok d_Md_road_60 ?_
            refine r_bipush ok 10 d_Md_road_63 (by decide) ?_
            refine r_iload_n ok 1 d_Md_road_65 rfl rfl ?_
            refine r_imul ok d_Md_road_66 ?_
            refine r_iload_n ok 2 d_Md_road_67 rfl rfl ?_
            refine r_iadd ok d_Md_road_68 ?_
            refine r_iald ok 59 d_Md_road_69 (by decide) rfl h.1 ?_
            replace h := h.2
            refine r_icmp_ge ok 97 d_Md_road_70 (by decide) h.1 h.2.1 (fun c => ?_) (fun c => ?_)
            · replace h := h.2.2.1 c
              refine r_iconst ok 0 d_Md_road_97 rfl ?_
              refine r_istore ok [(4, vI 0), (0, .ref (F.2.1.1 10)), (1, vI x1), (2, vI x2), (3, vI x3)] d_Md_road_98 hm (by decide) rfl ?_
              exact r_sub [1, 0] rfl h
            · replace h := h.2.2.2 c
              refine r_aload_n ok 0 d_Md_road_73 rfl rfl ?_
              refine g_Md_far ok d_Md_road_74 ?_
              refine r_bipush ok 10 d_Md_road_77 (by decide) ?_
              refine r_iload_n ok 1 d_Md_road_79 rfl rfl ?_
              refine r_imul ok d_Md_road_80 ?_
              refine r_iload_n ok 2 d_Md_road_81 rfl rfl ?_
              refine r_iadd ok d_Md_road_82 ?_
              refine r_iload_n ok 3 d_Md_road_83 rfl rfl ?_
              refine r_iast ok 59 d_Md_road_84 (by decide) rfl h.1 ?_
              replace h := h.2 _ rfl
              generalize sA s7 59 ((10 * x1) + x2) x3 = s8 at h ⊢
              refine r_aload_n ok 0 d_Md_road_85 rfl rfl ?_
              refine g_Md_far ok d_Md_road_86 ?_
              refine r_bipush ok 10 d_Md_road_89 (by decide) ?_
              refine r_iload_n ok 2 d_Md_road_91 rfl rfl ?_
              refine r_imul ok d_Md_road_92 ?_
              refine r_iload_n ok 1 d_Md_road_93 rfl rfl ?_
              refine r_iadd ok d_Md_road_94 ?_
              refine r_iload_n ok 3 d_Md_road_95 rfl rfl ?_
              refine r_iast ok 59 d_Md_road_96 (by decide) rfl h.1 ?_
              replace h := h.2 _ rfl
              generalize sA s8 59 ((10 * x2) + x1) x3 = s9 at h ⊢
              refine r_iconst ok 0 d_Md_road_97 rfl ?_
              refine r_istore ok [(4, vI 0), (0, .ref (F.2.1.1 10)), (1, vI x1), (2, vI x2), (3, vI x3)] d_Md_road_98 hm (by decide) rfl ?_
              exact r_sub [1, 0] rfl h
          · replace h := h.2.2 c
            refine r_bipush ok (-4) d_Md_road_45 (by decide) ?_
            exact hQ _ _ _ _ _ (ok_code ok) d_Md_road_47 h
        · replace h := h.2.2.2 c
          refine r_bipush ok (-2) d_Md_road_33 (by decide) ?_
          exact hQ _ _ _ _ _ (ok_code ok) d_Md_road_35 h
    · replace h := h.2.2 c
      refine r_iconst ok (-1) d_Md_road_14 rfl ?_
      exact hQ _ _ _ _ _ (ok_code ok) d_Md_road_15 h
theorem L_Md_road (l : Launch) (G : GE) (A : Nat → Prop) (hD : ∀ σ, va_D A (GW G σ)) {x1 x2 x3 : Int} {s : SS} {Q : Int → SS → Prop} (h : Sp_Md_road x1 x2 x3 s Q) : Met l y_Md_road (Cond.code y_Md_road prog_12_method_7_code 8 (some .int) :: lw_ok) ({ frames := 1, cells := 0, slots := 0, locals := 25 } : Room) (va_Pc [.ref (G.1 10), vI x1, vI x2, vI x3] (gB G s)) (va_Qi (fun (r : Int32) (s2 : SS) => ∃ x : Int, r = iI x ∧ Q x s2) (fun s2 t => gB G s2 t) A) 0 0 A := by
  refine met_i hD (by decide) ⟨rfl, rfl⟩ (Nat.le_of_ble_eq_true rfl) (lv := [(0, .ref (G.1 10)), (1, vI x1), (2, vI x2), (3, vI x3)]) rfl (fun F h1 h2 h3 hm ok hQ => ?_)
  subst h1 h2 h3
  have hDF := hD
  exact K_Md_road_e hDF hm ok hQ (h _ _ _ (fun _ _ hb => K_Md_road_100 hDF hm ok hQ hb) (fun _ _ _ hb => K_Md_road_110 hDF hm ok hQ hb) (fun _ _ _ _ hb => K_Md_road_120 hDF hm ok hQ hb))
theorem d_Md_far_0 : decode prog_12_method_8_code 0 = .ok (.iload_n 1, 1) := by decide +kernel
theorem d_Md_far_1 : decode prog_12_method_8_code 1 = .ok (.invokestatic 185, 3) := by decide +kernel
theorem d_Md_far_4 : decode prog_12_method_8_code 4 = .ok (.ifCond .eq 10, 3) := by decide +kernel
theorem d_Md_far_7 : decode prog_12_method_8_code 7 = .ok (.iload_n 2, 1) := by decide +kernel
theorem d_Md_far_8 : decode prog_12_method_8_code 8 = .ok (.invokestatic 185, 3) := by decide +kernel
theorem d_Md_far_11 : decode prog_12_method_8_code 11 = .ok (.ifCond .ne 5, 3) := by decide +kernel
theorem d_Md_far_14 : decode prog_12_method_8_code 14 = .ok (.iconst (-1), 1) := by decide +kernel
theorem d_Md_far_15 : decode prog_12_method_8_code 15 = .ok (.ireturn, 1) := by decide +kernel
theorem d_Md_far_16 : decode prog_12_method_8_code 16 = .ok (.aload_n 0, 1) := by decide +kernel
theorem d_Md_far_17 : decode prog_12_method_8_code 17 = .ok (.getfield 7, 3) := by decide +kernel
theorem d_Md_far_20 : decode prog_12_method_8_code 20 = .ok (.bipush 10, 2) := by decide +kernel
theorem d_Md_far_22 : decode prog_12_method_8_code 22 = .ok (.iload_n 1, 1) := by decide +kernel
theorem d_Md_far_23 : decode prog_12_method_8_code 23 = .ok (.imul, 1) := by decide +kernel
theorem d_Md_far_24 : decode prog_12_method_8_code 24 = .ok (.iload_n 2, 1) := by decide +kernel
theorem d_Md_far_25 : decode prog_12_method_8_code 25 = .ok (.iadd, 1) := by decide +kernel
theorem d_Md_far_26 : decode prog_12_method_8_code 26 = .ok (.iaload, 1) := by decide +kernel
theorem d_Md_far_27 : decode prog_12_method_8_code 27 = .ok (.ldc 178, 2) := by decide +kernel
theorem d_Md_far_29 : decode prog_12_method_8_code 29 = .ok (.if_icmp .lt 8, 3) := by decide +kernel
theorem d_Md_far_32 : decode prog_12_method_8_code 32 = .ok (.bipush (-5), 2) := by decide +kernel
theorem d_Md_far_34 : decode prog_12_method_8_code 34 = .ok (.goto 14, 3) := by decide +kernel
theorem d_Md_far_37 : decode prog_12_method_8_code 37 = .ok (.aload_n 0, 1) := by decide +kernel
theorem d_Md_far_38 : decode prog_12_method_8_code 38 = .ok (.getfield 7, 3) := by decide +kernel
theorem d_Md_far_41 : decode prog_12_method_8_code 41 = .ok (.bipush 10, 2) := by decide +kernel
theorem d_Md_far_43 : decode prog_12_method_8_code 43 = .ok (.iload_n 1, 1) := by decide +kernel
theorem d_Md_far_44 : decode prog_12_method_8_code 44 = .ok (.imul, 1) := by decide +kernel
theorem d_Md_far_45 : decode prog_12_method_8_code 45 = .ok (.iload_n 2, 1) := by decide +kernel
theorem d_Md_far_46 : decode prog_12_method_8_code 46 = .ok (.iadd, 1) := by decide +kernel
theorem d_Md_far_47 : decode prog_12_method_8_code 47 = .ok (.iaload, 1) := by decide +kernel
theorem d_Md_far_48 : decode prog_12_method_8_code 48 = .ok (.ireturn, 1) := by decide +kernel
set_option maxHeartbeats 4000000 in
set_option maxRecDepth 100000 in
theorem K_Md_far_e {F : FT} (hD : ∀ σ, va_D F.2.2.1 (GW F.2.1 σ)) (hm : F.2.2.2.2.2.2.2.2.2.2.2.2.2.2.1 = 3) (ok : OkF F prog_12_method_8_code "LastSeenModel" ({ frames := 1, cells := 0, slots := 0, locals := 20 } : Room)) {Q : Int → SS → Prop} (hQ : RetI F Q) {x1 x2 : Int} {s : SS} (h : Sp_Md_far x1 x2 s Q) : AtS F 0 [(0, .ref (F.2.1.1 10)), (1, vI x1), (2, vI x2)] [] s := by
  unfold Sp_Md_far at h
  refine r_iload_n ok 1 d_Md_far_0 rfl rfl ?_
  refine r_callSi (As := [vI x1]) (rest := []) ok wl_Md_185 wt_y_Md_isPlace wn_Md wc_y_Md_isPlace (by decide) (by decide) hh_Md_isPlace (Nat.le_of_ble_eq_true rfl) rfl d_Md_far_1 (L_Md_isPlace F.1 F.2.1 F.2.2.1 hD h) (fun r2 s1 h => ?_)
  refine r_if_eq ok 14 d_Md_far_4 (by decide) h.1 (fun c => ?_) (fun c => ?_)
  · replace h := h.2.1 c
    refine r_iconst ok (-1) d_Md_far_14 rfl ?_
    exact hQ _ _ _ _ _ (ok_code ok) d_Md_far_15 h
  · replace h := h.2.2 c
    refine r_iload_n ok 2 d_Md_far_7 rfl rfl ?_
    refine r_callSi (As := [vI x2]) (rest := []) ok wl_Md_185 wt_y_Md_isPlace wn_Md wc_y_Md_isPlace (by decide) (by decide) hh_Md_isPlace (Nat.le_of_ble_eq_true rfl) rfl d_Md_far_8 (L_Md_isPlace F.1 F.2.1 F.2.2.1 hD h) (fun r4 s3 h => ?_)
    refine r_if_ne ok 16 d_Md_far_11 (by decide) h.1 (fun c => ?_) (fun c => ?_)
    · replace h := h.2.1 c
      refine r_aload_n ok 0 d_Md_far_16 rfl rfl ?_
      refine g_Md_far ok d_Md_far_17 ?_
      refine r_bipush ok 10 d_Md_far_20 (by decide) ?_
      refine r_iload_n ok 1 d_Md_far_22 rfl rfl ?_
      refine r_imul ok d_Md_far_23 ?_
      refine r_iload_n ok 2 d_Md_far_24 rfl rfl ?_
      refine r_iadd ok d_Md_far_25 ?_
      refine r_iald ok 59 d_Md_far_26 (by decide) rfl h.1 ?_
      replace h := h.2
      refine r_ldc ok 100000 wk_Md_178 d_Md_far_27 (by decide) ?_
      refine r_icmp_lt ok 37 d_Md_far_29 (by decide) h.1 (by decide) (fun c => ?_) (fun c => ?_)
      · replace h := h.2.1 c
        refine r_aload_n ok 0 d_Md_far_37 rfl rfl ?_
        refine g_Md_far ok d_Md_far_38 ?_
        refine r_bipush ok 10 d_Md_far_41 (by decide) ?_
        refine r_iload_n ok 1 d_Md_far_43 rfl rfl ?_
        refine r_imul ok d_Md_far_44 ?_
        refine r_iload_n ok 2 d_Md_far_45 rfl rfl ?_
        refine r_iadd ok d_Md_far_46 ?_
        refine r_iald ok 59 d_Md_far_47 (by decide) rfl h.1 ?_
        replace h := h.2
        exact hQ _ _ _ _ _ (ok_code ok) d_Md_far_48 h
      · replace h := h.2.2 c
        refine r_bipush ok (-5) d_Md_far_32 (by decide) ?_
        refine r_goto ok 48 d_Md_far_34 (by decide) ?_
        exact hQ _ _ _ _ _ (ok_code ok) d_Md_far_48 h
    · replace h := h.2.2 c
      refine r_iconst ok (-1) d_Md_far_14 rfl ?_
      exact hQ _ _ _ _ _ (ok_code ok) d_Md_far_15 h
theorem L_Md_far (l : Launch) (G : GE) (A : Nat → Prop) (hD : ∀ σ, va_D A (GW G σ)) {x1 x2 : Int} {s : SS} {Q : Int → SS → Prop} (h : Sp_Md_far x1 x2 s Q) : Met l y_Md_far (Cond.code y_Md_far prog_12_method_8_code 3 (some .int) :: lw_ok) ({ frames := 1, cells := 0, slots := 0, locals := 20 } : Room) (va_Pc [.ref (G.1 10), vI x1, vI x2] (gB G s)) (va_Qi (fun (r : Int32) (s2 : SS) => ∃ x : Int, r = iI x ∧ Q x s2) (fun s2 t => gB G s2 t) A) 0 0 A := by
  refine met_i hD (by decide) ⟨rfl, rfl⟩ (Nat.le_of_ble_eq_true rfl) (lv := [(0, .ref (G.1 10)), (1, vI x1), (2, vI x2)]) rfl (fun F h1 h2 h3 hm ok hQ => ?_)
  subst h1 h2 h3
  have hDF := hD
  exact K_Md_far_e hDF hm ok hQ h
theorem d_Md_enters_0 : decode prog_12_method_9_code 0 = .ok (.aload_n 0, 1) := by decide +kernel
theorem d_Md_enters_1 : decode prog_12_method_9_code 1 = .ok (.getfield 13, 3) := by decide +kernel
theorem d_Md_enters_4 : decode prog_12_method_9_code 4 = .ok (.aload_n 0, 1) := by decide +kernel
theorem d_Md_enters_5 : decode prog_12_method_9_code 5 = .ok (.getfield 198, 3) := by decide +kernel
theorem d_Md_enters_8 : decode prog_12_method_9_code 8 = .ok (.iload_n 1, 1) := by decide +kernel
theorem d_Md_enters_9 : decode prog_12_method_9_code 9 = .ok (.iastore, 1) := by decide +kernel
theorem d_Md_enters_10 : decode prog_12_method_9_code 10 = .ok (.aload_n 0, 1) := by decide +kernel
theorem d_Md_enters_11 : decode prog_12_method_9_code 11 = .ok (.getfield 16, 3) := by decide +kernel
theorem d_Md_enters_14 : decode prog_12_method_9_code 14 = .ok (.aload_n 0, 1) := by decide +kernel
theorem d_Md_enters_15 : decode prog_12_method_9_code 15 = .ok (.getfield 198, 3) := by decide +kernel
theorem d_Md_enters_18 : decode prog_12_method_9_code 18 = .ok (.iload_n 2, 1) := by decide +kernel
theorem d_Md_enters_19 : decode prog_12_method_9_code 19 = .ok (.iastore, 1) := by decide +kernel
theorem d_Md_enters_20 : decode prog_12_method_9_code 20 = .ok (.aload_n 0, 1) := by decide +kernel
theorem d_Md_enters_21 : decode prog_12_method_9_code 21 = .ok (.getfield 19, 3) := by decide +kernel
theorem d_Md_enters_24 : decode prog_12_method_9_code 24 = .ok (.aload_n 0, 1) := by decide +kernel
theorem d_Md_enters_25 : decode prog_12_method_9_code 25 = .ok (.getfield 198, 3) := by decide +kernel
theorem d_Md_enters_28 : decode prog_12_method_9_code 28 = .ok (.iload_n 3, 1) := by decide +kernel
theorem d_Md_enters_29 : decode prog_12_method_9_code 29 = .ok (.iastore, 1) := by decide +kernel
theorem d_Md_enters_30 : decode prog_12_method_9_code 30 = .ok (.aload_n 0, 1) := by decide +kernel
theorem d_Md_enters_31 : decode prog_12_method_9_code 31 = .ok (.dup, 1) := by decide +kernel
theorem d_Md_enters_32 : decode prog_12_method_9_code 32 = .ok (.getfield 198, 3) := by decide +kernel
theorem d_Md_enters_35 : decode prog_12_method_9_code 35 = .ok (.iconst 1, 1) := by decide +kernel
theorem d_Md_enters_36 : decode prog_12_method_9_code 36 = .ok (.iadd, 1) := by decide +kernel
theorem d_Md_enters_37 : decode prog_12_method_9_code 37 = .ok (.putfield 198, 3) := by decide +kernel
theorem d_Md_enters_40 : decode prog_12_method_9_code 40 = .ok (.return_, 1) := by decide +kernel
set_option maxHeartbeats 4000000 in
set_option maxRecDepth 100000 in
theorem K_Md_enters_e {F : FT} (hD : ∀ σ, va_D F.2.2.1 (GW F.2.1 σ)) (hm : F.2.2.2.2.2.2.2.2.2.2.2.2.2.2.1 = 4) (ok : OkF F prog_12_method_9_code "LastSeenModel" ({ frames := 0, cells := 0, slots := 0, locals := 0 } : Room)) {Q : SS → Prop} (hQ : RetV F Q) {x1 x2 x3 : Int} {s : SS} (h : Sp_Md_enters x1 x2 x3 s Q) : AtS F 0 [(0, .ref (F.2.1.1 10)), (1, vI x1), (2, vI x2), (3, vI x3)] [] s := by
  unfold Sp_Md_enters at h
  refine r_aload_n ok 0 d_Md_enters_0 rfl rfl ?_
  refine g_Md_entryIs ok d_Md_enters_1 ?_
  refine r_aload_n ok 0 d_Md_enters_4 rfl rfl ?_
  refine g_Md_entries ok d_Md_enters_5 ?_
  refine r_iload_n ok 1 d_Md_enters_8 rfl rfl ?_
  refine r_iast ok 60 d_Md_enters_9 (by decide) rfl h.1 ?_
  replace h := h.2 _ rfl
  generalize sA s 60 (s.1 29) x1 = s1 at h ⊢
  refine r_aload_n ok 0 d_Md_enters_10 rfl rfl ?_
  refine g_Md_entryA ok d_Md_enters_11 ?_
  refine r_aload_n ok 0 d_Md_enters_14 rfl rfl ?_
  refine g_Md_entries ok d_Md_enters_15 ?_
  refine r_iload_n ok 2 d_Md_enters_18 rfl rfl ?_
  refine r_iast ok 61 d_Md_enters_19 (by decide) rfl h.1 ?_
  replace h := h.2 _ rfl
  generalize sA s1 61 (s1.1 29) x2 = s2 at h ⊢
  refine r_aload_n ok 0 d_Md_enters_20 rfl rfl ?_
  refine g_Md_entryB ok d_Md_enters_21 ?_
  refine r_aload_n ok 0 d_Md_enters_24 rfl rfl ?_
  refine g_Md_entries ok d_Md_enters_25 ?_
  refine r_iload_n ok 3 d_Md_enters_28 rfl rfl ?_
  refine r_iast ok 62 d_Md_enters_29 (by decide) rfl h.1 ?_
  replace h := h.2 _ rfl
  generalize sA s2 62 (s2.1 29) x3 = s3 at h ⊢
  refine r_aload_n ok 0 d_Md_enters_30 rfl rfl ?_
  refine r_dup ok d_Md_enters_31 rfl ?_
  refine g_Md_entries ok d_Md_enters_32 ?_
  refine r_iconst ok 1 d_Md_enters_35 rfl ?_
  refine r_iadd ok d_Md_enters_36 ?_
  refine p_Md_entries ok d_Md_enters_37 ?_
  replace h := h _ rfl
  generalize sF s3 29 ((s3.1 29) + 1) = s4 at h ⊢
  exact hQ _ _ _ _ (ok_code ok) d_Md_enters_40 h
theorem L_Md_enters (l : Launch) (G : GE) (A : Nat → Prop) (hD : ∀ σ, va_D A (GW G σ)) {x1 x2 x3 : Int} {s : SS} {Q : SS → Prop} (h : Sp_Md_enters x1 x2 x3 s Q) : Met l y_Md_enters (Cond.code y_Md_enters prog_12_method_9_code 4 (none) :: lw_ok) ({ frames := 0, cells := 0, slots := 0, locals := 0 } : Room) (va_Pc [.ref (G.1 10), vI x1, vI x2, vI x3] (gB G s)) (va_Qv (fun (s2 : SS) => Q s2) (fun s2 t => gB G s2 t) A) 0 0 A := by
  refine met_v hD (by decide) ⟨rfl, rfl⟩ (Nat.le_of_ble_eq_true rfl) (lv := [(0, .ref (G.1 10)), (1, vI x1), (2, vI x2), (3, vI x3)]) rfl (fun F h1 h2 h3 hm ok hQ => ?_)
  subst h1 h2 h3
  have hDF := hD
  exact K_Md_enters_e hDF hm ok hQ h
theorem d_Md_isTold_0 : decode prog_12_method_10_code 0 = .ok (.iload_n 1, 1) := by decide +kernel
theorem d_Md_isTold_1 : decode prog_12_method_10_code 1 = .ok (.i2l, 1) := by decide +kernel
theorem d_Md_isTold_2 : decode prog_12_method_10_code 2 = .ok (.ldc2_w 201, 3) := by decide +kernel
theorem d_Md_isTold_5 : decode prog_12_method_10_code 5 = .ok (.aload_n 0, 1) := by decide +kernel
theorem d_Md_isTold_6 : decode prog_12_method_10_code 6 = .ok (.getfield 198, 3) := by decide +kernel
theorem d_Md_isTold_9 : decode prog_12_method_10_code 9 = .ok (.i2l, 1) := by decide +kernel
theorem d_Md_isTold_10 : decode prog_12_method_10_code 10 = .ok (.invokestatic 191, 3) := by decide +kernel
theorem d_Md_isTold_13 : decode prog_12_method_10_code 13 = .ok (.ireturn, 1) := by decide +kernel
set_option maxHeartbeats 4000000 in
set_option maxRecDepth 100000 in
theorem K_Md_isTold_e {F : FT} (hD : ∀ σ, va_D F.2.2.1 (GW F.2.1 σ)) (hm : F.2.2.2.2.2.2.2.2.2.2.2.2.2.2.1 = 2) (ok : OkF F prog_12_method_10_code "LastSeenModel" ({ frames := 1, cells := 0, slots := 0, locals := 25 } : Room)) {Q : Int → SS → Prop} (hQ : RetZ F Q) {x1 : Int} {s : SS} (h : Sp_Md_isTold x1 s Q) : AtS F 0 [(0, .ref (F.2.1.1 10)), (1, vI x1)] [] s := by
  unfold Sp_Md_isTold at h
  refine r_iload_n ok 1 d_Md_isTold_0 rfl rfl ?_
  refine r_i2l ok d_Md_isTold_1 h.1 ?_
  replace h := h.2
  refine r_ldc2 ok (-1) wk_Md_201 d_Md_isTold_2 (by decide) ?_
  refine r_aload_n ok 0 d_Md_isTold_5 rfl rfl ?_
  refine g_Md_entries ok d_Md_isTold_6 ?_
  refine r_i2l ok d_Md_isTold_9 h.1 ?_
  replace h := h.2
  refine r_callSi (As := [vJ x1, vJ (-1), vJ (s.1 29)]) (rest := []) ok wl_Md_191 wt_y_Md_isIn wn_Md wc_y_Md_isIn (by decide) (by decide) hh_Md_isIn (Nat.le_of_ble_eq_true rfl) rfl d_Md_isTold_10 (L_Md_isIn F.1 F.2.1 F.2.2.1 hD h) (fun r2 s1 h => ?_)
  exact hQ _ _ _ _ _ (ok_code ok) d_Md_isTold_13 h.1 h.2
theorem L_Md_isTold (l : Launch) (G : GE) (A : Nat → Prop) (hD : ∀ σ, va_D A (GW G σ)) {x1 : Int} {s : SS} {Q : Int → SS → Prop} (h : Sp_Md_isTold x1 s Q) : Met l y_Md_isTold (Cond.code y_Md_isTold prog_12_method_10_code 2 (some .boolean) :: lw_ok) ({ frames := 1, cells := 0, slots := 0, locals := 25 } : Room) (va_Pc [.ref (G.1 10), vI x1] (gB G s)) (va_Qi (fun (r : Int32) (s2 : SS) => ∃ x : Int, r = iI x ∧ Q x s2) (fun s2 t => gB G s2 t) A) 0 0 A := by
  refine met_z hD (by decide) ⟨rfl, rfl⟩ (Nat.le_of_ble_eq_true rfl) (lv := [(0, .ref (G.1 10)), (1, vI x1)]) rfl (fun F h1 h2 h3 hm ok hQ => ?_)
  subst h1 h2 h3
  have hDF := hD
  exact K_Md_isTold_e hDF hm ok hQ h
theorem d_Md_by_0 : decode prog_12_method_11_code 0 = .ok (.iload_n 1, 1) := by decide +kernel
theorem d_Md_by_1 : decode prog_12_method_11_code 1 = .ok (.ifCond .ge 10, 3) := by decide +kernel
theorem d_Md_by_4 : decode prog_12_method_11_code 4 = .ok (.aload_n 0, 1) := by decide +kernel
theorem d_Md_by_5 : decode prog_12_method_11_code 5 = .ok (.getfield 198, 3) := by decide +kernel
theorem d_Md_by_8 : decode prog_12_method_11_code 8 = .ok (.goto 4, 3) := by decide +kernel
theorem d_Md_by_11 : decode prog_12_method_11_code 11 = .ok (.iload_n 1, 1) := by decide +kernel
theorem d_Md_by_12 : decode prog_12_method_11_code 12 = .ok (.ireturn, 1) := by decide +kernel
set_option maxHeartbeats 4000000 in
set_option maxRecDepth 100000 in
theorem K_Md_by_e {F : FT} (hD : ∀ σ, va_D F.2.2.1 (GW F.2.1 σ)) (hm : F.2.2.2.2.2.2.2.2.2.2.2.2.2.2.1 = 2) (ok : OkF F prog_12_method_11_code "LastSeenModel" ({ frames := 0, cells := 0, slots := 0, locals := 0 } : Room)) {Q : Int → SS → Prop} (hQ : RetI F Q) {x1 : Int} {s : SS} (h : Sp_Md_by x1 s Q) : AtS F 0 [(0, .ref (F.2.1.1 10)), (1, vI x1)] [] s := by
  unfold Sp_Md_by at h
  refine r_iload_n ok 1 d_Md_by_0 rfl rfl ?_
  refine r_if_ge ok 11 d_Md_by_1 (by decide) h.1 (fun c => ?_) (fun c => ?_)
  · replace h := h.2.1 c
    refine r_iload_n ok 1 d_Md_by_11 rfl rfl ?_
    exact hQ _ _ _ _ _ (ok_code ok) d_Md_by_12 h
  · replace h := h.2.2 c
    refine r_aload_n ok 0 d_Md_by_4 rfl rfl ?_
    refine g_Md_entries ok d_Md_by_5 ?_
    refine r_goto ok 12 d_Md_by_8 (by decide) ?_
    exact hQ _ _ _ _ _ (ok_code ok) d_Md_by_12 h
theorem L_Md_by (l : Launch) (G : GE) (A : Nat → Prop) (hD : ∀ σ, va_D A (GW G σ)) {x1 : Int} {s : SS} {Q : Int → SS → Prop} (h : Sp_Md_by x1 s Q) : Met l y_Md_by (Cond.code y_Md_by prog_12_method_11_code 2 (some .int) :: lw_ok) ({ frames := 0, cells := 0, slots := 0, locals := 0 } : Room) (va_Pc [.ref (G.1 10), vI x1] (gB G s)) (va_Qi (fun (r : Int32) (s2 : SS) => ∃ x : Int, r = iI x ∧ Q x s2) (fun s2 t => gB G s2 t) A) 0 0 A := by
  refine met_i hD (by decide) ⟨rfl, rfl⟩ (Nat.le_of_ble_eq_true rfl) (lv := [(0, .ref (G.1 10)), (1, vI x1)]) rfl (fun F h1 h2 h3 hm ok hQ => ?_)
  subst h1 h2 h3
  have hDF := hD
  exact K_Md_by_e hDF hm ok hQ h
theorem d_Md_feed_0 : decode prog_12_method_12_code 0 = .ok (.iload_n 3, 1) := by decide +kernel
theorem d_Md_feed_1 : decode prog_12_method_12_code 1 = .ok (.i2l, 1) := by decide +kernel
theorem d_Md_feed_2 : decode prog_12_method_12_code 2 = .ok (.lconst 1, 1) := by decide +kernel
theorem d_Md_feed_3 : decode prog_12_method_12_code 3 = .ok (.ldc2_w 203, 3) := by decide +kernel
theorem d_Md_feed_6 : decode prog_12_method_12_code 6 = .ok (.invokestatic 191, 3) := by decide +kernel
theorem d_Md_feed_9 : decode prog_12_method_12_code 9 = .ok (.ifCond .ne 6, 3) := by decide +kernel
theorem d_Md_feed_12 : decode prog_12_method_12_code 12 = .ok (.bipush (-2), 2) := by decide +kernel
theorem d_Md_feed_14 : decode prog_12_method_12_code 14 = .ok (.ireturn, 1) := by decide +kernel
theorem d_Md_feed_15 : decode prog_12_method_12_code 15 = .ok (.aload_n 0, 1) := by decide +kernel
theorem d_Md_feed_16 : decode prog_12_method_12_code 16 = .ok (.getfield 205, 3) := by decide +kernel
theorem d_Md_feed_19 : decode prog_12_method_12_code 19 = .ok (.iload_n 3, 1) := by decide +kernel
theorem d_Md_feed_20 : decode prog_12_method_12_code 20 = .ok (.iadd, 1) := by decide +kernel
theorem d_Md_feed_21 : decode prog_12_method_12_code 21 = .ok (.sipush 200, 3) := by decide +kernel
theorem d_Md_feed_24 : decode prog_12_method_12_code 24 = .ok (.if_icmp .le 6, 3) := by decide +kernel
theorem d_Md_feed_27 : decode prog_12_method_12_code 27 = .ok (.bipush (-4), 2) := by decide +kernel
theorem d_Md_feed_29 : decode prog_12_method_12_code 29 = .ok (.ireturn, 1) := by decide +kernel
theorem d_Md_feed_30 : decode prog_12_method_12_code 30 = .ok (.iload_n 3, 1) := by decide +kernel
theorem d_Md_feed_31 : decode prog_12_method_12_code 31 = .ok (.iconst 1, 1) := by decide +kernel
theorem d_Md_feed_32 : decode prog_12_method_12_code 32 = .ok (.isub, 1) := by decide +kernel
theorem d_Md_feed_33 : decode prog_12_method_12_code 33 = .ok (.istore 4, 2) := by decide +kernel
theorem d_Md_feed_35 : decode prog_12_method_12_code 35 = .ok (.iload 4, 2) := by decide +kernel
theorem d_Md_feed_37 : decode prog_12_method_12_code 37 = .ok (.ifCond .lt 40, 3) := by decide +kernel
theorem d_Md_feed_40 : decode prog_12_method_12_code 40 = .ok (.aload_n 0, 1) := by decide +kernel
theorem d_Md_feed_41 : decode prog_12_method_12_code 41 = .ok (.getfield 22, 3) := by decide +kernel
theorem d_Md_feed_44 : decode prog_12_method_12_code 44 = .ok (.aload_n 0, 1) := by decide +kernel
theorem d_Md_feed_45 : decode prog_12_method_12_code 45 = .ok (.getfield 205, 3) := by decide +kernel
theorem d_Md_feed_48 : decode prog_12_method_12_code 48 = .ok (.lload_n 1, 1) := by decide +kernel
theorem d_Md_feed_49 : decode prog_12_method_12_code 49 = .ok (.bipush 8, 2) := by decide +kernel
theorem d_Md_feed_51 : decode prog_12_method_12_code 51 = .ok (.iload 4, 2) := by decide +kernel
theorem d_Md_feed_53 : decode prog_12_method_12_code 53 = .ok (.imul, 1) := by decide +kernel
theorem d_Md_feed_54 : decode prog_12_method_12_code 54 = .ok (.lshr, 1) := by decide +kernel
theorem d_Md_feed_55 : decode prog_12_method_12_code 55 = .ok (.ldc2_w 208, 3) := by decide +kernel
theorem d_Md_feed_58 : decode prog_12_method_12_code 58 = .ok (.land, 1) := by decide +kernel
theorem d_Md_feed_59 : decode prog_12_method_12_code 59 = .ok (.l2i, 1) := by decide +kernel
theorem d_Md_feed_60 : decode prog_12_method_12_code 60 = .ok (.iastore, 1) := by decide +kernel
theorem d_Md_feed_61 : decode prog_12_method_12_code 61 = .ok (.aload_n 0, 1) := by decide +kernel
theorem d_Md_feed_62 : decode prog_12_method_12_code 62 = .ok (.dup, 1) := by decide +kernel
theorem d_Md_feed_63 : decode prog_12_method_12_code 63 = .ok (.getfield 205, 3) := by decide +kernel
theorem d_Md_feed_66 : decode prog_12_method_12_code 66 = .ok (.iconst 1, 1) := by decide +kernel
theorem d_Md_feed_67 : decode prog_12_method_12_code 67 = .ok (.iadd, 1) := by decide +kernel
theorem d_Md_feed_68 : decode prog_12_method_12_code 68 = .ok (.putfield 205, 3) := by decide +kernel
theorem d_Md_feed_71 : decode prog_12_method_12_code 71 = .ok (.iinc 4 (-1), 3) := by decide +kernel
theorem d_Md_feed_74 : decode prog_12_method_12_code 74 = .ok (.goto (-39), 3) := by decide +kernel
theorem d_Md_feed_77 : decode prog_12_method_12_code 77 = .ok (.aload_n 0, 1) := by decide +kernel
theorem d_Md_feed_78 : decode prog_12_method_12_code 78 = .ok (.getfield 205, 3) := by decide +kernel
theorem d_Md_feed_81 : decode prog_12_method_12_code 81 = .ok (.ireturn, 1) := by decide +kernel
set_option maxHeartbeats 4000000 in
set_option maxRecDepth 100000 in
theorem K_Md_feed_35 {F : FT} (hD : ∀ σ, va_D F.2.2.1 (GW F.2.1 σ)) (hm : F.2.2.2.2.2.2.2.2.2.2.2.2.2.2.1 = 5) (ok : OkF F prog_12_method_12_code "LastSeenModel" ({ frames := 1, cells := 0, slots := 0, locals := 25 } : Room)) {Q : Int → SS → Prop} (hQ : RetI F Q) {x1 x4 : Int} {s : SS} (h : B_Md_feed_35 Q (fun x1 x4 s => AtS F 35 [(0, .ref (F.2.1.1 10)), (1, vJ x1), (4, vI x4)] [] s) x1 x4 s) : AtS F 35 [(0, .ref (F.2.1.1 10)), (1, vJ x1), (4, vI x4)] [] s := by
  unfold B_Md_feed_35 at h
  refine r_iload ok 2 d_Md_feed_35 rfl ?_
  refine r_if_lt ok 77 d_Md_feed_37 (by decide) h.1 (fun c => ?_) (fun c => ?_)
  · replace h := h.2.1 c
    refine r_aload_n ok 0 d_Md_feed_77 rfl rfl ?_
    refine g_Md_taped ok d_Md_feed_78 ?_
    exact hQ _ _ _ _ _ (ok_code ok) d_Md_feed_81 h
  · replace h := h.2.2 c
    refine r_aload_n ok 0 d_Md_feed_40 rfl rfl ?_
    refine g_Md_tape ok d_Md_feed_41 ?_
    refine r_aload_n ok 0 d_Md_feed_44 rfl rfl ?_
    refine g_Md_taped ok d_Md_feed_45 ?_
    refine r_lload_n ok 1 d_Md_feed_48 rfl rfl ?_
    refine r_bipush ok 8 d_Md_feed_49 (by decide) ?_
    refine r_iload ok 2 d_Md_feed_51 rfl ?_
    refine r_imul ok d_Md_feed_53 ?_
    refine r_lshr ok d_Md_feed_54 ?_
    refine r_ldc2 ok 255 wk_Md_208 d_Md_feed_55 (by decide) ?_
    refine r_land ok d_Md_feed_58 ?_
    refine r_l2i ok d_Md_feed_59 ?_
    refine r_iast ok 63 d_Md_feed_60 (by decide) rfl h.1 ?_
    replace h := h.2 _ rfl
    generalize sA s 63 (s.1 30) (l2i (lnd (lsr x1 (8 * x4)) 255)) = s3 at h ⊢
    refine r_aload_n ok 0 d_Md_feed_61 rfl rfl ?_
    refine r_dup ok d_Md_feed_62 rfl ?_
    refine g_Md_taped ok d_Md_feed_63 ?_
    refine r_iconst ok 1 d_Md_feed_66 rfl ?_
    refine r_iadd ok d_Md_feed_67 ?_
    refine p_Md_taped ok d_Md_feed_68 ?_
    replace h := h _ rfl
    generalize sF s3 30 ((s3.1 30) + 1) = s4 at h ⊢
    refine r_iinc ok 2 (x4 + (-1)) [(4, vI (x4 + (-1))), (0, .ref (F.2.1.1 10)), (1, vJ x1)] d_Md_feed_71 rfl rfl hm (by decide) rfl ?_
    refine r_goto ok 35 d_Md_feed_74 (by decide) ?_
    exact r_sub [1, 2, 0] rfl h
set_option maxHeartbeats 4000000 in
set_option maxRecDepth 100000 in
theorem K_Md_feed_e {F : FT} (hD : ∀ σ, va_D F.2.2.1 (GW F.2.1 σ)) (hm : F.2.2.2.2.2.2.2.2.2.2.2.2.2.2.1 = 5) (ok : OkF F prog_12_method_12_code "LastSeenModel" ({ frames := 1, cells := 0, slots := 0, locals := 25 } : Room)) {Q : Int → SS → Prop} (hQ : RetI F Q) {x1 x3 : Int} {s : SS} (h : B_Md_feed_e Q (fun x1 x4 s => AtS F 35 [(0, .ref (F.2.1.1 10)), (1, vJ x1), (4, vI x4)] [] s) x1 x3 s) : AtS F 0 [(0, .ref (F.2.1.1 10)), (1, vJ x1), (3, vI x3)] [] s := by
  unfold B_Md_feed_e at h
  refine r_iload_n ok 2 d_Md_feed_0 rfl rfl ?_
  refine r_i2l ok d_Md_feed_1 h.1 ?_
  replace h := h.2
  refine r_lconst ok 1 d_Md_feed_2 (by decide) ?_
  refine r_ldc2 ok 8 wk_Md_203 d_Md_feed_3 (by decide) ?_
  refine r_callSi (As := [vJ x3, vJ 1, vJ 8]) (rest := []) ok wl_Md_191 wt_y_Md_isIn wn_Md wc_y_Md_isIn (by decide) (by decide) hh_Md_isIn (Nat.le_of_ble_eq_true rfl) rfl d_Md_feed_6 (L_Md_isIn F.1 F.2.1 F.2.2.1 hD h) (fun r2 s1 h => ?_)
  refine r_if_ne ok 15 d_Md_feed_9 (by decide) h.1 (fun c => ?_) (fun c => ?_)
  · replace h := h.2.1 c
    refine r_aload_n ok 0 d_Md_feed_15 rfl rfl ?_
    refine g_Md_taped ok d_Md_feed_16 ?_
    refine r_iload_n ok 2 d_Md_feed_19 rfl rfl ?_
    refine r_iadd ok d_Md_feed_20 ?_
    refine r_sipush ok 200 d_Md_feed_21 (by decide) ?_
    refine r_icmp_le ok 30 d_Md_feed_24 (by decide) h.1 (by decide) (fun c => ?_) (fun c => ?_)
    · replace h := h.2.1 c
      refine r_iload_n ok 2 d_Md_feed_30 rfl rfl ?_
      refine r_iconst ok 1 d_Md_feed_31 rfl ?_
      refine r_isub ok d_Md_feed_32 ?_
      refine r_istore ok [(4, vI (x3 - 1)), (0, .ref (F.2.1.1 10)), (1, vJ x1), (3, vI x3)] d_Md_feed_33 hm (by decide) rfl ?_
      exact r_sub [1, 2, 0] rfl h
    · replace h := h.2.2 c
      refine r_bipush ok (-4) d_Md_feed_27 (by decide) ?_
      exact hQ _ _ _ _ _ (ok_code ok) d_Md_feed_29 h
  · replace h := h.2.2 c
    refine r_bipush ok (-2) d_Md_feed_12 (by decide) ?_
    exact hQ _ _ _ _ _ (ok_code ok) d_Md_feed_14 h
theorem L_Md_feed (l : Launch) (G : GE) (A : Nat → Prop) (hD : ∀ σ, va_D A (GW G σ)) {x1 x3 : Int} {s : SS} {Q : Int → SS → Prop} (h : Sp_Md_feed x1 x3 s Q) : Met l y_Md_feed (Cond.code y_Md_feed prog_12_method_12_code 5 (some .int) :: lw_ok) ({ frames := 1, cells := 0, slots := 0, locals := 25 } : Room) (va_Pc [.ref (G.1 10), vJ x1, vI x3] (gB G s)) (va_Qi (fun (r : Int32) (s2 : SS) => ∃ x : Int, r = iI x ∧ Q x s2) (fun s2 t => gB G s2 t) A) 0 0 A := by
  refine met_i hD (by decide) ⟨rfl, rfl⟩ (Nat.le_of_ble_eq_true rfl) (lv := [(0, .ref (G.1 10)), (1, vJ x1), (3, vI x3)]) rfl (fun F h1 h2 h3 hm ok hQ => ?_)
  subst h1 h2 h3
  have hDF := hD
  exact K_Md_feed_e hDF hm ok hQ (h _ (fun _ _ _ hb => K_Md_feed_35 hDF hm ok hQ hb))
theorem d_Md_plain_0 : decode prog_12_method_13_code 0 = .ok (.iload_n 0, 1) := by decide +kernel
theorem d_Md_plain_1 : decode prog_12_method_13_code 1 = .ok (.bipush 113, 2) := by decide +kernel
theorem d_Md_plain_3 : decode prog_12_method_13_code 3 = .ok (.if_icmp .eq 9, 3) := by decide +kernel
theorem d_Md_plain_6 : decode prog_12_method_13_code 6 = .ok (.iload_n 0, 1) := by decide +kernel
theorem d_Md_plain_7 : decode prog_12_method_13_code 7 = .ok (.bipush 107, 2) := by decide +kernel
theorem d_Md_plain_9 : decode prog_12_method_13_code 9 = .ok (.if_icmp .ne 8, 3) := by decide +kernel
theorem d_Md_plain_12 : decode prog_12_method_13_code 12 = .ok (.bipush 99, 2) := by decide +kernel
theorem d_Md_plain_14 : decode prog_12_method_13_code 14 = .ok (.goto 43, 3) := by decide +kernel
theorem d_Md_plain_17 : decode prog_12_method_13_code 17 = .ok (.iload_n 0, 1) := by decide +kernel
theorem d_Md_plain_18 : decode prog_12_method_13_code 18 = .ok (.bipush 122, 2) := by decide +kernel
theorem d_Md_plain_20 : decode prog_12_method_13_code 20 = .ok (.if_icmp .ne 8, 3) := by decide +kernel
theorem d_Md_plain_23 : decode prog_12_method_13_code 23 = .ok (.bipush 115, 2) := by decide +kernel
theorem d_Md_plain_25 : decode prog_12_method_13_code 25 = .ok (.goto 32, 3) := by decide +kernel
theorem d_Md_plain_28 : decode prog_12_method_13_code 28 = .ok (.iload_n 0, 1) := by decide +kernel
theorem d_Md_plain_29 : decode prog_12_method_13_code 29 = .ok (.bipush 121, 2) := by decide +kernel
theorem d_Md_plain_31 : decode prog_12_method_13_code 31 = .ok (.if_icmp .eq 9, 3) := by decide +kernel
theorem d_Md_plain_34 : decode prog_12_method_13_code 34 = .ok (.iload_n 0, 1) := by decide +kernel
theorem d_Md_plain_35 : decode prog_12_method_13_code 35 = .ok (.bipush 106, 2) := by decide +kernel
theorem d_Md_plain_37 : decode prog_12_method_13_code 37 = .ok (.if_icmp .ne 8, 3) := by decide +kernel
theorem d_Md_plain_40 : decode prog_12_method_13_code 40 = .ok (.bipush 105, 2) := by decide +kernel
theorem d_Md_plain_42 : decode prog_12_method_13_code 42 = .ok (.goto 15, 3) := by decide +kernel
theorem d_Md_plain_45 : decode prog_12_method_13_code 45 = .ok (.iload_n 0, 1) := by decide +kernel
theorem d_Md_plain_46 : decode prog_12_method_13_code 46 = .ok (.bipush 119, 2) := by decide +kernel
theorem d_Md_plain_48 : decode prog_12_method_13_code 48 = .ok (.if_icmp .ne 8, 3) := by decide +kernel
theorem d_Md_plain_51 : decode prog_12_method_13_code 51 = .ok (.bipush 118, 2) := by decide +kernel
theorem d_Md_plain_53 : decode prog_12_method_13_code 53 = .ok (.goto 4, 3) := by decide +kernel
theorem d_Md_plain_56 : decode prog_12_method_13_code 56 = .ok (.iload_n 0, 1) := by decide +kernel
theorem d_Md_plain_57 : decode prog_12_method_13_code 57 = .ok (.ireturn, 1) := by decide +kernel
set_option maxHeartbeats 4000000 in
set_option maxRecDepth 100000 in
theorem K_Md_plain_e {F : FT} (hD : ∀ σ, va_D F.2.2.1 (GW F.2.1 σ)) (hm : F.2.2.2.2.2.2.2.2.2.2.2.2.2.2.1 = 1) (ok : OkF F prog_12_method_13_code "LastSeenModel" ({ frames := 0, cells := 0, slots := 0, locals := 0 } : Room)) {Q : Int → SS → Prop} (hQ : RetI F Q) {x0 : Int} {s : SS} (h : Sp_Md_plain x0 s Q) : AtS F 0 [(0, vI x0)] [] s := by
  unfold Sp_Md_plain at h
  refine r_iload_n ok 0 d_Md_plain_0 rfl rfl ?_
  refine r_bipush ok 113 d_Md_plain_1 (by decide) ?_
  refine r_icmp_eq ok 12 d_Md_plain_3 (by decide) h.1 (by decide) (fun c => ?_) (fun c => ?_)
  · replace h := h.2.1 c
    refine r_bipush ok 99 d_Md_plain_12 (by decide) ?_
    refine r_goto ok 57 d_Md_plain_14 (by decide) ?_
    exact hQ _ _ _ _ _ (ok_code ok) d_Md_plain_57 h
  · replace h := h.2.2 c
    refine r_iload_n ok 0 d_Md_plain_6 rfl rfl ?_
    refine r_bipush ok 107 d_Md_plain_7 (by decide) ?_
    refine r_icmp_ne ok 17 d_Md_plain_9 (by decide) h.1 (by decide) (fun c => ?_) (fun c => ?_)
    · replace h := h.2.1 c
      refine r_iload_n ok 0 d_Md_plain_17 rfl rfl ?_
      refine r_bipush ok 122 d_Md_plain_18 (by decide) ?_
      refine r_icmp_ne ok 28 d_Md_plain_20 (by decide) h.1 (by decide) (fun c => ?_) (fun c => ?_)
      · replace h := h.2.1 c
        refine r_iload_n ok 0 d_Md_plain_28 rfl rfl ?_
        refine r_bipush ok 121 d_Md_plain_29 (by decide) ?_
        refine r_icmp_eq ok 40 d_Md_plain_31 (by decide) h.1 (by decide) (fun c => ?_) (fun c => ?_)
        · replace h := h.2.1 c
          refine r_bipush ok 105 d_Md_plain_40 (by decide) ?_
          refine r_goto ok 57 d_Md_plain_42 (by decide) ?_
          exact hQ _ _ _ _ _ (ok_code ok) d_Md_plain_57 h
        · replace h := h.2.2 c
          refine r_iload_n ok 0 d_Md_plain_34 rfl rfl ?_
          refine r_bipush ok 106 d_Md_plain_35 (by decide) ?_
          refine r_icmp_ne ok 45 d_Md_plain_37 (by decide) h.1 (by decide) (fun c => ?_) (fun c => ?_)
          · replace h := h.2.1 c
            refine r_iload_n ok 0 d_Md_plain_45 rfl rfl ?_
            refine r_bipush ok 119 d_Md_plain_46 (by decide) ?_
            refine r_icmp_ne ok 56 d_Md_plain_48 (by decide) h.1 (by decide) (fun c => ?_) (fun c => ?_)
            · replace h := h.2.1 c
              refine r_iload_n ok 0 d_Md_plain_56 rfl rfl ?_
              exact hQ _ _ _ _ _ (ok_code ok) d_Md_plain_57 h
            · replace h := h.2.2 c
              refine r_bipush ok 118 d_Md_plain_51 (by decide) ?_
              refine r_goto ok 57 d_Md_plain_53 (by decide) ?_
              exact hQ _ _ _ _ _ (ok_code ok) d_Md_plain_57 h
          · replace h := h.2.2 c
            refine r_bipush ok 105 d_Md_plain_40 (by decide) ?_
            refine r_goto ok 57 d_Md_plain_42 (by decide) ?_
            exact hQ _ _ _ _ _ (ok_code ok) d_Md_plain_57 h
      · replace h := h.2.2 c
        refine r_bipush ok 115 d_Md_plain_23 (by decide) ?_
        refine r_goto ok 57 d_Md_plain_25 (by decide) ?_
        exact hQ _ _ _ _ _ (ok_code ok) d_Md_plain_57 h
    · replace h := h.2.2 c
      refine r_bipush ok 99 d_Md_plain_12 (by decide) ?_
      refine r_goto ok 57 d_Md_plain_14 (by decide) ?_
      exact hQ _ _ _ _ _ (ok_code ok) d_Md_plain_57 h
theorem L_Md_plain (l : Launch) (G : GE) (A : Nat → Prop) (hD : ∀ σ, va_D A (GW G σ)) {x0 : Int} {s : SS} {Q : Int → SS → Prop} (h : Sp_Md_plain x0 s Q) : Met l y_Md_plain (Cond.code y_Md_plain prog_12_method_13_code 1 (some .int) :: lw_ok) ({ frames := 0, cells := 0, slots := 0, locals := 0 } : Room) (va_Pc [vI x0] (gB G s)) (va_Qi (fun (r : Int32) (s2 : SS) => ∃ x : Int, r = iI x ∧ Q x s2) (fun s2 t => gB G s2 t) A) 0 0 A := by
  refine met_i hD (by decide) ⟨rfl, rfl⟩ (Nat.le_of_ble_eq_true rfl) (lv := [(0, vI x0)]) rfl (fun F h1 h2 h3 hm ok hQ => ?_)
  subst h1 h2 h3
  have hDF := hD
  exact K_Md_plain_e hDF hm ok hQ h
theorem d_Md_isVowel_0 : decode prog_12_method_14_code 0 = .ok (.iload_n 0, 1) := by decide +kernel
theorem d_Md_isVowel_1 : decode prog_12_method_14_code 1 = .ok (.bipush 97, 2) := by decide +kernel
theorem d_Md_isVowel_3 : decode prog_12_method_14_code 3 = .ok (.if_icmp .eq 27, 3) := by decide +kernel
theorem d_Md_isVowel_6 : decode prog_12_method_14_code 6 = .ok (.iload_n 0, 1) := by decide +kernel
theorem d_Md_isVowel_7 : decode prog_12_method_14_code 7 = .ok (.bipush 101, 2) := by decide +kernel
theorem d_Md_isVowel_9 : decode prog_12_method_14_code 9 = .ok (.if_icmp .eq 21, 3) := by decide +kernel
theorem d_Md_isVowel_12 : decode prog_12_method_14_code 12 = .ok (.iload_n 0, 1) := by decide +kernel
theorem d_Md_isVowel_13 : decode prog_12_method_14_code 13 = .ok (.bipush 105, 2) := by decide +kernel
theorem d_Md_isVowel_15 : decode prog_12_method_14_code 15 = .ok (.if_icmp .eq 15, 3) := by decide +kernel
theorem d_Md_isVowel_18 : decode prog_12_method_14_code 18 = .ok (.iload_n 0, 1) := by decide +kernel
theorem d_Md_isVowel_19 : decode prog_12_method_14_code 19 = .ok (.bipush 111, 2) := by decide +kernel
theorem d_Md_isVowel_21 : decode prog_12_method_14_code 21 = .ok (.if_icmp .eq 9, 3) := by decide +kernel
theorem d_Md_isVowel_24 : decode prog_12_method_14_code 24 = .ok (.iload_n 0, 1) := by decide +kernel
theorem d_Md_isVowel_25 : decode prog_12_method_14_code 25 = .ok (.bipush 117, 2) := by decide +kernel
theorem d_Md_isVowel_27 : decode prog_12_method_14_code 27 = .ok (.if_icmp .ne 7, 3) := by decide +kernel
theorem d_Md_isVowel_30 : decode prog_12_method_14_code 30 = .ok (.iconst 1, 1) := by decide +kernel
theorem d_Md_isVowel_31 : decode prog_12_method_14_code 31 = .ok (.goto 4, 3) := by decide +kernel
theorem d_Md_isVowel_34 : decode prog_12_method_14_code 34 = .ok (.iconst 0, 1) := by decide +kernel
theorem d_Md_isVowel_35 : decode prog_12_method_14_code 35 = .ok (.ireturn, 1) := by decide +kernel
set_option maxHeartbeats 4000000 in
set_option maxRecDepth 100000 in
theorem K_Md_isVowel_e {F : FT} (hD : ∀ σ, va_D F.2.2.1 (GW F.2.1 σ)) (hm : F.2.2.2.2.2.2.2.2.2.2.2.2.2.2.1 = 1) (ok : OkF F prog_12_method_14_code "LastSeenModel" ({ frames := 0, cells := 0, slots := 0, locals := 0 } : Room)) {Q : Int → SS → Prop} (hQ : RetZ F Q) {x0 : Int} {s : SS} (h : Sp_Md_isVowel x0 s Q) : AtS F 0 [(0, vI x0)] [] s := by
  unfold Sp_Md_isVowel at h
  refine r_iload_n ok 0 d_Md_isVowel_0 rfl rfl ?_
  refine r_bipush ok 97 d_Md_isVowel_1 (by decide) ?_
  refine r_icmp_eq ok 30 d_Md_isVowel_3 (by decide) h.1 (by decide) (fun c => ?_) (fun c => ?_)
  · replace h := h.2.1 c
    refine r_iconst ok 1 d_Md_isVowel_30 rfl ?_
    refine r_goto ok 35 d_Md_isVowel_31 (by decide) ?_
    exact hQ _ _ _ _ _ (ok_code ok) d_Md_isVowel_35 (by decide) h
  · replace h := h.2.2 c
    refine r_iload_n ok 0 d_Md_isVowel_6 rfl rfl ?_
    refine r_bipush ok 101 d_Md_isVowel_7 (by decide) ?_
    refine r_icmp_eq ok 30 d_Md_isVowel_9 (by decide) h.1 (by decide) (fun c => ?_) (fun c => ?_)
    · replace h := h.2.1 c
      refine r_iconst ok 1 d_Md_isVowel_30 rfl ?_
      refine r_goto ok 35 d_Md_isVowel_31 (by decide) ?_
      exact hQ _ _ _ _ _ (ok_code ok) d_Md_isVowel_35 (by decide) h
    · replace h := h.2.2 c
      refine r_iload_n ok 0 d_Md_isVowel_12 rfl rfl ?_
      refine r_bipush ok 105 d_Md_isVowel_13 (by decide) ?_
      refine r_icmp_eq ok 30 d_Md_isVowel_15 (by decide) h.1 (by decide) (fun c => ?_) (fun c => ?_)
      · replace h := h.2.1 c
        refine r_iconst ok 1 d_Md_isVowel_30 rfl ?_
        refine r_goto ok 35 d_Md_isVowel_31 (by decide) ?_
        exact hQ _ _ _ _ _ (ok_code ok) d_Md_isVowel_35 (by decide) h
      · replace h := h.2.2 c
        refine r_iload_n ok 0 d_Md_isVowel_18 rfl rfl ?_
        refine r_bipush ok 111 d_Md_isVowel_19 (by decide) ?_
        refine r_icmp_eq ok 30 d_Md_isVowel_21 (by decide) h.1 (by decide) (fun c => ?_) (fun c => ?_)
        · replace h := h.2.1 c
          refine r_iconst ok 1 d_Md_isVowel_30 rfl ?_
          refine r_goto ok 35 d_Md_isVowel_31 (by decide) ?_
          exact hQ _ _ _ _ _ (ok_code ok) d_Md_isVowel_35 (by decide) h
        · replace h := h.2.2 c
          refine r_iload_n ok 0 d_Md_isVowel_24 rfl rfl ?_
          refine r_bipush ok 117 d_Md_isVowel_25 (by decide) ?_
          refine r_icmp_ne ok 34 d_Md_isVowel_27 (by decide) h.1 (by decide) (fun c => ?_) (fun c => ?_)
          · replace h := h.2.1 c
            refine r_iconst ok 0 d_Md_isVowel_34 rfl ?_
            exact hQ _ _ _ _ _ (ok_code ok) d_Md_isVowel_35 (by decide) h
          · replace h := h.2.2 c
            refine r_iconst ok 1 d_Md_isVowel_30 rfl ?_
            refine r_goto ok 35 d_Md_isVowel_31 (by decide) ?_
            exact hQ _ _ _ _ _ (ok_code ok) d_Md_isVowel_35 (by decide) h
theorem L_Md_isVowel (l : Launch) (G : GE) (A : Nat → Prop) (hD : ∀ σ, va_D A (GW G σ)) {x0 : Int} {s : SS} {Q : Int → SS → Prop} (h : Sp_Md_isVowel x0 s Q) : Met l y_Md_isVowel (Cond.code y_Md_isVowel prog_12_method_14_code 1 (some .boolean) :: lw_ok) ({ frames := 0, cells := 0, slots := 0, locals := 0 } : Room) (va_Pc [vI x0] (gB G s)) (va_Qi (fun (r : Int32) (s2 : SS) => ∃ x : Int, r = iI x ∧ Q x s2) (fun s2 t => gB G s2 t) A) 0 0 A := by
  refine met_z hD (by decide) ⟨rfl, rfl⟩ (Nat.le_of_ble_eq_true rfl) (lv := [(0, vI x0)]) rfl (fun F h1 h2 h3 hm ok hQ => ?_)
  subst h1 h2 h3
  have hDF := hD
  exact K_Md_isVowel_e hDF hm ok hQ h
end
