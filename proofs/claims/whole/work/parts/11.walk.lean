section
theorem d_Wo_placeAt_0 : decode prog_10_method_4_code 0 = .ok (.aload_n 0, 1) := by decide +kernel
theorem d_Wo_placeAt_1 : decode prog_10_method_4_code 1 = .ok (.getfield 18, 3) := by decide +kernel
theorem d_Wo_placeAt_4 : decode prog_10_method_4_code 4 = .ok (.iload_n 1, 1) := by decide +kernel
theorem d_Wo_placeAt_5 : decode prog_10_method_4_code 5 = .ok (.iload_n 2, 1) := by decide +kernel
theorem d_Wo_placeAt_6 : decode prog_10_method_4_code 6 = .ok (.iastore, 1) := by decide +kernel
theorem d_Wo_placeAt_7 : decode prog_10_method_4_code 7 = .ok (.aload_n 0, 1) := by decide +kernel
theorem d_Wo_placeAt_8 : decode prog_10_method_4_code 8 = .ok (.getfield 21, 3) := by decide +kernel
theorem d_Wo_placeAt_11 : decode prog_10_method_4_code 11 = .ok (.iload_n 1, 1) := by decide +kernel
theorem d_Wo_placeAt_12 : decode prog_10_method_4_code 12 = .ok (.iload_n 3, 1) := by decide +kernel
theorem d_Wo_placeAt_13 : decode prog_10_method_4_code 13 = .ok (.iastore, 1) := by decide +kernel
theorem d_Wo_placeAt_14 : decode prog_10_method_4_code 14 = .ok (.aload_n 0, 1) := by decide +kernel
theorem d_Wo_placeAt_15 : decode prog_10_method_4_code 15 = .ok (.getfield 24, 3) := by decide +kernel
theorem d_Wo_placeAt_18 : decode prog_10_method_4_code 18 = .ok (.iload_n 1, 1) := by decide +kernel
theorem d_Wo_placeAt_19 : decode prog_10_method_4_code 19 = .ok (.iload 4, 2) := by decide +kernel
theorem d_Wo_placeAt_21 : decode prog_10_method_4_code 21 = .ok (.iastore, 1) := by decide +kernel
theorem d_Wo_placeAt_22 : decode prog_10_method_4_code 22 = .ok (.return_, 1) := by decide +kernel
set_option maxHeartbeats 4000000 in
set_option maxRecDepth 100000 in
theorem K_Wo_placeAt_e {F : FT} (hD : ∀ σ, va_D F.2.2.1 (GW F.2.1 σ)) (hm : F.2.2.2.2.2.2.2.2.2.2.2.2.2.2.1 = 5) (ok : OkF F prog_10_method_4_code "LastSeen$Words" ({ frames := 0, cells := 0, slots := 0, locals := 0 } : Room)) {Q : SS → Prop} (hQ : RetV F Q) {x1 x2 x3 x4 : Int} {s : SS} (h : Sp_Wo_placeAt x1 x2 x3 x4 s Q) : AtS F 0 [(0, .ref (F.2.1.1 4)), (1, vI x1), (2, vI x2), (3, vI x3), (4, vI x4)] [] s := by
  unfold Sp_Wo_placeAt at h
  refine r_aload_n ok 0 d_Wo_placeAt_0 rfl rfl ?_
  refine g_Wo_places ok d_Wo_placeAt_1 ?_
  refine r_iload_n ok 1 d_Wo_placeAt_4 rfl rfl ?_
  refine r_iload_n ok 2 d_Wo_placeAt_5 rfl rfl ?_
  refine r_iast ok 20 d_Wo_placeAt_6 (by decide) rfl h.1 ?_
  replace h := h.2 _ rfl
  generalize sA s 20 x1 x2 = s1 at h ⊢
  refine r_aload_n ok 0 d_Wo_placeAt_7 rfl rfl ?_
  refine g_Wo_first ok d_Wo_placeAt_8 ?_
  refine r_iload_n ok 1 d_Wo_placeAt_11 rfl rfl ?_
  refine r_iload_n ok 3 d_Wo_placeAt_12 rfl rfl ?_
  refine r_iast ok 21 d_Wo_placeAt_13 (by decide) rfl h.1 ?_
  replace h := h.2 _ rfl
  generalize sA s1 21 x1 x3 = s2 at h ⊢
  refine r_aload_n ok 0 d_Wo_placeAt_14 rfl rfl ?_
  refine g_Wo_last ok d_Wo_placeAt_15 ?_
  refine r_iload_n ok 1 d_Wo_placeAt_18 rfl rfl ?_
  refine r_iload ok 4 d_Wo_placeAt_19 rfl ?_
  refine r_iast ok 22 d_Wo_placeAt_21 (by decide) rfl h.1 ?_
  replace h := h.2 _ rfl
  generalize sA s2 22 x1 x4 = s3 at h ⊢
  exact hQ _ _ _ _ (ok_code ok) d_Wo_placeAt_22 h
theorem L_Wo_placeAt (l : Launch) (G : GE) (A : Nat → Prop) (hD : ∀ σ, va_D A (GW G σ)) {x1 x2 x3 x4 : Int} {s : SS} {Q : SS → Prop} (h : Sp_Wo_placeAt x1 x2 x3 x4 s Q) : Met l y_Wo_placeAt (Cond.code y_Wo_placeAt prog_10_method_4_code 5 (none) :: lw_ok) ({ frames := 0, cells := 0, slots := 0, locals := 0 } : Room) (va_Pc [.ref (G.1 4), vI x1, vI x2, vI x3, vI x4] (gB G s)) (va_Qv (fun (s2 : SS) => Q s2) (fun s2 t => gB G s2 t) A) 0 0 A := by
  refine met_v hD (by decide) ⟨rfl, rfl⟩ (Nat.le_of_ble_eq_true rfl) (lv := [(0, .ref (G.1 4)), (1, vI x1), (2, vI x2), (3, vI x3), (4, vI x4)]) rfl (fun F h1 h2 h3 hm ok hQ => ?_)
  subst h1 h2 h3
  have hDF := hD
  exact K_Wo_placeAt_e hDF hm ok hQ h
theorem d_LS_word_0 : decode prog_1_method_12_code 0 = .ok (.iload_n 1, 1) := by decide +kernel
theorem d_LS_word_1 : decode prog_1_method_12_code 1 = .ok (.ifCond .lt 17, 3) := by decide +kernel
theorem d_LS_word_4 : decode prog_1_method_12_code 4 = .ok (.iload_n 1, 1) := by decide +kernel
theorem d_LS_word_5 : decode prog_1_method_12_code 5 = .ok (.bipush 29, 2) := by decide +kernel
theorem d_LS_word_7 : decode prog_1_method_12_code 7 = .ok (.if_icmp .gt 11, 3) := by decide +kernel
theorem d_LS_word_10 : decode prog_1_method_12_code 10 = .ok (.aload_n 0, 1) := by decide +kernel
theorem d_LS_word_11 : decode prog_1_method_12_code 11 = .ok (.iload_n 2, 1) := by decide +kernel
theorem d_LS_word_12 : decode prog_1_method_12_code 12 = .ok (.invokevirtual 133, 3) := by decide +kernel
theorem d_LS_word_15 : decode prog_1_method_12_code 15 = .ok (.ifCond .ne 5, 3) := by decide +kernel
theorem d_LS_word_18 : decode prog_1_method_12_code 18 = .ok (.iconst (-1), 1) := by decide +kernel
theorem d_LS_word_19 : decode prog_1_method_12_code 19 = .ok (.ireturn, 1) := by decide +kernel
theorem d_LS_word_20 : decode prog_1_method_12_code 20 = .ok (.iload 6, 2) := by decide +kernel
theorem d_LS_word_22 : decode prog_1_method_12_code 22 = .ok (.iconst (-1), 1) := by decide +kernel
theorem d_LS_word_23 : decode prog_1_method_12_code 23 = .ok (.if_icmp .lt 15, 3) := by decide +kernel
theorem d_LS_word_26 : decode prog_1_method_12_code 26 = .ok (.iload 6, 2) := by decide +kernel
theorem d_LS_word_28 : decode prog_1_method_12_code 28 = .ok (.aload_n 0, 1) := by decide +kernel
theorem d_LS_word_29 : decode prog_1_method_12_code 29 = .ok (.getfield 33, 3) := by decide +kernel
theorem d_LS_word_32 : decode prog_1_method_12_code 32 = .ok (.invokevirtual 184, 3) := by decide +kernel
theorem d_LS_word_35 : decode prog_1_method_12_code 35 = .ok (.if_icmp .lt 5, 3) := by decide +kernel
theorem d_LS_word_38 : decode prog_1_method_12_code 38 = .ok (.iconst (-1), 1) := by decide +kernel
theorem d_LS_word_39 : decode prog_1_method_12_code 39 = .ok (.ireturn, 1) := by decide +kernel
theorem d_LS_word_40 : decode prog_1_method_12_code 40 = .ok (.iload_n 3, 1) := by decide +kernel
theorem d_LS_word_41 : decode prog_1_method_12_code 41 = .ok (.iconst 1, 1) := by decide +kernel
theorem d_LS_word_42 : decode prog_1_method_12_code 42 = .ok (.if_icmp .lt 10, 3) := by decide +kernel
theorem d_LS_word_45 : decode prog_1_method_12_code 45 = .ok (.iload_n 3, 1) := by decide +kernel
theorem d_LS_word_46 : decode prog_1_method_12_code 46 = .ok (.sipush 1024, 3) := by decide +kernel
theorem d_LS_word_49 : decode prog_1_method_12_code 49 = .ok (.if_icmp .lt 6, 3) := by decide +kernel
theorem d_LS_word_52 : decode prog_1_method_12_code 52 = .ok (.bipush (-2), 2) := by decide +kernel
theorem d_LS_word_54 : decode prog_1_method_12_code 54 = .ok (.ireturn, 1) := by decide +kernel
theorem d_LS_word_55 : decode prog_1_method_12_code 55 = .ok (.iload 4, 2) := by decide +kernel
theorem d_LS_word_57 : decode prog_1_method_12_code 57 = .ok (.invokestatic 185, 3) := by decide +kernel
theorem d_LS_word_60 : decode prog_1_method_12_code 60 = .ok (.ifCond .eq 18, 3) := by decide +kernel
theorem d_LS_word_63 : decode prog_1_method_12_code 63 = .ok (.iload 5, 2) := by decide +kernel
theorem d_LS_word_65 : decode prog_1_method_12_code 65 = .ok (.invokestatic 185, 3) := by decide +kernel
theorem d_LS_word_68 : decode prog_1_method_12_code 68 = .ok (.ifCond .eq 10, 3) := by decide +kernel
theorem d_LS_word_71 : decode prog_1_method_12_code 71 = .ok (.iload 4, 2) := by decide +kernel
theorem d_LS_word_73 : decode prog_1_method_12_code 73 = .ok (.iload 5, 2) := by decide +kernel
theorem d_LS_word_75 : decode prog_1_method_12_code 75 = .ok (.if_icmp .le 6, 3) := by decide +kernel
theorem d_LS_word_78 : decode prog_1_method_12_code 78 = .ok (.bipush (-2), 2) := by decide +kernel
theorem d_LS_word_80 : decode prog_1_method_12_code 80 = .ok (.ireturn, 1) := by decide +kernel
theorem d_LS_word_81 : decode prog_1_method_12_code 81 = .ok (.aload_n 0, 1) := by decide +kernel
theorem d_LS_word_82 : decode prog_1_method_12_code 82 = .ok (.getfield 33, 3) := by decide +kernel
theorem d_LS_word_85 : decode prog_1_method_12_code 85 = .ok (.invokevirtual 184, 3) := by decide +kernel
theorem d_LS_word_88 : decode prog_1_method_12_code 88 = .ok (.bipush 40, 2) := by decide +kernel
theorem d_LS_word_90 : decode prog_1_method_12_code 90 = .ok (.if_icmp .ge 10, 3) := by decide +kernel
theorem d_LS_word_93 : decode prog_1_method_12_code 93 = .ok (.aload_n 0, 1) := by decide +kernel
theorem d_LS_word_94 : decode prog_1_method_12_code 94 = .ok (.invokevirtual 119, 3) := by decide +kernel
theorem d_LS_word_97 : decode prog_1_method_12_code 97 = .ok (.ifCond .eq 6, 3) := by decide +kernel
theorem d_LS_word_100 : decode prog_1_method_12_code 100 = .ok (.bipush (-4), 2) := by decide +kernel
theorem d_LS_word_102 : decode prog_1_method_12_code 102 = .ok (.ireturn, 1) := by decide +kernel
theorem d_LS_word_103 : decode prog_1_method_12_code 103 = .ok (.aload_n 0, 1) := by decide +kernel
theorem d_LS_word_104 : decode prog_1_method_12_code 104 = .ok (.getfield 33, 3) := by decide +kernel
theorem d_LS_word_107 : decode prog_1_method_12_code 107 = .ok (.iload_n 1, 1) := by decide +kernel
theorem d_LS_word_108 : decode prog_1_method_12_code 108 = .ok (.iload_n 2, 1) := by decide +kernel
theorem d_LS_word_109 : decode prog_1_method_12_code 109 = .ok (.aload_n 0, 1) := by decide +kernel
theorem d_LS_word_110 : decode prog_1_method_12_code 110 = .ok (.getfield 122, 3) := by decide +kernel
theorem d_LS_word_113 : decode prog_1_method_12_code 113 = .ok (.iload 6, 2) := by decide +kernel
theorem d_LS_word_115 : decode prog_1_method_12_code 115 = .ok (.invokevirtual 188, 3) := by decide +kernel
theorem d_LS_word_118 : decode prog_1_method_12_code 118 = .ok (.istore 7, 2) := by decide +kernel
theorem d_LS_word_120 : decode prog_1_method_12_code 120 = .ok (.aload_n 0, 1) := by decide +kernel
theorem d_LS_word_121 : decode prog_1_method_12_code 121 = .ok (.getfield 33, 3) := by decide +kernel
theorem d_LS_word_124 : decode prog_1_method_12_code 124 = .ok (.iload 7, 2) := by decide +kernel
theorem d_LS_word_126 : decode prog_1_method_12_code 126 = .ok (.iload_n 3, 1) := by decide +kernel
theorem d_LS_word_127 : decode prog_1_method_12_code 127 = .ok (.iload 4, 2) := by decide +kernel
theorem d_LS_word_129 : decode prog_1_method_12_code 129 = .ok (.iload 5, 2) := by decide +kernel
theorem d_LS_word_131 : decode prog_1_method_12_code 131 = .ok (.invokevirtual 191, 3) := by decide +kernel
theorem d_LS_word_134 : decode prog_1_method_12_code 134 = .ok (.aload_n 0, 1) := by decide +kernel
theorem d_LS_word_135 : decode prog_1_method_12_code 135 = .ok (.dup, 1) := by decide +kernel
theorem d_LS_word_136 : decode prog_1_method_12_code 136 = .ok (.getfield 122, 3) := by decide +kernel
theorem d_LS_word_139 : decode prog_1_method_12_code 139 = .ok (.iconst 1, 1) := by decide +kernel
theorem d_LS_word_140 : decode prog_1_method_12_code 140 = .ok (.iadd, 1) := by decide +kernel
theorem d_LS_word_141 : decode prog_1_method_12_code 141 = .ok (.putfield 122, 3) := by decide +kernel
theorem d_LS_word_144 : decode prog_1_method_12_code 144 = .ok (.iload 7, 2) := by decide +kernel
theorem d_LS_word_146 : decode prog_1_method_12_code 146 = .ok (.ireturn, 1) := by decide +kernel
set_option maxHeartbeats 4000000 in
set_option maxRecDepth 100000 in
theorem K_LS_word_e {F : FT} (hD : ∀ σ, va_D F.2.2.1 (GW F.2.1 σ)) (hm : F.2.2.2.2.2.2.2.2.2.2.2.2.2.2.1 = 8) (ok : OkF F prog_1_method_12_code "LastSeen" ({ frames := 3, cells := 0, slots := 0, locals := 64 } : Room)) {Q : Int → SS → Prop} (hQ : RetI F Q) {x1 x2 x3 x4 x5 x6 : Int} {s : SS} (h : Sp_LS_word x1 x2 x3 x4 x5 x6 s Q) : AtS F 0 [(0, .ref (F.2.1.1 0)), (1, vI x1), (2, vI x2), (3, vI x3), (4, vI x4), (5, vI x5), (6, vI x6)] [] s := by
  unfold Sp_LS_word at h
  refine r_iload_n ok 1 d_LS_word_0 rfl rfl ?_
  refine r_if_lt ok 18 d_LS_word_1 (by decide) h.1 (fun c => ?_) (fun c => ?_)
  · replace h := h.2.1 c
    refine r_iconst ok (-1) d_LS_word_18 rfl ?_
    exact hQ _ _ _ _ _ (ok_code ok) d_LS_word_19 h
  · replace h := h.2.2 c
    refine r_iload_n ok 1 d_LS_word_4 rfl rfl ?_
    refine r_bipush ok 29 d_LS_word_5 (by decide) ?_
    refine r_icmp_gt ok 18 d_LS_word_7 (by decide) h.1 (by decide) (fun c => ?_) (fun c => ?_)
    · replace h := h.2.1 c
      refine r_iconst ok (-1) d_LS_word_18 rfl ?_
      exact hQ _ _ _ _ _ (ok_code ok) d_LS_word_19 h
    · replace h := h.2.2 c
      refine r_aload_n ok 0 d_LS_word_10 rfl rfl ?_
      refine r_iload_n ok 2 d_LS_word_11 rfl rfl ?_
      refine r_callVi (As := [vI x2]) (rest := []) ok 0 rfl rfl rfl wl_LS_133 wi_y_LS_isName ws_y_LS_isName wn_LS wc_y_LS_isName (by decide) (by decide) hh_LS_isName (Nat.le_of_ble_eq_true rfl) rfl d_LS_word_12 (L_LS_isName F.1 F.2.1 F.2.2.1 hD h) (fun r2 s1 h => ?_)
      refine r_if_ne ok 20 d_LS_word_15 (by decide) h.1 (fun c => ?_) (fun c => ?_)
      · replace h := h.2.1 c
        refine r_iload ok 6 d_LS_word_20 rfl ?_
        refine r_iconst ok (-1) d_LS_word_22 rfl ?_
        refine r_icmp_lt ok 38 d_LS_word_23 (by decide) h.1 (by decide) (fun c => ?_) (fun c => ?_)
        · replace h := h.2.1 c
          refine r_iconst ok (-1) d_LS_word_38 rfl ?_
          exact hQ _ _ _ _ _ (ok_code ok) d_LS_word_39 h
        · replace h := h.2.2 c
          refine r_iload ok 6 d_LS_word_26 rfl ?_
          refine r_aload_n ok 0 d_LS_word_28 rfl rfl ?_
          refine g_LS_words ok d_LS_word_29 ?_
          refine r_callVi (As := []) (rest := [vI x6]) ok 4 rfl rfl rfl wl_LS_184 wi_y_Wo_size ws_y_Wo_size wn_Wo wc_y_Wo_size (by decide) (by decide) hh_Wo_size (Nat.le_of_ble_eq_true rfl) rfl d_LS_word_32 (L_Wo_size F.1 F.2.1 F.2.2.1 hD h) (fun r4 s3 h => ?_)
          refine r_icmp_lt ok 40 d_LS_word_35 (by decide) h.1 h.2.1 (fun c => ?_) (fun c => ?_)
          · replace h := h.2.2.1 c
            refine r_iload_n ok 3 d_LS_word_40 rfl rfl ?_
            refine r_iconst ok 1 d_LS_word_41 rfl ?_
            refine r_icmp_lt ok 52 d_LS_word_42 (by decide) h.1 (by decide) (fun c => ?_) (fun c => ?_)
            · replace h := h.2.1 c
              refine r_bipush ok (-2) d_LS_word_52 (by decide) ?_
              exact hQ _ _ _ _ _ (ok_code ok) d_LS_word_54 h
            · replace h := h.2.2 c
              refine r_iload_n ok 3 d_LS_word_45 rfl rfl ?_
              refine r_sipush ok 1024 d_LS_word_46 (by decide) ?_
              refine r_icmp_lt ok 55 d_LS_word_49 (by decide) h.1 (by decide) (fun c => ?_) (fun c => ?_)
              · replace h := h.2.1 c
                refine r_iload ok 4 d_LS_word_55 rfl ?_
                refine r_callSi (As := [vI x4]) (rest := []) ok wl_LS_185 wt_y_LS_isWatch wn_LS wc_y_LS_isWatch (by decide) (by decide) hh_LS_isWatch (Nat.le_of_ble_eq_true rfl) rfl d_LS_word_57 (L_LS_isWatch F.1 F.2.1 F.2.2.1 hD h) (fun r6 s5 h => ?_)
                refine r_if_eq ok 78 d_LS_word_60 (by decide) h.1 (fun c => ?_) (fun c => ?_)
                · replace h := h.2.1 c
                  refine r_bipush ok (-2) d_LS_word_78 (by decide) ?_
                  exact hQ _ _ _ _ _ (ok_code ok) d_LS_word_80 h
                · replace h := h.2.2 c
                  refine r_iload ok 5 d_LS_word_63 rfl ?_
                  refine r_callSi (As := [vI x5]) (rest := []) ok wl_LS_185 wt_y_LS_isWatch wn_LS wc_y_LS_isWatch (by decide) (by decide) hh_LS_isWatch (Nat.le_of_ble_eq_true rfl) rfl d_LS_word_65 (L_LS_isWatch F.1 F.2.1 F.2.2.1 hD h) (fun r8 s7 h => ?_)
                  refine r_if_eq ok 78 d_LS_word_68 (by decide) h.1 (fun c => ?_) (fun c => ?_)
                  · replace h := h.2.1 c
                    refine r_bipush ok (-2) d_LS_word_78 (by decide) ?_
                    exact hQ _ _ _ _ _ (ok_code ok) d_LS_word_80 h
                  · replace h := h.2.2 c
                    refine r_iload ok 4 d_LS_word_71 rfl ?_
                    refine r_iload ok 5 d_LS_word_73 rfl ?_
                    refine r_icmp_le ok 81 d_LS_word_75 (by decide) h.1 h.2.1 (fun c => ?_) (fun c => ?_)
                    · replace h := h.2.2.1 c
                      refine r_aload_n ok 0 d_LS_word_81 rfl rfl ?_
                      refine g_LS_words ok d_LS_word_82 ?_
                      refine r_callVi (As := []) (rest := []) ok 4 rfl rfl rfl wl_LS_184 wi_y_Wo_size ws_y_Wo_size wn_Wo wc_y_Wo_size (by decide) (by decide) hh_Wo_size (Nat.le_of_ble_eq_true rfl) rfl d_LS_word_85 (L_Wo_size F.1 F.2.1 F.2.2.1 hD h) (fun r10 s9 h => ?_)
                      refine r_bipush ok 40 d_LS_word_88 (by decide) ?_
                      refine r_icmp_ge ok 100 d_LS_word_90 (by decide) h.1 (by decide) (fun c => ?_) (fun c => ?_)
                      · replace h := h.2.1 c
                        refine r_bipush ok (-4) d_LS_word_100 (by decide) ?_
                        exact hQ _ _ _ _ _ (ok_code ok) d_LS_word_102 h
                      · replace h := h.2.2 c
                        refine r_aload_n ok 0 d_LS_word_93 rfl rfl ?_
                        refine r_callVi (As := []) (rest := []) ok 0 rfl rfl rfl wl_LS_119 wi_y_LS_bookIsFull ws_y_LS_bookIsFull wn_LS wc_y_LS_bookIsFull (by decide) (by decide) hh_LS_bookIsFull (Nat.le_of_ble_eq_true rfl) rfl d_LS_word_94 (L_LS_bookIsFull F.1 F.2.1 F.2.2.1 hD h) (fun r12 s11 h => ?_)
                        refine r_if_eq ok 103 d_LS_word_97 (by decide) h.1 (fun c => ?_) (fun c => ?_)
                        · replace h := h.2.1 c
                          refine r_aload_n ok 0 d_LS_word_103 rfl rfl ?_
                          refine g_LS_words ok d_LS_word_104 ?_
                          refine r_iload_n ok 1 d_LS_word_107 rfl rfl ?_
                          refine r_iload_n ok 2 d_LS_word_108 rfl rfl ?_
                          refine r_aload_n ok 0 d_LS_word_109 rfl rfl ?_
                          refine g_LS_entries ok d_LS_word_110 ?_
                          refine r_iload ok 6 d_LS_word_113 rfl ?_
                          refine r_callVi (As := [vI x1, vI x2, vI (s11.1 1), vI x6]) (rest := []) ok 4 rfl rfl rfl wl_LS_188 wi_y_Wo_enter ws_y_Wo_enter wn_Wo wc_y_Wo_enter (by decide) (by decide) hh_Wo_enter (Nat.le_of_ble_eq_true rfl) rfl d_LS_word_115 (L_Wo_enter F.1 F.2.1 F.2.2.1 hD h) (fun r14 s13 h => ?_)
                          refine r_istore ok [(7, vI r14), (0, .ref (F.2.1.1 0)), (1, vI x1), (2, vI x2), (3, vI x3), (4, vI x4), (5, vI x5), (6, vI x6)] d_LS_word_118 hm (by decide) rfl ?_
                          refine r_aload_n ok 1 d_LS_word_120 rfl rfl ?_
                          refine g_LS_words ok d_LS_word_121 ?_
                          refine r_iload ok 0 d_LS_word_124 rfl ?_
                          refine r_iload_n ok 4 d_LS_word_126 rfl rfl ?_
                          refine r_iload ok 5 d_LS_word_127 rfl ?_
                          refine r_iload ok 6 d_LS_word_129 rfl ?_
                          refine r_callVv (As := [vI r14, vI x3, vI x4, vI x5]) (rest := []) ok 4 rfl rfl rfl wl_LS_191 wi_y_Wo_placeAt ws_y_Wo_placeAt wn_Wo wc_y_Wo_placeAt (by decide) (by decide) hh_Wo_placeAt (Nat.le_of_ble_eq_true rfl) rfl d_LS_word_131 (L_Wo_placeAt F.1 F.2.1 F.2.2.1 hD h) (fun s15 h => ?_)
                          refine r_aload_n ok 1 d_LS_word_134 rfl rfl ?_
                          refine r_dup ok d_LS_word_135 rfl ?_
                          refine g_LS_entries ok d_LS_word_136 ?_
                          refine r_iconst ok 1 d_LS_word_139 rfl ?_
                          refine r_iadd ok d_LS_word_140 ?_
                          refine p_LS_entries ok d_LS_word_141 ?_
                          replace h := h _ rfl
                          generalize sF s15 1 ((s15.1 1) + 1) = s16 at h ⊢
                          refine r_iload ok 0 d_LS_word_144 rfl ?_
                          exact hQ _ _ _ _ _ (ok_code ok) d_LS_word_146 h
                        · replace h := h.2.2 c
                          refine r_bipush ok (-4) d_LS_word_100 (by decide) ?_
                          exact hQ _ _ _ _ _ (ok_code ok) d_LS_word_102 h
                    · replace h := h.2.2.2 c
                      refine r_bipush ok (-2) d_LS_word_78 (by decide) ?_
                      exact hQ _ _ _ _ _ (ok_code ok) d_LS_word_80 h
              · replace h := h.2.2 c
                refine r_bipush ok (-2) d_LS_word_52 (by decide) ?_
                exact hQ _ _ _ _ _ (ok_code ok) d_LS_word_54 h
          · replace h := h.2.2.2 c
            refine r_iconst ok (-1) d_LS_word_38 rfl ?_
            exact hQ _ _ _ _ _ (ok_code ok) d_LS_word_39 h
      · replace h := h.2.2 c
        refine r_iconst ok (-1) d_LS_word_18 rfl ?_
        exact hQ _ _ _ _ _ (ok_code ok) d_LS_word_19 h
theorem L_LS_word (l : Launch) (G : GE) (A : Nat → Prop) (hD : ∀ σ, va_D A (GW G σ)) {x1 x2 x3 x4 x5 x6 : Int} {s : SS} {Q : Int → SS → Prop} (h : Sp_LS_word x1 x2 x3 x4 x5 x6 s Q) : Met l y_LS_word (Cond.code y_LS_word prog_1_method_12_code 8 (some .int) :: lw_ok) ({ frames := 3, cells := 0, slots := 0, locals := 64 } : Room) (va_Pc [.ref (G.1 0), vI x1, vI x2, vI x3, vI x4, vI x5, vI x6] (gB G s)) (va_Qi (fun (r : Int32) (s2 : SS) => ∃ x : Int, r = iI x ∧ Q x s2) (fun s2 t => gB G s2 t) A) 0 0 A := by
  refine met_i hD (by decide) ⟨rfl, rfl⟩ (Nat.le_of_ble_eq_true rfl) (lv := [(0, .ref (G.1 0)), (1, vI x1), (2, vI x2), (3, vI x3), (4, vI x4), (5, vI x5), (6, vI x6)]) rfl (fun F h1 h2 h3 hm ok hQ => ?_)
  subst h1 h2 h3
  have hDF := hD
  exact K_LS_word_e hDF hm ok hQ h
theorem d_Wo_entryOf_0 : decode prog_10_method_7_code 0 = .ok (.aload_n 0, 1) := by decide +kernel
theorem d_Wo_entryOf_1 : decode prog_10_method_7_code 1 = .ok (.getfield 33, 3) := by decide +kernel
theorem d_Wo_entryOf_4 : decode prog_10_method_7_code 4 = .ok (.iload_n 1, 1) := by decide +kernel
theorem d_Wo_entryOf_5 : decode prog_10_method_7_code 5 = .ok (.iaload, 1) := by decide +kernel
theorem d_Wo_entryOf_6 : decode prog_10_method_7_code 6 = .ok (.ireturn, 1) := by decide +kernel
set_option maxHeartbeats 4000000 in
set_option maxRecDepth 100000 in
theorem K_Wo_entryOf_e {F : FT} (hD : ∀ σ, va_D F.2.2.1 (GW F.2.1 σ)) (hm : F.2.2.2.2.2.2.2.2.2.2.2.2.2.2.1 = 2) (ok : OkF F prog_10_method_7_code "LastSeen$Words" ({ frames := 0, cells := 0, slots := 0, locals := 0 } : Room)) {Q : Int → SS → Prop} (hQ : RetI F Q) {x1 : Int} {s : SS} (h : Sp_Wo_entryOf x1 s Q) : AtS F 0 [(0, .ref (F.2.1.1 4)), (1, vI x1)] [] s := by
  unfold Sp_Wo_entryOf at h
  refine r_aload_n ok 0 d_Wo_entryOf_0 rfl rfl ?_
  refine g_Wo_enteredAt ok d_Wo_entryOf_1 ?_
  refine r_iload_n ok 1 d_Wo_entryOf_4 rfl rfl ?_
  refine r_iald ok 25 d_Wo_entryOf_5 (by decide) rfl h.1 ?_
  replace h := h.2
  exact hQ _ _ _ _ _ (ok_code ok) d_Wo_entryOf_6 h
theorem L_Wo_entryOf (l : Launch) (G : GE) (A : Nat → Prop) (hD : ∀ σ, va_D A (GW G σ)) {x1 : Int} {s : SS} {Q : Int → SS → Prop} (h : Sp_Wo_entryOf x1 s Q) : Met l y_Wo_entryOf (Cond.code y_Wo_entryOf prog_10_method_7_code 2 (some .int) :: lw_ok) ({ frames := 0, cells := 0, slots := 0, locals := 0 } : Room) (va_Pc [.ref (G.1 4), vI x1] (gB G s)) (va_Qi (fun (r : Int32) (s2 : SS) => ∃ x : Int, r = iI x ∧ Q x s2) (fun s2 t => gB G s2 t) A) 0 0 A := by
  refine met_i hD (by decide) ⟨rfl, rfl⟩ (Nat.le_of_ble_eq_true rfl) (lv := [(0, .ref (G.1 4)), (1, vI x1)]) rfl (fun F h1 h2 h3 hm ok hQ => ?_)
  subst h1 h2 h3
  have hDF := hD
  exact K_Wo_entryOf_e hDF hm ok hQ h
theorem d_LS_isWordBy_0 : decode prog_1_method_45_code 0 = .ok (.iload_n 1, 1) := by decide +kernel
theorem d_LS_isWordBy_1 : decode prog_1_method_45_code 1 = .ok (.ifCond .lt 30, 3) := by decide +kernel
theorem d_LS_isWordBy_4 : decode prog_1_method_45_code 4 = .ok (.iload_n 1, 1) := by decide +kernel
theorem d_LS_isWordBy_5 : decode prog_1_method_45_code 5 = .ok (.aload_n 0, 1) := by decide +kernel
theorem d_LS_isWordBy_6 : decode prog_1_method_45_code 6 = .ok (.getfield 33, 3) := by decide +kernel
theorem d_LS_isWordBy_9 : decode prog_1_method_45_code 9 = .ok (.invokevirtual 184, 3) := by decide +kernel
theorem d_LS_isWordBy_12 : decode prog_1_method_45_code 12 = .ok (.if_icmp .ge 19, 3) := by decide +kernel
theorem d_LS_isWordBy_15 : decode prog_1_method_45_code 15 = .ok (.aload_n 0, 1) := by decide +kernel
theorem d_LS_isWordBy_16 : decode prog_1_method_45_code 16 = .ok (.getfield 33, 3) := by decide +kernel
theorem d_LS_isWordBy_19 : decode prog_1_method_45_code 19 = .ok (.iload_n 1, 1) := by decide +kernel
theorem d_LS_isWordBy_20 : decode prog_1_method_45_code 20 = .ok (.invokevirtual 376, 3) := by decide +kernel
theorem d_LS_isWordBy_23 : decode prog_1_method_45_code 23 = .ok (.iload_n 2, 1) := by decide +kernel
theorem d_LS_isWordBy_24 : decode prog_1_method_45_code 24 = .ok (.if_icmp .ge 7, 3) := by decide +kernel
theorem d_LS_isWordBy_27 : decode prog_1_method_45_code 27 = .ok (.iconst 1, 1) := by decide +kernel
theorem d_LS_isWordBy_28 : decode prog_1_method_45_code 28 = .ok (.goto 4, 3) := by decide +kernel
theorem d_LS_isWordBy_31 : decode prog_1_method_45_code 31 = .ok (.iconst 0, 1) := by decide +kernel
theorem d_LS_isWordBy_32 : decode prog_1_method_45_code 32 = .ok (.ireturn, 1) := by decide +kernel
set_option maxHeartbeats 4000000 in
set_option maxRecDepth 100000 in
theorem K_LS_isWordBy_e {F : FT} (hD : ∀ σ, va_D F.2.2.1 (GW F.2.1 σ)) (hm : F.2.2.2.2.2.2.2.2.2.2.2.2.2.2.1 = 3) (ok : OkF F prog_1_method_45_code "LastSeen" ({ frames := 1, cells := 0, slots := 0, locals := 21 } : Room)) {Q : Int → SS → Prop} (hQ : RetZ F Q) {x1 x2 : Int} {s : SS} (h : Sp_LS_isWordBy x1 x2 s Q) : AtS F 0 [(0, .ref (F.2.1.1 0)), (1, vI x1), (2, vI x2)] [] s := by
  unfold Sp_LS_isWordBy at h
  refine r_iload_n ok 1 d_LS_isWordBy_0 rfl rfl ?_
  refine r_if_lt ok 31 d_LS_isWordBy_1 (by decide) h.1 (fun c => ?_) (fun c => ?_)
  · replace h := h.2.1 c
    refine r_iconst ok 0 d_LS_isWordBy_31 rfl ?_
    exact hQ _ _ _ _ _ (ok_code ok) d_LS_isWordBy_32 (by decide) h
  · replace h := h.2.2 c
    refine r_iload_n ok 1 d_LS_isWordBy_4 rfl rfl ?_
    refine r_aload_n ok 0 d_LS_isWordBy_5 rfl rfl ?_
    refine g_LS_words ok d_LS_isWordBy_6 ?_
    refine r_callVi (As := []) (rest := [vI x1]) ok 4 rfl rfl rfl wl_LS_184 wi_y_Wo_size ws_y_Wo_size wn_Wo wc_y_Wo_size (by decide) (by decide) hh_Wo_size (Nat.le_of_ble_eq_true rfl) rfl d_LS_isWordBy_9 (L_Wo_size F.1 F.2.1 F.2.2.1 hD h) (fun r2 s1 h => ?_)
    refine r_icmp_ge ok 31 d_LS_isWordBy_12 (by decide) h.1 h.2.1 (fun c => ?_) (fun c => ?_)
    · replace h := h.2.2.1 c
      refine r_iconst ok 0 d_LS_isWordBy_31 rfl ?_
      exact hQ _ _ _ _ _ (ok_code ok) d_LS_isWordBy_32 (by decide) h
    · replace h := h.2.2.2 c
      refine r_aload_n ok 0 d_LS_isWordBy_15 rfl rfl ?_
      refine g_LS_words ok d_LS_isWordBy_16 ?_
      refine r_iload_n ok 1 d_LS_isWordBy_19 rfl rfl ?_
      refine r_callVi (As := [vI x1]) (rest := []) ok 4 rfl rfl rfl wl_LS_376 wi_y_Wo_entryOf ws_y_Wo_entryOf wn_Wo wc_y_Wo_entryOf (by decide) (by decide) hh_Wo_entryOf (Nat.le_of_ble_eq_true rfl) rfl d_LS_isWordBy_20 (L_Wo_entryOf F.1 F.2.1 F.2.2.1 hD h) (fun r4 s3 h => ?_)
      refine r_iload_n ok 2 d_LS_isWordBy_23 rfl rfl ?_
      refine r_icmp_ge ok 31 d_LS_isWordBy_24 (by decide) h.1 h.2.1 (fun c => ?_) (fun c => ?_)
      · replace h := h.2.2.1 c
        refine r_iconst ok 0 d_LS_isWordBy_31 rfl ?_
        exact hQ _ _ _ _ _ (ok_code ok) d_LS_isWordBy_32 (by decide) h
      · replace h := h.2.2.2 c
        refine r_iconst ok 1 d_LS_isWordBy_27 rfl ?_
        refine r_goto ok 32 d_LS_isWordBy_28 (by decide) ?_
        exact hQ _ _ _ _ _ (ok_code ok) d_LS_isWordBy_32 (by decide) h
theorem L_LS_isWordBy (l : Launch) (G : GE) (A : Nat → Prop) (hD : ∀ σ, va_D A (GW G σ)) {x1 x2 : Int} {s : SS} {Q : Int → SS → Prop} (h : Sp_LS_isWordBy x1 x2 s Q) : Met l y_LS_isWordBy (Cond.code y_LS_isWordBy prog_1_method_45_code 3 (some .boolean) :: lw_ok) ({ frames := 1, cells := 0, slots := 0, locals := 21 } : Room) (va_Pc [.ref (G.1 0), vI x1, vI x2] (gB G s)) (va_Qi (fun (r : Int32) (s2 : SS) => ∃ x : Int, r = iI x ∧ Q x s2) (fun s2 t => gB G s2 t) A) 0 0 A := by
  refine met_z hD (by decide) ⟨rfl, rfl⟩ (Nat.le_of_ble_eq_true rfl) (lv := [(0, .ref (G.1 0)), (1, vI x1), (2, vI x2)]) rfl (fun F h1 h2 h3 hm ok hQ => ?_)
  subst h1 h2 h3
  have hDF := hD
  exact K_LS_isWordBy_e hDF hm ok hQ h
theorem d_Wo_isWithdrawn_0 : decode prog_10_method_6_code 0 = .ok (.aload_n 0, 1) := by decide +kernel
theorem d_Wo_isWithdrawn_1 : decode prog_10_method_6_code 1 = .ok (.getfield 36, 3) := by decide +kernel
theorem d_Wo_isWithdrawn_4 : decode prog_10_method_6_code 4 = .ok (.iload_n 1, 1) := by decide +kernel
theorem d_Wo_isWithdrawn_5 : decode prog_10_method_6_code 5 = .ok (.iaload, 1) := by decide +kernel
theorem d_Wo_isWithdrawn_6 : decode prog_10_method_6_code 6 = .ok (.sipush 201, 3) := by decide +kernel
theorem d_Wo_isWithdrawn_9 : decode prog_10_method_6_code 9 = .ok (.if_icmp .eq 7, 3) := by decide +kernel
theorem d_Wo_isWithdrawn_12 : decode prog_10_method_6_code 12 = .ok (.iconst 1, 1) := by decide +kernel
theorem d_Wo_isWithdrawn_13 : decode prog_10_method_6_code 13 = .ok (.goto 4, 3) := by decide +kernel
theorem d_Wo_isWithdrawn_16 : decode prog_10_method_6_code 16 = .ok (.iconst 0, 1) := by decide +kernel
theorem d_Wo_isWithdrawn_17 : decode prog_10_method_6_code 17 = .ok (.ireturn, 1) := by decide +kernel
set_option maxHeartbeats 4000000 in
set_option maxRecDepth 100000 in
theorem K_Wo_isWithdrawn_e {F : FT} (hD : ∀ σ, va_D F.2.2.1 (GW F.2.1 σ)) (hm : F.2.2.2.2.2.2.2.2.2.2.2.2.2.2.1 = 2) (ok : OkF F prog_10_method_6_code "LastSeen$Words" ({ frames := 0, cells := 0, slots := 0, locals := 0 } : Room)) {Q : Int → SS → Prop} (hQ : RetZ F Q) {x1 : Int} {s : SS} (h : Sp_Wo_isWithdrawn x1 s Q) : AtS F 0 [(0, .ref (F.2.1.1 4)), (1, vI x1)] [] s := by
  unfold Sp_Wo_isWithdrawn at h
  refine r_aload_n ok 0 d_Wo_isWithdrawn_0 rfl rfl ?_
  refine g_Wo_droppedAt ok d_Wo_isWithdrawn_1 ?_
  refine r_iload_n ok 1 d_Wo_isWithdrawn_4 rfl rfl ?_
  refine r_iald ok 26 d_Wo_isWithdrawn_5 (by decide) rfl h.1 ?_
  replace h := h.2
  refine r_sipush ok 201 d_Wo_isWithdrawn_6 (by decide) ?_
  refine r_icmp_eq ok 16 d_Wo_isWithdrawn_9 (by decide) h.1 (by decide) (fun c => ?_) (fun c => ?_)
  · replace h := h.2.1 c
    refine r_iconst ok 0 d_Wo_isWithdrawn_16 rfl ?_
    exact hQ _ _ _ _ _ (ok_code ok) d_Wo_isWithdrawn_17 (by decide) h
  · replace h := h.2.2 c
    refine r_iconst ok 1 d_Wo_isWithdrawn_12 rfl ?_
    refine r_goto ok 17 d_Wo_isWithdrawn_13 (by decide) ?_
    exact hQ _ _ _ _ _ (ok_code ok) d_Wo_isWithdrawn_17 (by decide) h
theorem L_Wo_isWithdrawn (l : Launch) (G : GE) (A : Nat → Prop) (hD : ∀ σ, va_D A (GW G σ)) {x1 : Int} {s : SS} {Q : Int → SS → Prop} (h : Sp_Wo_isWithdrawn x1 s Q) : Met l y_Wo_isWithdrawn (Cond.code y_Wo_isWithdrawn prog_10_method_6_code 2 (some .boolean) :: lw_ok) ({ frames := 0, cells := 0, slots := 0, locals := 0 } : Room) (va_Pc [.ref (G.1 4), vI x1] (gB G s)) (va_Qi (fun (r : Int32) (s2 : SS) => ∃ x : Int, r = iI x ∧ Q x s2) (fun s2 t => gB G s2 t) A) 0 0 A := by
  refine met_z hD (by decide) ⟨rfl, rfl⟩ (Nat.le_of_ble_eq_true rfl) (lv := [(0, .ref (G.1 4)), (1, vI x1)]) rfl (fun F h1 h2 h3 hm ok hQ => ?_)
  subst h1 h2 h3
  have hDF := hD
  exact K_Wo_isWithdrawn_e hDF hm ok hQ h
theorem d_Wo_readBy_0 : decode prog_10_method_15_code 0 = .ok (.iconst 0, 1) := by decide +kernel
theorem d_Wo_readBy_1 : decode prog_10_method_15_code 1 = .ok (.istore_n 3, 1) := by decide +kernel
theorem d_Wo_readBy_2 : decode prog_10_method_15_code 2 = .ok (.iload_n 3, 1) := by decide +kernel
theorem d_Wo_readBy_3 : decode prog_10_method_15_code 3 = .ok (.aload_n 0, 1) := by decide +kernel
theorem d_Wo_readBy_4 : decode prog_10_method_15_code 4 = .ok (.getfield 43, 3) := by decide +kernel
theorem d_Wo_readBy_7 : decode prog_10_method_15_code 7 = .ok (.if_icmp .ge 75, 3) := by decide +kernel
theorem d_Wo_readBy_10 : decode prog_10_method_15_code 10 = .ok (.aload_n 0, 1) := by decide +kernel
theorem d_Wo_readBy_11 : decode prog_10_method_15_code 11 = .ok (.getfield 33, 3) := by decide +kernel
theorem d_Wo_readBy_14 : decode prog_10_method_15_code 14 = .ok (.iload_n 3, 1) := by decide +kernel
theorem d_Wo_readBy_15 : decode prog_10_method_15_code 15 = .ok (.iaload, 1) := by decide +kernel
theorem d_Wo_readBy_16 : decode prog_10_method_15_code 16 = .ok (.iload_n 1, 1) := by decide +kernel
theorem d_Wo_readBy_17 : decode prog_10_method_15_code 17 = .ok (.if_icmp .ge 17, 3) := by decide +kernel
theorem d_Wo_readBy_20 : decode prog_10_method_15_code 20 = .ok (.aload_n 0, 1) := by decide +kernel
theorem d_Wo_readBy_21 : decode prog_10_method_15_code 21 = .ok (.getfield 36, 3) := by decide +kernel
theorem d_Wo_readBy_24 : decode prog_10_method_15_code 24 = .ok (.iload_n 3, 1) := by decide +kernel
theorem d_Wo_readBy_25 : decode prog_10_method_15_code 25 = .ok (.iaload, 1) := by decide +kernel
theorem d_Wo_readBy_26 : decode prog_10_method_15_code 26 = .ok (.iload_n 2, 1) := by decide +kernel
theorem d_Wo_readBy_27 : decode prog_10_method_15_code 27 = .ok (.if_icmp .lt 7, 3) := by decide +kernel
theorem d_Wo_readBy_30 : decode prog_10_method_15_code 30 = .ok (.iconst 1, 1) := by decide +kernel
theorem d_Wo_readBy_31 : decode prog_10_method_15_code 31 = .ok (.goto 4, 3) := by decide +kernel
theorem d_Wo_readBy_34 : decode prog_10_method_15_code 34 = .ok (.iconst 0, 1) := by decide +kernel
theorem d_Wo_readBy_35 : decode prog_10_method_15_code 35 = .ok (.istore 4, 2) := by decide +kernel
theorem d_Wo_readBy_37 : decode prog_10_method_15_code 37 = .ok (.aload_n 0, 1) := by decide +kernel
theorem d_Wo_readBy_38 : decode prog_10_method_15_code 38 = .ok (.getfield 39, 3) := by decide +kernel
theorem d_Wo_readBy_41 : decode prog_10_method_15_code 41 = .ok (.iload_n 3, 1) := by decide +kernel
theorem d_Wo_readBy_42 : decode prog_10_method_15_code 42 = .ok (.iload 4, 2) := by decide +kernel
theorem d_Wo_readBy_44 : decode prog_10_method_15_code 44 = .ok (.ifCond .eq 30, 3) := by decide +kernel
theorem d_Wo_readBy_47 : decode prog_10_method_15_code 47 = .ok (.aload_n 0, 1) := by decide +kernel
theorem d_Wo_readBy_48 : decode prog_10_method_15_code 48 = .ok (.getfield 27, 3) := by decide +kernel
theorem d_Wo_readBy_51 : decode prog_10_method_15_code 51 = .ok (.iload_n 3, 1) := by decide +kernel
theorem d_Wo_readBy_52 : decode prog_10_method_15_code 52 = .ok (.iaload, 1) := by decide +kernel
theorem d_Wo_readBy_53 : decode prog_10_method_15_code 53 = .ok (.ifCond .lt 17, 3) := by decide +kernel
theorem d_Wo_readBy_56 : decode prog_10_method_15_code 56 = .ok (.aload_n 0, 1) := by decide +kernel
theorem d_Wo_readBy_57 : decode prog_10_method_15_code 57 = .ok (.getfield 39, 3) := by decide +kernel
theorem d_Wo_readBy_60 : decode prog_10_method_15_code 60 = .ok (.aload_n 0, 1) := by decide +kernel
theorem d_Wo_readBy_61 : decode prog_10_method_15_code 61 = .ok (.getfield 27, 3) := by decide +kernel
theorem d_Wo_readBy_64 : decode prog_10_method_15_code 64 = .ok (.iload_n 3, 1) := by decide +kernel
theorem d_Wo_readBy_65 : decode prog_10_method_15_code 65 = .ok (.iaload, 1) := by decide +kernel
theorem d_Wo_readBy_66 : decode prog_10_method_15_code 66 = .ok (.baload, 1) := by decide +kernel
theorem d_Wo_readBy_67 : decode prog_10_method_15_code 67 = .ok (.ifCond .eq 7, 3) := by decide +kernel
theorem d_Wo_readBy_70 : decode prog_10_method_15_code 70 = .ok (.iconst 1, 1) := by decide +kernel
theorem d_Wo_readBy_71 : decode prog_10_method_15_code 71 = .ok (.goto 4, 3) := by decide +kernel
theorem d_Wo_readBy_74 : decode prog_10_method_15_code 74 = .ok (.iconst 0, 1) := by decide +kernel
theorem d_Wo_readBy_75 : decode prog_10_method_15_code 75 = .ok (.bastore, 1) := by decide +kernel
theorem d_Wo_readBy_76 : decode prog_10_method_15_code 76 = .ok (.iinc 3 1, 3) := by decide +kernel
theorem d_Wo_readBy_79 : decode prog_10_method_15_code 79 = .ok (.goto (-77), 3) := by decide +kernel
theorem d_Wo_readBy_82 : decode prog_10_method_15_code 82 = .ok (.return_, 1) := by decide +kernel
set_option maxHeartbeats 4000000 in
set_option maxRecDepth 100000 in
theorem K_Wo_readBy_2 {F : FT} (hD : ∀ σ, va_D F.2.2.1 (GW F.2.1 σ)) (hm : F.2.2.2.2.2.2.2.2.2.2.2.2.2.2.1 = 5) (ok : OkF F prog_10_method_15_code "LastSeen$Words" ({ frames := 0, cells := 0, slots := 0, locals := 0 } : Room)) {Q : SS → Prop} (hQ : RetV F Q) {x1 x2 x3 : Int} {s : SS} (h : B_Wo_readBy_2 Q (fun x1 x2 x3 s => AtS F 2 [(0, .ref (F.2.1.1 4)), (1, vI x1), (2, vI x2), (3, vI x3)] [] s) (fun x1 x2 x3 y0 s => AtS F 35 [(0, .ref (F.2.1.1 4)), (1, vI x1), (2, vI x2), (3, vI x3)] [vI y0] s) x1 x2 x3 s) : AtS F 2 [(0, .ref (F.2.1.1 4)), (1, vI x1), (2, vI x2), (3, vI x3)] [] s := by
  unfold B_Wo_readBy_2 at h
  refine r_iload_n ok 3 d_Wo_readBy_2 rfl rfl ?_
  refine r_aload_n ok 0 d_Wo_readBy_3 rfl rfl ?_
  refine g_Wo_size ok d_Wo_readBy_4 ?_
  refine r_icmp_ge ok 82 d_Wo_readBy_7 (by decide) h.1 h.2.1 (fun c => ?_) (fun c => ?_)
  · replace h := h.2.2.1 c
    exact hQ _ _ _ _ (ok_code ok) d_Wo_readBy_82 h
  · replace h := h.2.2.2 c
    refine r_aload_n ok 0 d_Wo_readBy_10 rfl rfl ?_
    refine g_Wo_enteredAt ok d_Wo_readBy_11 ?_
    refine r_iload_n ok 3 d_Wo_readBy_14 rfl rfl ?_
    refine r_iald ok 25 d_Wo_readBy_15 (by decide) rfl h.1 ?_
    replace h := h.2
    refine r_iload_n ok 1 d_Wo_readBy_16 rfl rfl ?_
    refine r_icmp_ge ok 34 d_Wo_readBy_17 (by decide) h.1 h.2.1 (fun c => ?_) (fun c => ?_)
    · replace h := h.2.2.1 c
      refine r_iconst ok 0 d_Wo_readBy_34 rfl ?_
      exact r_sub [0, 1, 2, 3] rfl h
    · replace h := h.2.2.2 c
      refine r_aload_n ok 0 d_Wo_readBy_20 rfl rfl ?_
      refine g_Wo_droppedAt ok d_Wo_readBy_21 ?_
      refine r_iload_n ok 3 d_Wo_readBy_24 rfl rfl ?_
      refine r_iald ok 26 d_Wo_readBy_25 (by decide) rfl h.1 ?_
      replace h := h.2
      refine r_iload_n ok 2 d_Wo_readBy_26 rfl rfl ?_
      refine r_icmp_lt ok 34 d_Wo_readBy_27 (by decide) h.1 h.2.1 (fun c => ?_) (fun c => ?_)
      · replace h := h.2.2.1 c
        refine r_iconst ok 0 d_Wo_readBy_34 rfl ?_
        exact r_sub [0, 1, 2, 3] rfl h
      · replace h := h.2.2.2 c
        refine r_iconst ok 1 d_Wo_readBy_30 rfl ?_
        refine r_goto ok 35 d_Wo_readBy_31 (by decide) ?_
        exact r_sub [0, 1, 2, 3] rfl h
set_option maxHeartbeats 4000000 in
set_option maxRecDepth 100000 in
theorem K_Wo_readBy_35 {F : FT} (hD : ∀ σ, va_D F.2.2.1 (GW F.2.1 σ)) (hm : F.2.2.2.2.2.2.2.2.2.2.2.2.2.2.1 = 5) (ok : OkF F prog_10_method_15_code "LastSeen$Words" ({ frames := 0, cells := 0, slots := 0, locals := 0 } : Room)) {Q : SS → Prop} (hQ : RetV F Q) {x1 x2 x3 y0 : Int} {s : SS} (h : B_Wo_readBy_35 Q (fun x1 x2 x3 s => AtS F 2 [(0, .ref (F.2.1.1 4)), (1, vI x1), (2, vI x2), (3, vI x3)] [] s) (fun x1 x2 x3 y0 s => AtS F 35 [(0, .ref (F.2.1.1 4)), (1, vI x1), (2, vI x2), (3, vI x3)] [vI y0] s) x1 x2 x3 y0 s) : AtS F 35 [(0, .ref (F.2.1.1 4)), (1, vI x1), (2, vI x2), (3, vI x3)] [vI y0] s := by
  unfold B_Wo_readBy_35 at h
  refine r_istore ok [(4, vI y0), (0, .ref (F.2.1.1 4)), (1, vI x1), (2, vI x2), (3, vI x3)] d_Wo_readBy_35 hm (by decide) rfl ?_
  refine r_aload_n ok 1 d_Wo_readBy_37 rfl rfl ?_
  refine g_Wo_standing ok d_Wo_readBy_38 ?_
  refine r_iload_n ok 4 d_Wo_readBy_41 rfl rfl ?_
  refine r_iload ok 0 d_Wo_readBy_42 rfl ?_
  refine r_if_eq ok 74 d_Wo_readBy_44 (by decide) h.1 (fun c => ?_) (fun c => ?_)
  · replace h := h.2.1 c
    refine r_iconst ok 0 d_Wo_readBy_74 rfl ?_
    refine r_zast ok 27 d_Wo_readBy_75 (by decide) rfl h.1 (by decide) ?_
    replace h := h.2 _ rfl
    generalize sA s 27 x3 0 = s1 at h ⊢
    refine r_iinc ok 4 (x3 + 1) [(3, vI (x3 + 1)), (4, vI y0), (0, .ref (F.2.1.1 4)), (1, vI x1), (2, vI x2)] d_Wo_readBy_76 rfl rfl hm (by decide) rfl ?_
    refine r_goto ok 2 d_Wo_readBy_79 (by decide) ?_
    exact r_sub [2, 3, 4, 0] rfl h
  · replace h := h.2.2 c
    refine r_aload_n ok 1 d_Wo_readBy_47 rfl rfl ?_
    refine g_Wo_heardOf ok d_Wo_readBy_48 ?_
    refine r_iload_n ok 4 d_Wo_readBy_51 rfl rfl ?_
    refine r_iald ok 23 d_Wo_readBy_52 (by decide) rfl h.1 ?_
    replace h := h.2
    refine r_if_lt ok 70 d_Wo_readBy_53 (by decide) h.1 (fun c => ?_) (fun c => ?_)
    · replace h := h.2.1 c
      refine r_iconst ok 1 d_Wo_readBy_70 rfl ?_
      refine r_goto ok 75 d_Wo_readBy_71 (by decide) ?_
      refine r_zast ok 27 d_Wo_readBy_75 (by decide) rfl h.1 (by decide) ?_
      replace h := h.2 _ rfl
      generalize sA s 27 x3 1 = s2 at h ⊢
      refine r_iinc ok 4 (x3 + 1) [(3, vI (x3 + 1)), (4, vI y0), (0, .ref (F.2.1.1 4)), (1, vI x1), (2, vI x2)] d_Wo_readBy_76 rfl rfl hm (by decide) rfl ?_
      refine r_goto ok 2 d_Wo_readBy_79 (by decide) ?_
      exact r_sub [2, 3, 4, 0] rfl h
    · replace h := h.2.2 c
      refine r_aload_n ok 1 d_Wo_readBy_56 rfl rfl ?_
      refine g_Wo_standing ok d_Wo_readBy_57 ?_
      refine r_aload_n ok 1 d_Wo_readBy_60 rfl rfl ?_
      refine g_Wo_heardOf ok d_Wo_readBy_61 ?_
      refine r_iload_n ok 4 d_Wo_readBy_64 rfl rfl ?_
      refine r_iald ok 23 d_Wo_readBy_65 (by decide) rfl h.1 ?_
      replace h := h.2
      refine r_zald ok 27 d_Wo_readBy_66 (by decide) rfl h.1 ?_
      replace h := h.2
      refine r_if_eq ok 74 d_Wo_readBy_67 (by decide) h.1 (fun c => ?_) (fun c => ?_)
      · replace h := h.2.1 c
        refine r_iconst ok 0 d_Wo_readBy_74 rfl ?_
        refine r_zast ok 27 d_Wo_readBy_75 (by decide) rfl h.1 (by decide) ?_
        replace h := h.2 _ rfl
        generalize sA s 27 x3 0 = s3 at h ⊢
        refine r_iinc ok 4 (x3 + 1) [(3, vI (x3 + 1)), (4, vI y0), (0, .ref (F.2.1.1 4)), (1, vI x1), (2, vI x2)] d_Wo_readBy_76 rfl rfl hm (by decide) rfl ?_
        refine r_goto ok 2 d_Wo_readBy_79 (by decide) ?_
        exact r_sub [2, 3, 4, 0] rfl h
      · replace h := h.2.2 c
        refine r_iconst ok 1 d_Wo_readBy_70 rfl ?_
        refine r_goto ok 75 d_Wo_readBy_71 (by decide) ?_
        refine r_zast ok 27 d_Wo_readBy_75 (by decide) rfl h.1 (by decide) ?_
        replace h := h.2 _ rfl
        generalize sA s 27 x3 1 = s4 at h ⊢
        refine r_iinc ok 4 (x3 + 1) [(3, vI (x3 + 1)), (4, vI y0), (0, .ref (F.2.1.1 4)), (1, vI x1), (2, vI x2)] d_Wo_readBy_76 rfl rfl hm (by decide) rfl ?_
        refine r_goto ok 2 d_Wo_readBy_79 (by decide) ?_
        exact r_sub [2, 3, 4, 0] rfl h
set_option maxHeartbeats 4000000 in
set_option maxRecDepth 100000 in
theorem K_Wo_readBy_e {F : FT} (hD : ∀ σ, va_D F.2.2.1 (GW F.2.1 σ)) (hm : F.2.2.2.2.2.2.2.2.2.2.2.2.2.2.1 = 5) (ok : OkF F prog_10_method_15_code "LastSeen$Words" ({ frames := 0, cells := 0, slots := 0, locals := 0 } : Room)) {Q : SS → Prop} (hQ : RetV F Q) {x1 x2 : Int} {s : SS} (h : B_Wo_readBy_e Q (fun x1 x2 x3 s => AtS F 2 [(0, .ref (F.2.1.1 4)), (1, vI x1), (2, vI x2), (3, vI x3)] [] s) (fun x1 x2 x3 y0 s => AtS F 35 [(0, .ref (F.2.1.1 4)), (1, vI x1), (2, vI x2), (3, vI x3)] [vI y0] s) x1 x2 s) : AtS F 0 [(0, .ref (F.2.1.1 4)), (1, vI x1), (2, vI x2)] [] s := by
  unfold B_Wo_readBy_e at h
  refine r_iconst ok 0 d_Wo_readBy_0 rfl ?_
  refine r_istore_n ok [(3, vI 0), (0, .ref (F.2.1.1 4)), (1, vI x1), (2, vI x2)] d_Wo_readBy_1 rfl hm (by decide) rfl ?_
  exact r_sub [1, 2, 3, 0] rfl h
theorem L_Wo_readBy (l : Launch) (G : GE) (A : Nat → Prop) (hD : ∀ σ, va_D A (GW G σ)) {x1 x2 : Int} {s : SS} {Q : SS → Prop} (h : Sp_Wo_readBy x1 x2 s Q) : Met l y_Wo_readBy (Cond.code y_Wo_readBy prog_10_method_15_code 5 (none) :: lw_ok) ({ frames := 0, cells := 0, slots := 0, locals := 0 } : Room) (va_Pc [.ref (G.1 4), vI x1, vI x2] (gB G s)) (va_Qv (fun (s2 : SS) => Q s2) (fun s2 t => gB G s2 t) A) 0 0 A := by
  refine met_v hD (by decide) ⟨rfl, rfl⟩ (Nat.le_of_ble_eq_true rfl) (lv := [(0, .ref (G.1 4)), (1, vI x1), (2, vI x2)]) rfl (fun F h1 h2 h3 hm ok hQ => ?_)
  subst h1 h2 h3
  have hDF := hD
  exact K_Wo_readBy_e hDF hm ok hQ (h _ _ (fun _ _ _ _ hb => K_Wo_readBy_2 hDF hm ok hQ hb) (fun _ _ _ _ _ hb => K_Wo_readBy_35 hDF hm ok hQ hb))
theorem d_Wo_standing_0 : decode prog_10_method_17_code 0 = .ok (.iconst 0, 1) := by decide +kernel
theorem d_Wo_standing_1 : decode prog_10_method_17_code 1 = .ok (.istore_n 1, 1) := by decide +kernel
theorem d_Wo_standing_2 : decode prog_10_method_17_code 2 = .ok (.iconst 0, 1) := by decide +kernel
theorem d_Wo_standing_3 : decode prog_10_method_17_code 3 = .ok (.istore_n 2, 1) := by decide +kernel
theorem d_Wo_standing_4 : decode prog_10_method_17_code 4 = .ok (.iload_n 2, 1) := by decide +kernel
theorem d_Wo_standing_5 : decode prog_10_method_17_code 5 = .ok (.aload_n 0, 1) := by decide +kernel
theorem d_Wo_standing_6 : decode prog_10_method_17_code 6 = .ok (.getfield 43, 3) := by decide +kernel
theorem d_Wo_standing_9 : decode prog_10_method_17_code 9 = .ok (.if_icmp .ge 21, 3) := by decide +kernel
theorem d_Wo_standing_12 : decode prog_10_method_17_code 12 = .ok (.aload_n 0, 1) := by decide +kernel
theorem d_Wo_standing_13 : decode prog_10_method_17_code 13 = .ok (.getfield 39, 3) := by decide +kernel
theorem d_Wo_standing_16 : decode prog_10_method_17_code 16 = .ok (.iload_n 2, 1) := by decide +kernel
theorem d_Wo_standing_17 : decode prog_10_method_17_code 17 = .ok (.baload, 1) := by decide +kernel
theorem d_Wo_standing_18 : decode prog_10_method_17_code 18 = .ok (.ifCond .eq 6, 3) := by decide +kernel
theorem d_Wo_standing_21 : decode prog_10_method_17_code 21 = .ok (.iinc 1 1, 3) := by decide +kernel
theorem d_Wo_standing_24 : decode prog_10_method_17_code 24 = .ok (.iinc 2 1, 3) := by decide +kernel
theorem d_Wo_standing_27 : decode prog_10_method_17_code 27 = .ok (.goto (-23), 3) := by decide +kernel
theorem d_Wo_standing_30 : decode prog_10_method_17_code 30 = .ok (.iload_n 1, 1) := by decide +kernel
theorem d_Wo_standing_31 : decode prog_10_method_17_code 31 = .ok (.ireturn, 1) := by decide +kernel
set_option maxHeartbeats 4000000 in
set_option maxRecDepth 100000 in
theorem K_Wo_standing_4 {F : FT} (hD : ∀ σ, va_D F.2.2.1 (GW F.2.1 σ)) (hm : F.2.2.2.2.2.2.2.2.2.2.2.2.2.2.1 = 3) (ok : OkF F prog_10_method_17_code "LastSeen$Words" ({ frames := 0, cells := 0, slots := 0, locals := 0 } : Room)) {Q : Int → SS → Prop} (hQ : RetI F Q) {x1 x2 : Int} {s : SS} (h : B_Wo_standing_4 Q (fun x1 x2 s => AtS F 4 [(0, .ref (F.2.1.1 4)), (1, vI x1), (2, vI x2)] [] s) x1 x2 s) : AtS F 4 [(0, .ref (F.2.1.1 4)), (1, vI x1), (2, vI x2)] [] s := by
  unfold B_Wo_standing_4 at h
  refine r_iload_n ok 2 d_Wo_standing_4 rfl rfl ?_
  refine r_aload_n ok 0 d_Wo_standing_5 rfl rfl ?_
  refine g_Wo_size ok d_Wo_standing_6 ?_
  refine r_icmp_ge ok 30 d_Wo_standing_9 (by decide) h.1 h.2.1 (fun c => ?_) (fun c => ?_)
  · replace h := h.2.2.1 c
    refine r_iload_n ok 1 d_Wo_standing_30 rfl rfl ?_
    exact hQ _ _ _ _ _ (ok_code ok) d_Wo_standing_31 h
  · replace h := h.2.2.2 c
    refine r_aload_n ok 0 d_Wo_standing_12 rfl rfl ?_
    refine g_Wo_standing ok d_Wo_standing_13 ?_
    refine r_iload_n ok 2 d_Wo_standing_16 rfl rfl ?_
    refine r_zald ok 27 d_Wo_standing_17 (by decide) rfl h.1 ?_
    replace h := h.2
    refine r_if_eq ok 24 d_Wo_standing_18 (by decide) h.1 (fun c => ?_) (fun c => ?_)
    · replace h := h.2.1 c
      refine r_iinc ok 2 (x2 + 1) [(2, vI (x2 + 1)), (0, .ref (F.2.1.1 4)), (1, vI x1)] d_Wo_standing_24 rfl rfl hm (by decide) rfl ?_
      refine r_goto ok 4 d_Wo_standing_27 (by decide) ?_
      exact r_sub [1, 2, 0] rfl h
    · replace h := h.2.2 c
      refine r_iinc ok 1 (x1 + 1) [(1, vI (x1 + 1)), (0, .ref (F.2.1.1 4)), (2, vI x2)] d_Wo_standing_21 rfl rfl hm (by decide) rfl ?_
      refine r_iinc ok 2 (x2 + 1) [(2, vI (x2 + 1)), (1, vI (x1 + 1)), (0, .ref (F.2.1.1 4))] d_Wo_standing_24 rfl rfl hm (by decide) rfl ?_
      refine r_goto ok 4 d_Wo_standing_27 (by decide) ?_
      exact r_sub [2, 1, 0] rfl h
set_option maxHeartbeats 4000000 in
set_option maxRecDepth 100000 in
theorem K_Wo_standing_e {F : FT} (hD : ∀ σ, va_D F.2.2.1 (GW F.2.1 σ)) (hm : F.2.2.2.2.2.2.2.2.2.2.2.2.2.2.1 = 3) (ok : OkF F prog_10_method_17_code "LastSeen$Words" ({ frames := 0, cells := 0, slots := 0, locals := 0 } : Room)) {Q : Int → SS → Prop} (hQ : RetI F Q) {s : SS} (h : B_Wo_standing_e Q (fun x1 x2 s => AtS F 4 [(0, .ref (F.2.1.1 4)), (1, vI x1), (2, vI x2)] [] s)  s) : AtS F 0 [(0, .ref (F.2.1.1 4))] [] s := by
  unfold B_Wo_standing_e at h
  refine r_iconst ok 0 d_Wo_standing_0 rfl ?_
  refine r_istore_n ok [(1, vI 0), (0, .ref (F.2.1.1 4))] d_Wo_standing_1 rfl hm (by decide) rfl ?_
  refine r_iconst ok 0 d_Wo_standing_2 rfl ?_
  refine r_istore_n ok [(2, vI 0), (1, vI 0), (0, .ref (F.2.1.1 4))] d_Wo_standing_3 rfl hm (by decide) rfl ?_
  exact r_sub [2, 1, 0] rfl h
theorem L_Wo_standing (l : Launch) (G : GE) (A : Nat → Prop) (hD : ∀ σ, va_D A (GW G σ)) {s : SS} {Q : Int → SS → Prop} (h : Sp_Wo_standing  s Q) : Met l y_Wo_standing (Cond.code y_Wo_standing prog_10_method_17_code 3 (some .int) :: lw_ok) ({ frames := 0, cells := 0, slots := 0, locals := 0 } : Room) (va_Pc [.ref (G.1 4)] (gB G s)) (va_Qi (fun (r : Int32) (s2 : SS) => ∃ x : Int, r = iI x ∧ Q x s2) (fun s2 t => gB G s2 t) A) 0 0 A := by
  refine met_i hD (by decide) ⟨rfl, rfl⟩ (Nat.le_of_ble_eq_true rfl) (lv := [(0, .ref (G.1 4))]) rfl (fun F h1 h2 h3 hm ok hQ => ?_)
  subst h1 h2 h3
  have hDF := hD
  exact K_Wo_standing_e hDF hm ok hQ (h _ (fun _ _ _ hb => K_Wo_standing_4 hDF hm ok hQ hb))
theorem d_Wo_drop_0 : decode prog_10_method_5_code 0 = .ok (.aload_n 0, 1) := by decide +kernel
theorem d_Wo_drop_1 : decode prog_10_method_5_code 1 = .ok (.getfield 36, 3) := by decide +kernel
theorem d_Wo_drop_4 : decode prog_10_method_5_code 4 = .ok (.iload_n 1, 1) := by decide +kernel
theorem d_Wo_drop_5 : decode prog_10_method_5_code 5 = .ok (.iload_n 2, 1) := by decide +kernel
theorem d_Wo_drop_6 : decode prog_10_method_5_code 6 = .ok (.iastore, 1) := by decide +kernel
theorem d_Wo_drop_7 : decode prog_10_method_5_code 7 = .ok (.return_, 1) := by decide +kernel
set_option maxHeartbeats 4000000 in
set_option maxRecDepth 100000 in
theorem K_Wo_drop_e {F : FT} (hD : ∀ σ, va_D F.2.2.1 (GW F.2.1 σ)) (hm : F.2.2.2.2.2.2.2.2.2.2.2.2.2.2.1 = 3) (ok : OkF F prog_10_method_5_code "LastSeen$Words" ({ frames := 0, cells := 0, slots := 0, locals := 0 } : Room)) {Q : SS → Prop} (hQ : RetV F Q) {x1 x2 : Int} {s : SS} (h : Sp_Wo_drop x1 x2 s Q) : AtS F 0 [(0, .ref (F.2.1.1 4)), (1, vI x1), (2, vI x2)] [] s := by
  unfold Sp_Wo_drop at h
  refine r_aload_n ok 0 d_Wo_drop_0 rfl rfl ?_
  refine g_Wo_droppedAt ok d_Wo_drop_1 ?_
  refine r_iload_n ok 1 d_Wo_drop_4 rfl rfl ?_
  refine r_iload_n ok 2 d_Wo_drop_5 rfl rfl ?_
  refine r_iast ok 26 d_Wo_drop_6 (by decide) rfl h.1 ?_
  replace h := h.2 _ rfl
  generalize sA s 26 x1 x2 = s1 at h ⊢
  exact hQ _ _ _ _ (ok_code ok) d_Wo_drop_7 h
theorem L_Wo_drop (l : Launch) (G : GE) (A : Nat → Prop) (hD : ∀ σ, va_D A (GW G σ)) {x1 x2 : Int} {s : SS} {Q : SS → Prop} (h : Sp_Wo_drop x1 x2 s Q) : Met l y_Wo_drop (Cond.code y_Wo_drop prog_10_method_5_code 3 (none) :: lw_ok) ({ frames := 0, cells := 0, slots := 0, locals := 0 } : Room) (va_Pc [.ref (G.1 4), vI x1, vI x2] (gB G s)) (va_Qv (fun (s2 : SS) => Q s2) (fun s2 t => gB G s2 t) A) 0 0 A := by
  refine met_v hD (by decide) ⟨rfl, rfl⟩ (Nat.le_of_ble_eq_true rfl) (lv := [(0, .ref (G.1 4)), (1, vI x1), (2, vI x2)]) rfl (fun F h1 h2 h3 hm ok hQ => ?_)
  subst h1 h2 h3
  have hDF := hD
  exact K_Wo_drop_e hDF hm ok hQ h
theorem d_LS_withdraw_0 : decode prog_1_method_13_code 0 = .ok (.aload_n 0, 1) := by decide +kernel
theorem d_LS_withdraw_1 : decode prog_1_method_13_code 1 = .ok (.iload_n 1, 1) := by decide +kernel
theorem d_LS_withdraw_2 : decode prog_1_method_13_code 2 = .ok (.aload_n 0, 1) := by decide +kernel
theorem d_LS_withdraw_3 : decode prog_1_method_13_code 3 = .ok (.getfield 122, 3) := by decide +kernel
theorem d_LS_withdraw_6 : decode prog_1_method_13_code 6 = .ok (.invokevirtual 195, 3) := by decide +kernel
theorem d_LS_withdraw_9 : decode prog_1_method_13_code 9 = .ok (.ifCond .ne 5, 3) := by decide +kernel
theorem d_LS_withdraw_12 : decode prog_1_method_13_code 12 = .ok (.iconst (-1), 1) := by decide +kernel
theorem d_LS_withdraw_13 : decode prog_1_method_13_code 13 = .ok (.ireturn, 1) := by decide +kernel
theorem d_LS_withdraw_14 : decode prog_1_method_13_code 14 = .ok (.aload_n 0, 1) := by decide +kernel
theorem d_LS_withdraw_15 : decode prog_1_method_13_code 15 = .ok (.getfield 33, 3) := by decide +kernel
theorem d_LS_withdraw_18 : decode prog_1_method_13_code 18 = .ok (.iload_n 1, 1) := by decide +kernel
theorem d_LS_withdraw_19 : decode prog_1_method_13_code 19 = .ok (.invokevirtual 198, 3) := by decide +kernel
theorem d_LS_withdraw_22 : decode prog_1_method_13_code 22 = .ok (.ifCond .eq 6, 3) := by decide +kernel
theorem d_LS_withdraw_25 : decode prog_1_method_13_code 25 = .ok (.bipush (-3), 2) := by decide +kernel
theorem d_LS_withdraw_27 : decode prog_1_method_13_code 27 = .ok (.ireturn, 1) := by decide +kernel
theorem d_LS_withdraw_28 : decode prog_1_method_13_code 28 = .ok (.aload_n 0, 1) := by decide +kernel
theorem d_LS_withdraw_29 : decode prog_1_method_13_code 29 = .ok (.invokevirtual 119, 3) := by decide +kernel
theorem d_LS_withdraw_32 : decode prog_1_method_13_code 32 = .ok (.ifCond .eq 6, 3) := by decide +kernel
theorem d_LS_withdraw_35 : decode prog_1_method_13_code 35 = .ok (.bipush (-4), 2) := by decide +kernel
theorem d_LS_withdraw_37 : decode prog_1_method_13_code 37 = .ok (.ireturn, 1) := by decide +kernel
theorem d_LS_withdraw_38 : decode prog_1_method_13_code 38 = .ok (.aload_n 0, 1) := by decide +kernel
theorem d_LS_withdraw_39 : decode prog_1_method_13_code 39 = .ok (.getfield 33, 3) := by decide +kernel
theorem d_LS_withdraw_42 : decode prog_1_method_13_code 42 = .ok (.aload_n 0, 1) := by decide +kernel
theorem d_LS_withdraw_43 : decode prog_1_method_13_code 43 = .ok (.getfield 122, 3) := by decide +kernel
theorem d_LS_withdraw_46 : decode prog_1_method_13_code 46 = .ok (.aload_n 0, 1) := by decide +kernel
theorem d_LS_withdraw_47 : decode prog_1_method_13_code 47 = .ok (.getfield 122, 3) := by decide +kernel
theorem d_LS_withdraw_50 : decode prog_1_method_13_code 50 = .ok (.invokevirtual 201, 3) := by decide +kernel
theorem d_LS_withdraw_53 : decode prog_1_method_13_code 53 = .ok (.aload_n 0, 1) := by decide +kernel
theorem d_LS_withdraw_54 : decode prog_1_method_13_code 54 = .ok (.getfield 33, 3) := by decide +kernel
theorem d_LS_withdraw_57 : decode prog_1_method_13_code 57 = .ok (.invokevirtual 204, 3) := by decide +kernel
theorem d_LS_withdraw_60 : decode prog_1_method_13_code 60 = .ok (.istore_n 2, 1) := by decide +kernel
theorem d_LS_withdraw_61 : decode prog_1_method_13_code 61 = .ok (.aload_n 0, 1) := by decide +kernel
theorem d_LS_withdraw_62 : decode prog_1_method_13_code 62 = .ok (.getfield 33, 3) := by decide +kernel
theorem d_LS_withdraw_65 : decode prog_1_method_13_code 65 = .ok (.iload_n 1, 1) := by decide +kernel
theorem d_LS_withdraw_66 : decode prog_1_method_13_code 66 = .ok (.aload_n 0, 1) := by decide +kernel
theorem d_LS_withdraw_67 : decode prog_1_method_13_code 67 = .ok (.getfield 122, 3) := by decide +kernel
theorem d_LS_withdraw_70 : decode prog_1_method_13_code 70 = .ok (.invokevirtual 207, 3) := by decide +kernel
theorem d_LS_withdraw_73 : decode prog_1_method_13_code 73 = .ok (.aload_n 0, 1) := by decide +kernel
theorem d_LS_withdraw_74 : decode prog_1_method_13_code 74 = .ok (.dup, 1) := by decide +kernel
theorem d_LS_withdraw_75 : decode prog_1_method_13_code 75 = .ok (.getfield 122, 3) := by decide +kernel
theorem d_LS_withdraw_78 : decode prog_1_method_13_code 78 = .ok (.iconst 1, 1) := by decide +kernel
theorem d_LS_withdraw_79 : decode prog_1_method_13_code 79 = .ok (.iadd, 1) := by decide +kernel
theorem d_LS_withdraw_80 : decode prog_1_method_13_code 80 = .ok (.putfield 122, 3) := by decide +kernel
theorem d_LS_withdraw_83 : decode prog_1_method_13_code 83 = .ok (.aload_n 0, 1) := by decide +kernel
theorem d_LS_withdraw_84 : decode prog_1_method_13_code 84 = .ok (.getfield 33, 3) := by decide +kernel
theorem d_LS_withdraw_87 : decode prog_1_method_13_code 87 = .ok (.aload_n 0, 1) := by decide +kernel
theorem d_LS_withdraw_88 : decode prog_1_method_13_code 88 = .ok (.getfield 122, 3) := by decide +kernel
theorem d_LS_withdraw_91 : decode prog_1_method_13_code 91 = .ok (.aload_n 0, 1) := by decide +kernel
theorem d_LS_withdraw_92 : decode prog_1_method_13_code 92 = .ok (.getfield 122, 3) := by decide +kernel
theorem d_LS_withdraw_95 : decode prog_1_method_13_code 95 = .ok (.invokevirtual 201, 3) := by decide +kernel
theorem d_LS_withdraw_98 : decode prog_1_method_13_code 98 = .ok (.iload_n 2, 1) := by decide +kernel
theorem d_LS_withdraw_99 : decode prog_1_method_13_code 99 = .ok (.aload_n 0, 1) := by decide +kernel
theorem d_LS_withdraw_100 : decode prog_1_method_13_code 100 = .ok (.getfield 33, 3) := by decide +kernel
theorem d_LS_withdraw_103 : decode prog_1_method_13_code 103 = .ok (.invokevirtual 204, 3) := by decide +kernel
theorem d_LS_withdraw_106 : decode prog_1_method_13_code 106 = .ok (.isub, 1) := by decide +kernel
theorem d_LS_withdraw_107 : decode prog_1_method_13_code 107 = .ok (.ireturn, 1) := by decide +kernel
set_option maxHeartbeats 4000000 in
set_option maxRecDepth 100000 in
theorem K_LS_withdraw_e {F : FT} (hD : ∀ σ, va_D F.2.2.1 (GW F.2.1 σ)) (hm : F.2.2.2.2.2.2.2.2.2.2.2.2.2.2.1 = 3) (ok : OkF F prog_1_method_13_code "LastSeen" ({ frames := 2, cells := 0, slots := 0, locals := 43 } : Room)) {Q : Int → SS → Prop} (hQ : RetI F Q) {x1 : Int} {s : SS} (h : Sp_LS_withdraw x1 s Q) : AtS F 0 [(0, .ref (F.2.1.1 0)), (1, vI x1)] [] s := by
  unfold Sp_LS_withdraw at h
  refine r_aload_n ok 0 d_LS_withdraw_0 rfl rfl ?_
  refine r_iload_n ok 1 d_LS_withdraw_1 rfl rfl ?_
  refine r_aload_n ok 0 d_LS_withdraw_2 rfl rfl ?_
  refine g_LS_entries ok d_LS_withdraw_3 ?_
  refine r_callVi (As := [vI x1, vI (s.1 1)]) (rest := []) ok 0 rfl rfl rfl wl_LS_195 wi_y_LS_isWordBy ws_y_LS_isWordBy wn_LS wc_y_LS_isWordBy (by decide) (by decide) hh_LS_isWordBy (Nat.le_of_ble_eq_true rfl) rfl d_LS_withdraw_6 (L_LS_isWordBy F.1 F.2.1 F.2.2.1 hD h) (fun r2 s1 h => ?_)
  refine r_if_ne ok 14 d_LS_withdraw_9 (by decide) h.1 (fun c => ?_) (fun c => ?_)
  · replace h := h.2.1 c
    refine r_aload_n ok 0 d_LS_withdraw_14 rfl rfl ?_
    refine g_LS_words ok d_LS_withdraw_15 ?_
    refine r_iload_n ok 1 d_LS_withdraw_18 rfl rfl ?_
    refine r_callVi (As := [vI x1]) (rest := []) ok 4 rfl rfl rfl wl_LS_198 wi_y_Wo_isWithdrawn ws_y_Wo_isWithdrawn wn_Wo wc_y_Wo_isWithdrawn (by decide) (by decide) hh_Wo_isWithdrawn (Nat.le_of_ble_eq_true rfl) rfl d_LS_withdraw_19 (L_Wo_isWithdrawn F.1 F.2.1 F.2.2.1 hD h) (fun r4 s3 h => ?_)
    refine r_if_eq ok 28 d_LS_withdraw_22 (by decide) h.1 (fun c => ?_) (fun c => ?_)
    · replace h := h.2.1 c
      refine r_aload_n ok 0 d_LS_withdraw_28 rfl rfl ?_
      refine r_callVi (As := []) (rest := []) ok 0 rfl rfl rfl wl_LS_119 wi_y_LS_bookIsFull ws_y_LS_bookIsFull wn_LS wc_y_LS_bookIsFull (by decide) (by decide) hh_LS_bookIsFull (Nat.le_of_ble_eq_true rfl) rfl d_LS_withdraw_29 (L_LS_bookIsFull F.1 F.2.1 F.2.2.1 hD h) (fun r6 s5 h => ?_)
      refine r_if_eq ok 38 d_LS_withdraw_32 (by decide) h.1 (fun c => ?_) (fun c => ?_)
      · replace h := h.2.1 c
        refine r_aload_n ok 0 d_LS_withdraw_38 rfl rfl ?_
        refine g_LS_words ok d_LS_withdraw_39 ?_
        refine r_aload_n ok 0 d_LS_withdraw_42 rfl rfl ?_
        refine g_LS_entries ok d_LS_withdraw_43 ?_
        refine r_aload_n ok 0 d_LS_withdraw_46 rfl rfl ?_
        refine g_LS_entries ok d_LS_withdraw_47 ?_
        refine r_callVv (As := [vI (s5.1 1), vI (s5.1 1)]) (rest := []) ok 4 rfl rfl rfl wl_LS_201 wi_y_Wo_readBy ws_y_Wo_readBy wn_Wo wc_y_Wo_readBy (by decide) (by decide) hh_Wo_readBy (Nat.le_of_ble_eq_true rfl) rfl d_LS_withdraw_50 (L_Wo_readBy F.1 F.2.1 F.2.2.1 hD h) (fun s7 h => ?_)
        refine r_aload_n ok 0 d_LS_withdraw_53 rfl rfl ?_
        refine g_LS_words ok d_LS_withdraw_54 ?_
        refine r_callVi (As := []) (rest := []) ok 4 rfl rfl rfl wl_LS_204 wi_y_Wo_standing ws_y_Wo_standing wn_Wo wc_y_Wo_standing (by decide) (by decide) hh_Wo_standing (Nat.le_of_ble_eq_true rfl) rfl d_LS_withdraw_57 (L_Wo_standing F.1 F.2.1 F.2.2.1 hD h) (fun r9 s8 h => ?_)
        refine r_istore_n ok [(2, vI r9), (0, .ref (F.2.1.1 0)), (1, vI x1)] d_LS_withdraw_60 rfl hm (by decide) rfl ?_
        refine r_aload_n ok 1 d_LS_withdraw_61 rfl rfl ?_
        refine g_LS_words ok d_LS_withdraw_62 ?_
        refine r_iload_n ok 2 d_LS_withdraw_65 rfl rfl ?_
        refine r_aload_n ok 1 d_LS_withdraw_66 rfl rfl ?_
        refine g_LS_entries ok d_LS_withdraw_67 ?_
        refine r_callVv (As := [vI x1, vI (s8.1 1)]) (rest := []) ok 4 rfl rfl rfl wl_LS_207 wi_y_Wo_drop ws_y_Wo_drop wn_Wo wc_y_Wo_drop (by decide) (by decide) hh_Wo_drop (Nat.le_of_ble_eq_true rfl) rfl d_LS_withdraw_70 (L_Wo_drop F.1 F.2.1 F.2.2.1 hD h) (fun s10 h => ?_)
        refine r_aload_n ok 1 d_LS_withdraw_73 rfl rfl ?_
        refine r_dup ok d_LS_withdraw_74 rfl ?_
        refine g_LS_entries ok d_LS_withdraw_75 ?_
        refine r_iconst ok 1 d_LS_withdraw_78 rfl ?_
        refine r_iadd ok d_LS_withdraw_79 ?_
        refine p_LS_entries ok d_LS_withdraw_80 ?_
        replace h := h _ rfl
        generalize sF s10 1 ((s10.1 1) + 1) = s11 at h ⊢
        refine r_aload_n ok 1 d_LS_withdraw_83 rfl rfl ?_
        refine g_LS_words ok d_LS_withdraw_84 ?_
        refine r_aload_n ok 1 d_LS_withdraw_87 rfl rfl ?_
        refine g_LS_entries ok d_LS_withdraw_88 ?_
        refine r_aload_n ok 1 d_LS_withdraw_91 rfl rfl ?_
        refine g_LS_entries ok d_LS_withdraw_92 ?_
        refine r_callVv (As := [vI (s11.1 1), vI (s11.1 1)]) (rest := []) ok 4 rfl rfl rfl wl_LS_201 wi_y_Wo_readBy ws_y_Wo_readBy wn_Wo wc_y_Wo_readBy (by decide) (by decide) hh_Wo_readBy (Nat.le_of_ble_eq_true rfl) rfl d_LS_withdraw_95 (L_Wo_readBy F.1 F.2.1 F.2.2.1 hD h) (fun s12 h => ?_)
        refine r_iload_n ok 0 d_LS_withdraw_98 rfl rfl ?_
        refine r_aload_n ok 1 d_LS_withdraw_99 rfl rfl ?_
        refine g_LS_words ok d_LS_withdraw_100 ?_
        refine r_callVi (As := []) (rest := [vI r9]) ok 4 rfl rfl rfl wl_LS_204 wi_y_Wo_standing ws_y_Wo_standing wn_Wo wc_y_Wo_standing (by decide) (by decide) hh_Wo_standing (Nat.le_of_ble_eq_true rfl) rfl d_LS_withdraw_103 (L_Wo_standing F.1 F.2.1 F.2.2.1 hD h) (fun r14 s13 h => ?_)
        refine r_isub ok d_LS_withdraw_106 ?_
        exact hQ _ _ _ _ _ (ok_code ok) d_LS_withdraw_107 h
      · replace h := h.2.2 c
        refine r_bipush ok (-4) d_LS_withdraw_35 (by decide) ?_
        exact hQ _ _ _ _ _ (ok_code ok) d_LS_withdraw_37 h
    · replace h := h.2.2 c
      refine r_bipush ok (-3) d_LS_withdraw_25 (by decide) ?_
      exact hQ _ _ _ _ _ (ok_code ok) d_LS_withdraw_27 h
  · replace h := h.2.2 c
    refine r_iconst ok (-1) d_LS_withdraw_12 rfl ?_
    exact hQ _ _ _ _ _ (ok_code ok) d_LS_withdraw_13 h
theorem L_LS_withdraw (l : Launch) (G : GE) (A : Nat → Prop) (hD : ∀ σ, va_D A (GW G σ)) {x1 : Int} {s : SS} {Q : Int → SS → Prop} (h : Sp_LS_withdraw x1 s Q) : Met l y_LS_withdraw (Cond.code y_LS_withdraw prog_1_method_13_code 3 (some .int) :: lw_ok) ({ frames := 2, cells := 0, slots := 0, locals := 43 } : Room) (va_Pc [.ref (G.1 0), vI x1] (gB G s)) (va_Qi (fun (r : Int32) (s2 : SS) => ∃ x : Int, r = iI x ∧ Q x s2) (fun s2 t => gB G s2 t) A) 0 0 A := by
  refine met_i hD (by decide) ⟨rfl, rfl⟩ (Nat.le_of_ble_eq_true rfl) (lv := [(0, .ref (G.1 0)), (1, vI x1)]) rfl (fun F h1 h2 h3 hm ok hQ => ?_)
  subst h1 h2 h3
  have hDF := hD
  exact K_LS_withdraw_e hDF hm ok hQ h
theorem d_Wo_stands_0 : decode prog_10_method_16_code 0 = .ok (.aload_n 0, 1) := by decide +kernel
theorem d_Wo_stands_1 : decode prog_10_method_16_code 1 = .ok (.getfield 39, 3) := by decide +kernel
theorem d_Wo_stands_4 : decode prog_10_method_16_code 4 = .ok (.iload_n 1, 1) := by decide +kernel
theorem d_Wo_stands_5 : decode prog_10_method_16_code 5 = .ok (.baload, 1) := by decide +kernel
theorem d_Wo_stands_6 : decode prog_10_method_16_code 6 = .ok (.ireturn, 1) := by decide +kernel
set_option maxHeartbeats 4000000 in
set_option maxRecDepth 100000 in
theorem K_Wo_stands_e {F : FT} (hD : ∀ σ, va_D F.2.2.1 (GW F.2.1 σ)) (hm : F.2.2.2.2.2.2.2.2.2.2.2.2.2.2.1 = 2) (ok : OkF F prog_10_method_16_code "LastSeen$Words" ({ frames := 0, cells := 0, slots := 0, locals := 0 } : Room)) {Q : Int → SS → Prop} (hQ : RetZ F Q) {x1 : Int} {s : SS} (h : Sp_Wo_stands x1 s Q) : AtS F 0 [(0, .ref (F.2.1.1 4)), (1, vI x1)] [] s := by
  unfold Sp_Wo_stands at h
  refine r_aload_n ok 0 d_Wo_stands_0 rfl rfl ?_
  refine g_Wo_standing ok d_Wo_stands_1 ?_
  refine r_iload_n ok 1 d_Wo_stands_4 rfl rfl ?_
  refine r_zald ok 27 d_Wo_stands_5 (by decide) rfl h.1 ?_
  replace h := h.2
  exact hQ _ _ _ _ _ (ok_code ok) d_Wo_stands_6 h.1 h.2
theorem L_Wo_stands (l : Launch) (G : GE) (A : Nat → Prop) (hD : ∀ σ, va_D A (GW G σ)) {x1 : Int} {s : SS} {Q : Int → SS → Prop} (h : Sp_Wo_stands x1 s Q) : Met l y_Wo_stands (Cond.code y_Wo_stands prog_10_method_16_code 2 (some .boolean) :: lw_ok) ({ frames := 0, cells := 0, slots := 0, locals := 0 } : Room) (va_Pc [.ref (G.1 4), vI x1] (gB G s)) (va_Qi (fun (r : Int32) (s2 : SS) => ∃ x : Int, r = iI x ∧ Q x s2) (fun s2 t => gB G s2 t) A) 0 0 A := by
  refine met_z hD (by decide) ⟨rfl, rfl⟩ (Nat.le_of_ble_eq_true rfl) (lv := [(0, .ref (G.1 4)), (1, vI x1)]) rfl (fun F h1 h2 h3 hm ok hQ => ?_)
  subst h1 h2 h3
  have hDF := hD
  exact K_Wo_stands_e hDF hm ok hQ h
theorem d_Wo_rootOf_0 : decode prog_10_method_9_code 0 = .ok (.aload_n 0, 1) := by decide +kernel
theorem d_Wo_rootOf_1 : decode prog_10_method_9_code 1 = .ok (.getfield 30, 3) := by decide +kernel
theorem d_Wo_rootOf_4 : decode prog_10_method_9_code 4 = .ok (.iload_n 1, 1) := by decide +kernel
theorem d_Wo_rootOf_5 : decode prog_10_method_9_code 5 = .ok (.iaload, 1) := by decide +kernel
theorem d_Wo_rootOf_6 : decode prog_10_method_9_code 6 = .ok (.ireturn, 1) := by decide +kernel
set_option maxHeartbeats 4000000 in
set_option maxRecDepth 100000 in
theorem K_Wo_rootOf_e {F : FT} (hD : ∀ σ, va_D F.2.2.1 (GW F.2.1 σ)) (hm : F.2.2.2.2.2.2.2.2.2.2.2.2.2.2.1 = 2) (ok : OkF F prog_10_method_9_code "LastSeen$Words" ({ frames := 0, cells := 0, slots := 0, locals := 0 } : Room)) {Q : Int → SS → Prop} (hQ : RetI F Q) {x1 : Int} {s : SS} (h : Sp_Wo_rootOf x1 s Q) : AtS F 0 [(0, .ref (F.2.1.1 4)), (1, vI x1)] [] s := by
  unfold Sp_Wo_rootOf at h
  refine r_aload_n ok 0 d_Wo_rootOf_0 rfl rfl ?_
  refine g_Wo_roots ok d_Wo_rootOf_1 ?_
  refine r_iload_n ok 1 d_Wo_rootOf_4 rfl rfl ?_
  refine r_iald ok 24 d_Wo_rootOf_5 (by decide) rfl h.1 ?_
  replace h := h.2
  exact hQ _ _ _ _ _ (ok_code ok) d_Wo_rootOf_6 h
theorem L_Wo_rootOf (l : Launch) (G : GE) (A : Nat → Prop) (hD : ∀ σ, va_D A (GW G σ)) {x1 : Int} {s : SS} {Q : Int → SS → Prop} (h : Sp_Wo_rootOf x1 s Q) : Met l y_Wo_rootOf (Cond.code y_Wo_rootOf prog_10_method_9_code 2 (some .int) :: lw_ok) ({ frames := 0, cells := 0, slots := 0, locals := 0 } : Room) (va_Pc [.ref (G.1 4), vI x1] (gB G s)) (va_Qi (fun (r : Int32) (s2 : SS) => ∃ x : Int, r = iI x ∧ Q x s2) (fun s2 t => gB G s2 t) A) 0 0 A := by
  refine met_i hD (by decide) ⟨rfl, rfl⟩ (Nat.le_of_ble_eq_true rfl) (lv := [(0, .ref (G.1 4)), (1, vI x1)]) rfl (fun F h1 h2 h3 hm ok hQ => ?_)
  subst h1 h2 h3
  have hDF := hD
  exact K_Wo_rootOf_e hDF hm ok hQ h
theorem d_Wo_nameOf_0 : decode prog_10_method_8_code 0 = .ok (.aload_n 0, 1) := by decide +kernel
theorem d_Wo_nameOf_1 : decode prog_10_method_8_code 1 = .ok (.getfield 15, 3) := by decide +kernel
theorem d_Wo_nameOf_4 : decode prog_10_method_8_code 4 = .ok (.iload_n 1, 1) := by decide +kernel
theorem d_Wo_nameOf_5 : decode prog_10_method_8_code 5 = .ok (.iaload, 1) := by decide +kernel
theorem d_Wo_nameOf_6 : decode prog_10_method_8_code 6 = .ok (.ireturn, 1) := by decide +kernel
set_option maxHeartbeats 4000000 in
set_option maxRecDepth 100000 in
theorem K_Wo_nameOf_e {F : FT} (hD : ∀ σ, va_D F.2.2.1 (GW F.2.1 σ)) (hm : F.2.2.2.2.2.2.2.2.2.2.2.2.2.2.1 = 2) (ok : OkF F prog_10_method_8_code "LastSeen$Words" ({ frames := 0, cells := 0, slots := 0, locals := 0 } : Room)) {Q : Int → SS → Prop} (hQ : RetI F Q) {x1 : Int} {s : SS} (h : Sp_Wo_nameOf x1 s Q) : AtS F 0 [(0, .ref (F.2.1.1 4)), (1, vI x1)] [] s := by
  unfold Sp_Wo_nameOf at h
  refine r_aload_n ok 0 d_Wo_nameOf_0 rfl rfl ?_
  refine g_Wo_names ok d_Wo_nameOf_1 ?_
  refine r_iload_n ok 1 d_Wo_nameOf_4 rfl rfl ?_
  refine r_iald ok 19 d_Wo_nameOf_5 (by decide) rfl h.1 ?_
  replace h := h.2
  exact hQ _ _ _ _ _ (ok_code ok) d_Wo_nameOf_6 h
theorem L_Wo_nameOf (l : Launch) (G : GE) (A : Nat → Prop) (hD : ∀ σ, va_D A (GW G σ)) {x1 : Int} {s : SS} {Q : Int → SS → Prop} (h : Sp_Wo_nameOf x1 s Q) : Met l y_Wo_nameOf (Cond.code y_Wo_nameOf prog_10_method_8_code 2 (some .int) :: lw_ok) ({ frames := 0, cells := 0, slots := 0, locals := 0 } : Room) (va_Pc [.ref (G.1 4), vI x1] (gB G s)) (va_Qi (fun (r : Int32) (s2 : SS) => ∃ x : Int, r = iI x ∧ Q x s2) (fun s2 t => gB G s2 t) A) 0 0 A := by
  refine met_i hD (by decide) ⟨rfl, rfl⟩ (Nat.le_of_ble_eq_true rfl) (lv := [(0, .ref (G.1 4)), (1, vI x1)]) rfl (fun F h1 h2 h3 hm ok hQ => ?_)
  subst h1 h2 h3
  have hDF := hD
  exact K_Wo_nameOf_e hDF hm ok hQ h
theorem d_LS_about_0 : decode prog_1_method_14_code 0 = .ok (.aload_n 0, 1) := by decide +kernel
theorem d_LS_about_1 : decode prog_1_method_14_code 1 = .ok (.iload_n 2, 1) := by decide +kernel
theorem d_LS_about_2 : decode prog_1_method_14_code 2 = .ok (.invokevirtual 146, 3) := by decide +kernel
theorem d_LS_about_5 : decode prog_1_method_14_code 5 = .ok (.istore 4, 2) := by decide +kernel
theorem d_LS_about_7 : decode prog_1_method_14_code 7 = .ok (.aload_n 0, 1) := by decide +kernel
theorem d_LS_about_8 : decode prog_1_method_14_code 8 = .ok (.iload_n 1, 1) := by decide +kernel
theorem d_LS_about_9 : decode prog_1_method_14_code 9 = .ok (.iload 4, 2) := by decide +kernel
theorem d_LS_about_11 : decode prog_1_method_14_code 11 = .ok (.invokevirtual 195, 3) := by decide +kernel
theorem d_LS_about_14 : decode prog_1_method_14_code 14 = .ok (.ifCond .ne 5, 3) := by decide +kernel
theorem d_LS_about_17 : decode prog_1_method_14_code 17 = .ok (.iconst (-1), 1) := by decide +kernel
theorem d_LS_about_18 : decode prog_1_method_14_code 18 = .ok (.ireturn, 1) := by decide +kernel
theorem d_LS_about_19 : decode prog_1_method_14_code 19 = .ok (.iload_n 3, 1) := by decide +kernel
theorem d_LS_about_20 : decode prog_1_method_14_code 20 = .ok (.tableswitch 85 0 2 #[28, 51, 60], 28) := by decide +kernel
theorem d_LS_about_48 : decode prog_1_method_14_code 48 = .ok (.aload_n 0, 1) := by decide +kernel
theorem d_LS_about_49 : decode prog_1_method_14_code 49 = .ok (.getfield 33, 3) := by decide +kernel
theorem d_LS_about_52 : decode prog_1_method_14_code 52 = .ok (.iload 4, 2) := by decide +kernel
theorem d_LS_about_54 : decode prog_1_method_14_code 54 = .ok (.iload 4, 2) := by decide +kernel
theorem d_LS_about_56 : decode prog_1_method_14_code 56 = .ok (.invokevirtual 201, 3) := by decide +kernel
theorem d_LS_about_59 : decode prog_1_method_14_code 59 = .ok (.aload_n 0, 1) := by decide +kernel
theorem d_LS_about_60 : decode prog_1_method_14_code 60 = .ok (.getfield 33, 3) := by decide +kernel
theorem d_LS_about_63 : decode prog_1_method_14_code 63 = .ok (.iload_n 1, 1) := by decide +kernel
theorem d_LS_about_64 : decode prog_1_method_14_code 64 = .ok (.invokevirtual 210, 3) := by decide +kernel
theorem d_LS_about_67 : decode prog_1_method_14_code 67 = .ok (.invokestatic 160, 3) := by decide +kernel
theorem d_LS_about_70 : decode prog_1_method_14_code 70 = .ok (.ireturn, 1) := by decide +kernel
theorem d_LS_about_71 : decode prog_1_method_14_code 71 = .ok (.aload_n 0, 1) := by decide +kernel
theorem d_LS_about_72 : decode prog_1_method_14_code 72 = .ok (.getfield 33, 3) := by decide +kernel
theorem d_LS_about_75 : decode prog_1_method_14_code 75 = .ok (.iload_n 1, 1) := by decide +kernel
theorem d_LS_about_76 : decode prog_1_method_14_code 76 = .ok (.invokevirtual 213, 3) := by decide +kernel
theorem d_LS_about_79 : decode prog_1_method_14_code 79 = .ok (.ireturn, 1) := by decide +kernel
theorem d_LS_about_80 : decode prog_1_method_14_code 80 = .ok (.aload_n 0, 1) := by decide +kernel
theorem d_LS_about_81 : decode prog_1_method_14_code 81 = .ok (.getfield 26, 3) := by decide +kernel
theorem d_LS_about_84 : decode prog_1_method_14_code 84 = .ok (.iload 4, 2) := by decide +kernel
theorem d_LS_about_86 : decode prog_1_method_14_code 86 = .ok (.invokevirtual 153, 3) := by decide +kernel
theorem d_LS_about_89 : decode prog_1_method_14_code 89 = .ok (.aload_n 0, 1) := by decide +kernel
theorem d_LS_about_90 : decode prog_1_method_14_code 90 = .ok (.getfield 26, 3) := by decide +kernel
theorem d_LS_about_93 : decode prog_1_method_14_code 93 = .ok (.aload_n 0, 1) := by decide +kernel
theorem d_LS_about_94 : decode prog_1_method_14_code 94 = .ok (.getfield 33, 3) := by decide +kernel
theorem d_LS_about_97 : decode prog_1_method_14_code 97 = .ok (.iload_n 1, 1) := by decide +kernel
theorem d_LS_about_98 : decode prog_1_method_14_code 98 = .ok (.invokevirtual 216, 3) := by decide +kernel
theorem d_LS_about_101 : decode prog_1_method_14_code 101 = .ok (.invokevirtual 164, 3) := by decide +kernel
theorem d_LS_about_104 : decode prog_1_method_14_code 104 = .ok (.ireturn, 1) := by decide +kernel
theorem d_LS_about_105 : decode prog_1_method_14_code 105 = .ok (.iconst (-1), 1) := by decide +kernel
theorem d_LS_about_106 : decode prog_1_method_14_code 106 = .ok (.ireturn, 1) := by decide +kernel
set_option maxHeartbeats 4000000 in
set_option maxRecDepth 100000 in
theorem K_LS_about_e {F : FT} (hD : ∀ σ, va_D F.2.2.1 (GW F.2.1 σ)) (hm : F.2.2.2.2.2.2.2.2.2.2.2.2.2.2.1 = 5) (ok : OkF F prog_1_method_14_code "LastSeen" ({ frames := 3, cells := 0, slots := 0, locals := 67 } : Room)) {Q : Int → SS → Prop} (hQ : RetI F Q) {x1 x2 x3 : Int} {s : SS} (h : Sp_LS_about x1 x2 x3 s Q) : AtS F 0 [(0, .ref (F.2.1.1 0)), (1, vI x1), (2, vI x2), (3, vI x3)] [] s := by
  unfold Sp_LS_about at h
  refine r_aload_n ok 0 d_LS_about_0 rfl rfl ?_
  refine r_iload_n ok 2 d_LS_about_1 rfl rfl ?_
  refine r_callVi (As := [vI x2]) (rest := []) ok 0 rfl rfl rfl wl_LS_146 wi_y_LS_upTo ws_y_LS_upTo wn_LS wc_y_LS_upTo (by decide) (by decide) hh_LS_upTo (Nat.le_of_ble_eq_true rfl) rfl d_LS_about_2 (L_LS_upTo F.1 F.2.1 F.2.2.1 hD h) (fun r2 s1 h => ?_)
  refine r_istore ok [(4, vI r2), (0, .ref (F.2.1.1 0)), (1, vI x1), (2, vI x2), (3, vI x3)] d_LS_about_5 hm (by decide) rfl ?_
  refine r_aload_n ok 1 d_LS_about_7 rfl rfl ?_
  refine r_iload_n ok 2 d_LS_about_8 rfl rfl ?_
  refine r_iload ok 0 d_LS_about_9 rfl ?_
  refine r_callVi (As := [vI x1, vI r2]) (rest := []) ok 0 rfl rfl rfl wl_LS_195 wi_y_LS_isWordBy ws_y_LS_isWordBy wn_LS wc_y_LS_isWordBy (by decide) (by decide) hh_LS_isWordBy (Nat.le_of_ble_eq_true rfl) rfl d_LS_about_11 (L_LS_isWordBy F.1 F.2.1 F.2.2.1 hD h) (fun r4 s3 h => ?_)
  refine r_if_ne ok 19 d_LS_about_14 (by decide) h.1 (fun c => ?_) (fun c => ?_)
  · replace h := h.2.1 c
    refine r_iload_n ok 4 d_LS_about_19 rfl rfl ?_
    have hx := h.1
    replace h := h.2
    rcases Decidable.em (x3 = 0) with c0 | c0
    · replace h := h.1 c0
      refine r_tblIn ok 0 48 d_LS_about_20 hx c0 (by decide) rfl (by decide) ?_
      refine r_aload_n ok 1 d_LS_about_48 rfl rfl ?_
      refine g_LS_words ok d_LS_about_49 ?_
      refine r_iload ok 0 d_LS_about_52 rfl ?_
      refine r_iload ok 0 d_LS_about_54 rfl ?_
      refine r_callVv (As := [vI r2, vI r2]) (rest := []) ok 4 rfl rfl rfl wl_LS_201 wi_y_Wo_readBy ws_y_Wo_readBy wn_Wo wc_y_Wo_readBy (by decide) (by decide) hh_Wo_readBy (Nat.le_of_ble_eq_true rfl) rfl d_LS_about_56 (L_Wo_readBy F.1 F.2.1 F.2.2.1 hD h) (fun s5 h => ?_)
      refine r_aload_n ok 1 d_LS_about_59 rfl rfl ?_
      refine g_LS_words ok d_LS_about_60 ?_
      refine r_iload_n ok 2 d_LS_about_63 rfl rfl ?_
      refine r_callVi (As := [vI x1]) (rest := []) ok 4 rfl rfl rfl wl_LS_210 wi_y_Wo_stands ws_y_Wo_stands wn_Wo wc_y_Wo_stands (by decide) (by decide) hh_Wo_stands (Nat.le_of_ble_eq_true rfl) rfl d_LS_about_64 (L_Wo_stands F.1 F.2.1 F.2.2.1 hD h) (fun r7 s6 h => ?_)
      refine r_callSi (As := [vI r7]) (rest := []) ok wl_LS_160 wt_y_LS_bit wn_LS wc_y_LS_bit (by decide) (by decide) hh_LS_bit (Nat.le_of_ble_eq_true rfl) rfl d_LS_about_67 (L_LS_bit F.1 F.2.1 F.2.2.1 hD h) (fun r9 s8 h => ?_)
      exact hQ _ _ _ _ _ (ok_code ok) d_LS_about_70 h
    replace h := h.2
    rcases Decidable.em (x3 = 1) with c1 | c1
    · replace h := h.1 c1
      refine r_tblIn ok 1 71 d_LS_about_20 hx c1 (by decide) rfl (by decide) ?_
      refine r_aload_n ok 1 d_LS_about_71 rfl rfl ?_
      refine g_LS_words ok d_LS_about_72 ?_
      refine r_iload_n ok 2 d_LS_about_75 rfl rfl ?_
      refine r_callVi (As := [vI x1]) (rest := []) ok 4 rfl rfl rfl wl_LS_213 wi_y_Wo_rootOf ws_y_Wo_rootOf wn_Wo wc_y_Wo_rootOf (by decide) (by decide) hh_Wo_rootOf (Nat.le_of_ble_eq_true rfl) rfl d_LS_about_76 (L_Wo_rootOf F.1 F.2.1 F.2.2.1 hD h) (fun r11 s10 h => ?_)
      exact hQ _ _ _ _ _ (ok_code ok) d_LS_about_79 h
    replace h := h.2
    rcases Decidable.em (x3 = 2) with c2 | c2
    · replace h := h.1 c2
      refine r_tblIn ok 2 80 d_LS_about_20 hx c2 (by decide) rfl (by decide) ?_
      refine r_aload_n ok 1 d_LS_about_80 rfl rfl ?_
      refine g_LS_names ok d_LS_about_81 ?_
      refine r_iload ok 0 d_LS_about_84 rfl ?_
      refine r_callVv (As := [vI r2]) (rest := []) ok 3 rfl rfl rfl wl_LS_153 wi_y_Na_readBy ws_y_Na_readBy wn_Na wc_y_Na_readBy (by decide) (by decide) hh_Na_readBy (Nat.le_of_ble_eq_true rfl) rfl d_LS_about_86 (L_Na_readBy F.1 F.2.1 F.2.2.1 hD h) (fun s12 h => ?_)
      refine r_aload_n ok 1 d_LS_about_89 rfl rfl ?_
      refine g_LS_names ok d_LS_about_90 ?_
      refine r_aload_n ok 1 d_LS_about_93 rfl rfl ?_
      refine g_LS_words ok d_LS_about_94 ?_
      refine r_iload_n ok 2 d_LS_about_97 rfl rfl ?_
      refine r_callVi (As := [vI x1]) (rest := [.ref (F.2.1.1 3)]) ok 4 rfl rfl rfl wl_LS_216 wi_y_Wo_nameOf ws_y_Wo_nameOf wn_Wo wc_y_Wo_nameOf (by decide) (by decide) hh_Wo_nameOf (Nat.le_of_ble_eq_true rfl) rfl d_LS_about_98 (L_Wo_nameOf F.1 F.2.1 F.2.2.1 hD h) (fun r14 s13 h => ?_)
      refine r_callVi (As := [vI r14]) (rest := []) ok 3 rfl rfl rfl wl_LS_164 wi_y_Na_leastOf ws_y_Na_leastOf wn_Na wc_y_Na_leastOf (by decide) (by decide) hh_Na_leastOf (Nat.le_of_ble_eq_true rfl) rfl d_LS_about_101 (L_Na_leastOf F.1 F.2.1 F.2.2.1 hD h) (fun r16 s15 h => ?_)
      exact hQ _ _ _ _ _ (ok_code ok) d_LS_about_104 h
    replace h := h.2
    replace h := h c0 c1 c2
    refine r_tblOut ok 105 d_LS_about_20 hx (by omega) (by decide) ?_
    refine r_iconst ok (-1) d_LS_about_105 rfl ?_
    exact hQ _ _ _ _ _ (ok_code ok) d_LS_about_106 h
  · replace h := h.2.2 c
    refine r_iconst ok (-1) d_LS_about_17 rfl ?_
    exact hQ _ _ _ _ _ (ok_code ok) d_LS_about_18 h
theorem L_LS_about (l : Launch) (G : GE) (A : Nat → Prop) (hD : ∀ σ, va_D A (GW G σ)) {x1 x2 x3 : Int} {s : SS} {Q : Int → SS → Prop} (h : Sp_LS_about x1 x2 x3 s Q) : Met l y_LS_about (Cond.code y_LS_about prog_1_method_14_code 5 (some .int) :: lw_ok) ({ frames := 3, cells := 0, slots := 0, locals := 67 } : Room) (va_Pc [.ref (G.1 0), vI x1, vI x2, vI x3] (gB G s)) (va_Qi (fun (r : Int32) (s2 : SS) => ∃ x : Int, r = iI x ∧ Q x s2) (fun s2 t => gB G s2 t) A) 0 0 A := by
  refine met_i hD (by decide) ⟨rfl, rfl⟩ (Nat.le_of_ble_eq_true rfl) (lv := [(0, .ref (G.1 0)), (1, vI x1), (2, vI x2), (3, vI x3)]) rfl (fun F h1 h2 h3 hm ok hQ => ?_)
  subst h1 h2 h3
  have hDF := hD
  exact K_LS_about_e hDF hm ok hQ h
theorem d_Na_namesOf_0 : decode prog_6_method_23_code 0 = .ok (.iconst 0, 1) := by decide +kernel
theorem d_Na_namesOf_1 : decode prog_6_method_23_code 1 = .ok (.istore_n 2, 1) := by decide +kernel
theorem d_Na_namesOf_2 : decode prog_6_method_23_code 2 = .ok (.iconst 0, 1) := by decide +kernel
theorem d_Na_namesOf_3 : decode prog_6_method_23_code 3 = .ok (.istore_n 3, 1) := by decide +kernel
theorem d_Na_namesOf_4 : decode prog_6_method_23_code 4 = .ok (.iload_n 3, 1) := by decide +kernel
theorem d_Na_namesOf_5 : decode prog_6_method_23_code 5 = .ok (.aload_n 0, 1) := by decide +kernel
theorem d_Na_namesOf_6 : decode prog_6_method_23_code 6 = .ok (.getfield 89, 3) := by decide +kernel
theorem d_Na_namesOf_9 : decode prog_6_method_23_code 9 = .ok (.if_icmp .ge 22, 3) := by decide +kernel
theorem d_Na_namesOf_12 : decode prog_6_method_23_code 12 = .ok (.aload_n 0, 1) := by decide +kernel
theorem d_Na_namesOf_13 : decode prog_6_method_23_code 13 = .ok (.getfield 36, 3) := by decide +kernel
theorem d_Na_namesOf_16 : decode prog_6_method_23_code 16 = .ok (.iload_n 3, 1) := by decide +kernel
theorem d_Na_namesOf_17 : decode prog_6_method_23_code 17 = .ok (.iaload, 1) := by decide +kernel
theorem d_Na_namesOf_18 : decode prog_6_method_23_code 18 = .ok (.iload_n 1, 1) := by decide +kernel
theorem d_Na_namesOf_19 : decode prog_6_method_23_code 19 = .ok (.if_icmp .ne 6, 3) := by decide +kernel
theorem d_Na_namesOf_22 : decode prog_6_method_23_code 22 = .ok (.iinc 2 1, 3) := by decide +kernel
theorem d_Na_namesOf_25 : decode prog_6_method_23_code 25 = .ok (.iinc 3 1, 3) := by decide +kernel
theorem d_Na_namesOf_28 : decode prog_6_method_23_code 28 = .ok (.goto (-24), 3) := by decide +kernel
theorem d_Na_namesOf_31 : decode prog_6_method_23_code 31 = .ok (.iload_n 2, 1) := by decide +kernel
theorem d_Na_namesOf_32 : decode prog_6_method_23_code 32 = .ok (.ireturn, 1) := by decide +kernel
set_option maxHeartbeats 4000000 in
set_option maxRecDepth 100000 in
theorem K_Na_namesOf_4 {F : FT} (hD : ∀ σ, va_D F.2.2.1 (GW F.2.1 σ)) (hm : F.2.2.2.2.2.2.2.2.2.2.2.2.2.2.1 = 4) (ok : OkF F prog_6_method_23_code "LastSeen$Names" ({ frames := 0, cells := 0, slots := 0, locals := 0 } : Room)) {Q : Int → SS → Prop} (hQ : RetI F Q) {x1 x2 x3 : Int} {s : SS} (h : B_Na_namesOf_4 Q (fun x1 x2 x3 s => AtS F 4 [(0, .ref (F.2.1.1 3)), (1, vI x1), (2, vI x2), (3, vI x3)] [] s) x1 x2 x3 s) : AtS F 4 [(0, .ref (F.2.1.1 3)), (1, vI x1), (2, vI x2), (3, vI x3)] [] s := by
  unfold B_Na_namesOf_4 at h
  refine r_iload_n ok 3 d_Na_namesOf_4 rfl rfl ?_
  refine r_aload_n ok 0 d_Na_namesOf_5 rfl rfl ?_
  refine g_Na_sizeBy ok d_Na_namesOf_6 ?_
  refine r_icmp_ge ok 31 d_Na_namesOf_9 (by decide) h.1 h.2.1 (fun c => ?_) (fun c => ?_)
  · replace h := h.2.2.1 c
    refine r_iload_n ok 2 d_Na_namesOf_31 rfl rfl ?_
    exact hQ _ _ _ _ _ (ok_code ok) d_Na_namesOf_32 h
  · replace h := h.2.2.2 c
    refine r_aload_n ok 0 d_Na_namesOf_12 rfl rfl ?_
    refine g_Na_persons ok d_Na_namesOf_13 ?_
    refine r_iload_n ok 3 d_Na_namesOf_16 rfl rfl ?_
    refine r_iald ok 14 d_Na_namesOf_17 (by decide) rfl h.1 ?_
    replace h := h.2
    refine r_iload_n ok 1 d_Na_namesOf_18 rfl rfl ?_
    refine r_icmp_ne ok 25 d_Na_namesOf_19 (by decide) h.1 h.2.1 (fun c => ?_) (fun c => ?_)
    · replace h := h.2.2.1 c
      refine r_iinc ok 3 (x3 + 1) [(3, vI (x3 + 1)), (0, .ref (F.2.1.1 3)), (1, vI x1), (2, vI x2)] d_Na_namesOf_25 rfl rfl hm (by decide) rfl ?_
      refine r_goto ok 4 d_Na_namesOf_28 (by decide) ?_
      exact r_sub [1, 2, 3, 0] rfl h
    · replace h := h.2.2.2 c
      refine r_iinc ok 2 (x2 + 1) [(2, vI (x2 + 1)), (0, .ref (F.2.1.1 3)), (1, vI x1), (3, vI x3)] d_Na_namesOf_22 rfl rfl hm (by decide) rfl ?_
      refine r_iinc ok 3 (x3 + 1) [(3, vI (x3 + 1)), (2, vI (x2 + 1)), (0, .ref (F.2.1.1 3)), (1, vI x1)] d_Na_namesOf_25 rfl rfl hm (by decide) rfl ?_
      refine r_goto ok 4 d_Na_namesOf_28 (by decide) ?_
      exact r_sub [2, 3, 1, 0] rfl h
set_option maxHeartbeats 4000000 in
set_option maxRecDepth 100000 in
theorem K_Na_namesOf_e {F : FT} (hD : ∀ σ, va_D F.2.2.1 (GW F.2.1 σ)) (hm : F.2.2.2.2.2.2.2.2.2.2.2.2.2.2.1 = 4) (ok : OkF F prog_6_method_23_code "LastSeen$Names" ({ frames := 0, cells := 0, slots := 0, locals := 0 } : Room)) {Q : Int → SS → Prop} (hQ : RetI F Q) {x1 : Int} {s : SS} (h : B_Na_namesOf_e Q (fun x1 x2 x3 s => AtS F 4 [(0, .ref (F.2.1.1 3)), (1, vI x1), (2, vI x2), (3, vI x3)] [] s) x1 s) : AtS F 0 [(0, .ref (F.2.1.1 3)), (1, vI x1)] [] s := by
  unfold B_Na_namesOf_e at h
  refine r_iconst ok 0 d_Na_namesOf_0 rfl ?_
  refine r_istore_n ok [(2, vI 0), (0, .ref (F.2.1.1 3)), (1, vI x1)] d_Na_namesOf_1 rfl hm (by decide) rfl ?_
  refine r_iconst ok 0 d_Na_namesOf_2 rfl ?_
  refine r_istore_n ok [(3, vI 0), (2, vI 0), (0, .ref (F.2.1.1 3)), (1, vI x1)] d_Na_namesOf_3 rfl hm (by decide) rfl ?_
  exact r_sub [2, 3, 1, 0] rfl h
theorem L_Na_namesOf (l : Launch) (G : GE) (A : Nat → Prop) (hD : ∀ σ, va_D A (GW G σ)) {x1 : Int} {s : SS} {Q : Int → SS → Prop} (h : Sp_Na_namesOf x1 s Q) : Met l y_Na_namesOf (Cond.code y_Na_namesOf prog_6_method_23_code 4 (some .int) :: lw_ok) ({ frames := 0, cells := 0, slots := 0, locals := 0 } : Room) (va_Pc [.ref (G.1 3), vI x1] (gB G s)) (va_Qi (fun (r : Int32) (s2 : SS) => ∃ x : Int, r = iI x ∧ Q x s2) (fun s2 t => gB G s2 t) A) 0 0 A := by
  refine met_i hD (by decide) ⟨rfl, rfl⟩ (Nat.le_of_ble_eq_true rfl) (lv := [(0, .ref (G.1 3)), (1, vI x1)]) rfl (fun F h1 h2 h3 hm ok hQ => ?_)
  subst h1 h2 h3
  have hDF := hD
  exact K_Na_namesOf_e hDF hm ok hQ (h _ (fun _ _ _ _ hb => K_Na_namesOf_4 hDF hm ok hQ hb))
theorem d_Wo_isHeard_0 : decode prog_10_method_14_code 0 = .ok (.aload_n 0, 1) := by decide +kernel
theorem d_Wo_isHeard_1 : decode prog_10_method_14_code 1 = .ok (.getfield 27, 3) := by decide +kernel
theorem d_Wo_isHeard_4 : decode prog_10_method_14_code 4 = .ok (.iload_n 1, 1) := by decide +kernel
theorem d_Wo_isHeard_5 : decode prog_10_method_14_code 5 = .ok (.iaload, 1) := by decide +kernel
theorem d_Wo_isHeard_6 : decode prog_10_method_14_code 6 = .ok (.ifCond .lt 7, 3) := by decide +kernel
theorem d_Wo_isHeard_9 : decode prog_10_method_14_code 9 = .ok (.iconst 1, 1) := by decide +kernel
theorem d_Wo_isHeard_10 : decode prog_10_method_14_code 10 = .ok (.goto 4, 3) := by decide +kernel
theorem d_Wo_isHeard_13 : decode prog_10_method_14_code 13 = .ok (.iconst 0, 1) := by decide +kernel
theorem d_Wo_isHeard_14 : decode prog_10_method_14_code 14 = .ok (.ireturn, 1) := by decide +kernel
set_option maxHeartbeats 4000000 in
set_option maxRecDepth 100000 in
theorem K_Wo_isHeard_e {F : FT} (hD : ∀ σ, va_D F.2.2.1 (GW F.2.1 σ)) (hm : F.2.2.2.2.2.2.2.2.2.2.2.2.2.2.1 = 2) (ok : OkF F prog_10_method_14_code "LastSeen$Words" ({ frames := 0, cells := 0, slots := 0, locals := 0 } : Room)) {Q : Int → SS → Prop} (hQ : RetZ F Q) {x1 : Int} {s : SS} (h : Sp_Wo_isHeard x1 s Q) : AtS F 0 [(0, .ref (F.2.1.1 4)), (1, vI x1)] [] s := by
  unfold Sp_Wo_isHeard at h
  refine r_aload_n ok 0 d_Wo_isHeard_0 rfl rfl ?_
  refine g_Wo_heardOf ok d_Wo_isHeard_1 ?_
  refine r_iload_n ok 1 d_Wo_isHeard_4 rfl rfl ?_
  refine r_iald ok 23 d_Wo_isHeard_5 (by decide) rfl h.1 ?_
  replace h := h.2
  refine r_if_lt ok 13 d_Wo_isHeard_6 (by decide) h.1 (fun c => ?_) (fun c => ?_)
  · replace h := h.2.1 c
    refine r_iconst ok 0 d_Wo_isHeard_13 rfl ?_
    exact hQ _ _ _ _ _ (ok_code ok) d_Wo_isHeard_14 (by decide) h
  · replace h := h.2.2 c
    refine r_iconst ok 1 d_Wo_isHeard_9 rfl ?_
    refine r_goto ok 14 d_Wo_isHeard_10 (by decide) ?_
    exact hQ _ _ _ _ _ (ok_code ok) d_Wo_isHeard_14 (by decide) h
theorem L_Wo_isHeard (l : Launch) (G : GE) (A : Nat → Prop) (hD : ∀ σ, va_D A (GW G σ)) {x1 : Int} {s : SS} {Q : Int → SS → Prop} (h : Sp_Wo_isHeard x1 s Q) : Met l y_Wo_isHeard (Cond.code y_Wo_isHeard prog_10_method_14_code 2 (some .boolean) :: lw_ok) ({ frames := 0, cells := 0, slots := 0, locals := 0 } : Room) (va_Pc [.ref (G.1 4), vI x1] (gB G s)) (va_Qi (fun (r : Int32) (s2 : SS) => ∃ x : Int, r = iI x ∧ Q x s2) (fun s2 t => gB G s2 t) A) 0 0 A := by
  refine met_z hD (by decide) ⟨rfl, rfl⟩ (Nat.le_of_ble_eq_true rfl) (lv := [(0, .ref (G.1 4)), (1, vI x1)]) rfl (fun F h1 h2 h3 hm ok hQ => ?_)
  subst h1 h2 h3
  have hDF := hD
  exact K_Wo_isHeard_e hDF hm ok hQ h
theorem d_He_readWords_0 : decode prog_4_method_3_code 0 = .ok (.aload_n 0, 1) := by decide +kernel
theorem d_He_readWords_1 : decode prog_4_method_3_code 1 = .ok (.iconst 0, 1) := by decide +kernel
theorem d_He_readWords_2 : decode prog_4_method_3_code 2 = .ok (.putfield 68, 3) := by decide +kernel
theorem d_He_readWords_5 : decode prog_4_method_3_code 5 = .ok (.iconst 0, 1) := by decide +kernel
theorem d_He_readWords_6 : decode prog_4_method_3_code 6 = .ok (.istore_n 1, 1) := by decide +kernel
theorem d_He_readWords_7 : decode prog_4_method_3_code 7 = .ok (.iload_n 1, 1) := by decide +kernel
theorem d_He_readWords_8 : decode prog_4_method_3_code 8 = .ok (.aload_n 0, 1) := by decide +kernel
theorem d_He_readWords_9 : decode prog_4_method_3_code 9 = .ok (.getfield 28, 3) := by decide +kernel
theorem d_He_readWords_12 : decode prog_4_method_3_code 12 = .ok (.invokevirtual 71, 3) := by decide +kernel
theorem d_He_readWords_15 : decode prog_4_method_3_code 15 = .ok (.if_icmp .ge 110, 3) := by decide +kernel
theorem d_He_readWords_18 : decode prog_4_method_3_code 18 = .ok (.aload_n 0, 1) := by decide +kernel
theorem d_He_readWords_19 : decode prog_4_method_3_code 19 = .ok (.getfield 11, 3) := by decide +kernel
theorem d_He_readWords_22 : decode prog_4_method_3_code 22 = .ok (.iload_n 1, 1) := by decide +kernel
theorem d_He_readWords_23 : decode prog_4_method_3_code 23 = .ok (.iconst 0, 1) := by decide +kernel
theorem d_He_readWords_24 : decode prog_4_method_3_code 24 = .ok (.bastore, 1) := by decide +kernel
theorem d_He_readWords_25 : decode prog_4_method_3_code 25 = .ok (.aload_n 0, 1) := by decide +kernel
theorem d_He_readWords_26 : decode prog_4_method_3_code 26 = .ok (.getfield 17, 3) := by decide +kernel
theorem d_He_readWords_29 : decode prog_4_method_3_code 29 = .ok (.iload_n 1, 1) := by decide +kernel
theorem d_He_readWords_30 : decode prog_4_method_3_code 30 = .ok (.iconst 0, 1) := by decide +kernel
theorem d_He_readWords_31 : decode prog_4_method_3_code 31 = .ok (.bastore, 1) := by decide +kernel
theorem d_He_readWords_32 : decode prog_4_method_3_code 32 = .ok (.aload_n 0, 1) := by decide +kernel
theorem d_He_readWords_33 : decode prog_4_method_3_code 33 = .ok (.getfield 28, 3) := by decide +kernel
theorem d_He_readWords_36 : decode prog_4_method_3_code 36 = .ok (.iload_n 1, 1) := by decide +kernel
theorem d_He_readWords_37 : decode prog_4_method_3_code 37 = .ok (.invokevirtual 75, 3) := by decide +kernel
theorem d_He_readWords_40 : decode prog_4_method_3_code 40 = .ok (.ifCond .eq 79, 3) := by decide +kernel
theorem d_He_readWords_43 : decode prog_4_method_3_code 43 = .ok (.aload_n 0, 1) := by decide +kernel
theorem d_He_readWords_44 : decode prog_4_method_3_code 44 = .ok (.getfield 24, 3) := by decide +kernel
theorem d_He_readWords_47 : decode prog_4_method_3_code 47 = .ok (.aload_n 0, 1) := by decide +kernel
theorem d_He_readWords_48 : decode prog_4_method_3_code 48 = .ok (.getfield 28, 3) := by decide +kernel
theorem d_He_readWords_51 : decode prog_4_method_3_code 51 = .ok (.iload_n 1, 1) := by decide +kernel
theorem d_He_readWords_52 : decode prog_4_method_3_code 52 = .ok (.invokevirtual 79, 3) := by decide +kernel
theorem d_He_readWords_55 : decode prog_4_method_3_code 55 = .ok (.invokevirtual 45, 3) := by decide +kernel
theorem d_He_readWords_58 : decode prog_4_method_3_code 58 = .ok (.aload_n 0, 1) := by decide +kernel
theorem d_He_readWords_59 : decode prog_4_method_3_code 59 = .ok (.getfield 49, 3) := by decide +kernel
theorem d_He_readWords_62 : decode prog_4_method_3_code 62 = .ok (.if_icmp .eq 6, 3) := by decide +kernel
theorem d_He_readWords_65 : decode prog_4_method_3_code 65 = .ok (.goto 54, 3) := by decide +kernel
theorem d_He_readWords_68 : decode prog_4_method_3_code 68 = .ok (.aload_n 0, 1) := by decide +kernel
theorem d_He_readWords_69 : decode prog_4_method_3_code 69 = .ok (.getfield 28, 3) := by decide +kernel
theorem d_He_readWords_72 : decode prog_4_method_3_code 72 = .ok (.iload_n 1, 1) := by decide +kernel
theorem d_He_readWords_73 : decode prog_4_method_3_code 73 = .ok (.invokevirtual 82, 3) := by decide +kernel
theorem d_He_readWords_76 : decode prog_4_method_3_code 76 = .ok (.istore_n 2, 1) := by decide +kernel
theorem d_He_readWords_77 : decode prog_4_method_3_code 77 = .ok (.aload_n 0, 1) := by decide +kernel
theorem d_He_readWords_78 : decode prog_4_method_3_code 78 = .ok (.getfield 11, 3) := by decide +kernel
theorem d_He_readWords_81 : decode prog_4_method_3_code 81 = .ok (.iload_n 2, 1) := by decide +kernel
theorem d_He_readWords_82 : decode prog_4_method_3_code 82 = .ok (.iconst 1, 1) := by decide +kernel
theorem d_He_readWords_83 : decode prog_4_method_3_code 83 = .ok (.bastore, 1) := by decide +kernel
theorem d_He_readWords_84 : decode prog_4_method_3_code 84 = .ok (.aload_n 0, 1) := by decide +kernel
theorem d_He_readWords_85 : decode prog_4_method_3_code 85 = .ok (.getfield 17, 3) := by decide +kernel
theorem d_He_readWords_88 : decode prog_4_method_3_code 88 = .ok (.iload_n 2, 1) := by decide +kernel
theorem d_He_readWords_89 : decode prog_4_method_3_code 89 = .ok (.iconst 1, 1) := by decide +kernel
theorem d_He_readWords_90 : decode prog_4_method_3_code 90 = .ok (.bastore, 1) := by decide +kernel
theorem d_He_readWords_91 : decode prog_4_method_3_code 91 = .ok (.aload_n 0, 1) := by decide +kernel
theorem d_He_readWords_92 : decode prog_4_method_3_code 92 = .ok (.getfield 17, 3) := by decide +kernel
theorem d_He_readWords_95 : decode prog_4_method_3_code 95 = .ok (.iload_n 1, 1) := by decide +kernel
theorem d_He_readWords_96 : decode prog_4_method_3_code 96 = .ok (.iconst 1, 1) := by decide +kernel
theorem d_He_readWords_97 : decode prog_4_method_3_code 97 = .ok (.bastore, 1) := by decide +kernel
theorem d_He_readWords_98 : decode prog_4_method_3_code 98 = .ok (.aload_n 0, 1) := by decide +kernel
theorem d_He_readWords_99 : decode prog_4_method_3_code 99 = .ok (.getfield 28, 3) := by decide +kernel
theorem d_He_readWords_102 : decode prog_4_method_3_code 102 = .ok (.iload_n 1, 1) := by decide +kernel
theorem d_He_readWords_103 : decode prog_4_method_3_code 103 = .ok (.invokevirtual 85, 3) := by decide +kernel
theorem d_He_readWords_106 : decode prog_4_method_3_code 106 = .ok (.ifCond .eq 13, 3) := by decide +kernel
theorem d_He_readWords_109 : decode prog_4_method_3_code 109 = .ok (.aload_n 0, 1) := by decide +kernel
theorem d_He_readWords_110 : decode prog_4_method_3_code 110 = .ok (.dup, 1) := by decide +kernel
theorem d_He_readWords_111 : decode prog_4_method_3_code 111 = .ok (.getfield 68, 3) := by decide +kernel
theorem d_He_readWords_114 : decode prog_4_method_3_code 114 = .ok (.iconst 1, 1) := by decide +kernel
theorem d_He_readWords_115 : decode prog_4_method_3_code 115 = .ok (.iadd, 1) := by decide +kernel
theorem d_He_readWords_116 : decode prog_4_method_3_code 116 = .ok (.putfield 68, 3) := by decide +kernel
theorem d_He_readWords_119 : decode prog_4_method_3_code 119 = .ok (.iinc 1 1, 3) := by decide +kernel
theorem d_He_readWords_122 : decode prog_4_method_3_code 122 = .ok (.goto (-115), 3) := by decide +kernel
theorem d_He_readWords_125 : decode prog_4_method_3_code 125 = .ok (.return_, 1) := by decide +kernel
set_option maxHeartbeats 4000000 in
set_option maxRecDepth 100000 in
theorem K_He_readWords_7 {F : FT} (hD : ∀ σ, va_D F.2.2.1 (GW F.2.1 σ)) (hm : F.2.2.2.2.2.2.2.2.2.2.2.2.2.2.1 = 3) (ok : OkF F prog_4_method_3_code "LastSeen$Hearing" ({ frames := 1, cells := 0, slots := 0, locals := 21 } : Room)) {Q : SS → Prop} (hQ : RetV F Q) {x1 : Int} {s : SS} (h : B_He_readWords_7 Q (fun x1 s => AtS F 7 [(0, .ref (F.2.1.1 6)), (1, vI x1)] [] s) x1 s) : AtS F 7 [(0, .ref (F.2.1.1 6)), (1, vI x1)] [] s := by
  unfold B_He_readWords_7 at h
  refine r_iload_n ok 1 d_He_readWords_7 rfl rfl ?_
  refine r_aload_n ok 0 d_He_readWords_8 rfl rfl ?_
  refine g_He_words ok d_He_readWords_9 ?_
  refine r_callVi (As := []) (rest := [vI x1]) ok 4 rfl rfl rfl wl_He_71 wi_y_Wo_size ws_y_Wo_size wn_Wo wc_y_Wo_size (by decide) (by decide) hh_Wo_size (Nat.le_of_ble_eq_true rfl) rfl d_He_readWords_12 (L_Wo_size F.1 F.2.1 F.2.2.1 hD h) (fun r3 s2 h => ?_)
  refine r_icmp_ge ok 125 d_He_readWords_15 (by decide) h.1 h.2.1 (fun c => ?_) (fun c => ?_)
  · replace h := h.2.2.1 c
    exact hQ _ _ _ _ (ok_code ok) d_He_readWords_125 h
  · replace h := h.2.2.2 c
    refine r_aload_n ok 0 d_He_readWords_18 rfl rfl ?_
    refine g_He_isRoot ok d_He_readWords_19 ?_
    refine r_iload_n ok 1 d_He_readWords_22 rfl rfl ?_
    refine r_iconst ok 0 d_He_readWords_23 rfl ?_
    refine r_zast ok 33 d_He_readWords_24 (by decide) rfl h.1 (by decide) ?_
    replace h := h.2 _ rfl
    generalize sA s2 33 x1 0 = s4 at h ⊢
    refine r_aload_n ok 0 d_He_readWords_25 rfl rfl ?_
    refine g_He_isLeanedOn ok d_He_readWords_26 ?_
    refine r_iload_n ok 1 d_He_readWords_29 rfl rfl ?_
    refine r_iconst ok 0 d_He_readWords_30 rfl ?_
    refine r_zast ok 34 d_He_readWords_31 (by decide) rfl h.1 (by decide) ?_
    replace h := h.2 _ rfl
    generalize sA s4 34 x1 0 = s5 at h ⊢
    refine r_aload_n ok 0 d_He_readWords_32 rfl rfl ?_
    refine g_He_words ok d_He_readWords_33 ?_
    refine r_iload_n ok 1 d_He_readWords_36 rfl rfl ?_
    refine r_callVi (As := [vI x1]) (rest := []) ok 4 rfl rfl rfl wl_He_75 wi_y_Wo_stands ws_y_Wo_stands wn_Wo wc_y_Wo_stands (by decide) (by decide) hh_Wo_stands (Nat.le_of_ble_eq_true rfl) rfl d_He_readWords_37 (L_Wo_stands F.1 F.2.1 F.2.2.1 hD h) (fun r7 s6 h => ?_)
    refine r_if_eq ok 119 d_He_readWords_40 (by decide) h.1 (fun c => ?_) (fun c => ?_)
    · replace h := h.2.1 c
      refine r_iinc ok 1 (x1 + 1) [(1, vI (x1 + 1)), (0, .ref (F.2.1.1 6))] d_He_readWords_119 rfl rfl hm (by decide) rfl ?_
      refine r_goto ok 7 d_He_readWords_122 (by decide) ?_
      exact r_sub [1, 0] rfl h
    · replace h := h.2.2 c
      refine r_aload_n ok 0 d_He_readWords_43 rfl rfl ?_
      refine g_He_names ok d_He_readWords_44 ?_
      refine r_aload_n ok 0 d_He_readWords_47 rfl rfl ?_
      refine g_He_words ok d_He_readWords_48 ?_
      refine r_iload_n ok 1 d_He_readWords_51 rfl rfl ?_
      refine r_callVi (As := [vI x1]) (rest := [.ref (F.2.1.1 3)]) ok 4 rfl rfl rfl wl_He_79 wi_y_Wo_nameOf ws_y_Wo_nameOf wn_Wo wc_y_Wo_nameOf (by decide) (by decide) hh_Wo_nameOf (Nat.le_of_ble_eq_true rfl) rfl d_He_readWords_52 (L_Wo_nameOf F.1 F.2.1 F.2.2.1 hD h) (fun r9 s8 h => ?_)
      refine r_callVi (As := [vI r9]) (rest := []) ok 3 rfl rfl rfl wl_He_45 wi_y_Na_leastOf ws_y_Na_leastOf wn_Na wc_y_Na_leastOf (by decide) (by decide) hh_Na_leastOf (Nat.le_of_ble_eq_true rfl) rfl d_He_readWords_55 (L_Na_leastOf F.1 F.2.1 F.2.2.1 hD h) (fun r11 s10 h => ?_)
      refine r_aload_n ok 0 d_He_readWords_58 rfl rfl ?_
      refine g_He_person ok d_He_readWords_59 ?_
      refine r_icmp_eq ok 68 d_He_readWords_62 (by decide) h.1 h.2.1 (fun c => ?_) (fun c => ?_)
      · replace h := h.2.2.1 c
        refine r_aload_n ok 0 d_He_readWords_68 rfl rfl ?_
        refine g_He_words ok d_He_readWords_69 ?_
        refine r_iload_n ok 1 d_He_readWords_72 rfl rfl ?_
        refine r_callVi (As := [vI x1]) (rest := []) ok 4 rfl rfl rfl wl_He_82 wi_y_Wo_rootOf ws_y_Wo_rootOf wn_Wo wc_y_Wo_rootOf (by decide) (by decide) hh_Wo_rootOf (Nat.le_of_ble_eq_true rfl) rfl d_He_readWords_73 (L_Wo_rootOf F.1 F.2.1 F.2.2.1 hD h) (fun r13 s12 h => ?_)
        refine r_istore_n ok [(2, vI r13), (0, .ref (F.2.1.1 6)), (1, vI x1)] d_He_readWords_76 rfl hm (by decide) rfl ?_
        refine r_aload_n ok 1 d_He_readWords_77 rfl rfl ?_
        refine g_He_isRoot ok d_He_readWords_78 ?_
        refine r_iload_n ok 0 d_He_readWords_81 rfl rfl ?_
        refine r_iconst ok 1 d_He_readWords_82 rfl ?_
        refine r_zast ok 33 d_He_readWords_83 (by decide) rfl h.1 (by decide) ?_
        replace h := h.2 _ rfl
        generalize sA s12 33 r13 1 = s14 at h ⊢
        refine r_aload_n ok 1 d_He_readWords_84 rfl rfl ?_
        refine g_He_isLeanedOn ok d_He_readWords_85 ?_
        refine r_iload_n ok 0 d_He_readWords_88 rfl rfl ?_
        refine r_iconst ok 1 d_He_readWords_89 rfl ?_
        refine r_zast ok 34 d_He_readWords_90 (by decide) rfl h.1 (by decide) ?_
        replace h := h.2 _ rfl
        generalize sA s14 34 r13 1 = s15 at h ⊢
        refine r_aload_n ok 1 d_He_readWords_91 rfl rfl ?_
        refine g_He_isLeanedOn ok d_He_readWords_92 ?_
        refine r_iload_n ok 2 d_He_readWords_95 rfl rfl ?_
        refine r_iconst ok 1 d_He_readWords_96 rfl ?_
        refine r_zast ok 34 d_He_readWords_97 (by decide) rfl h.1 (by decide) ?_
        replace h := h.2 _ rfl
        generalize sA s15 34 x1 1 = s16 at h ⊢
        refine r_aload_n ok 1 d_He_readWords_98 rfl rfl ?_
        refine g_He_words ok d_He_readWords_99 ?_
        refine r_iload_n ok 2 d_He_readWords_102 rfl rfl ?_
        refine r_callVi (As := [vI x1]) (rest := []) ok 4 rfl rfl rfl wl_He_85 wi_y_Wo_isHeard ws_y_Wo_isHeard wn_Wo wc_y_Wo_isHeard (by decide) (by decide) hh_Wo_isHeard (Nat.le_of_ble_eq_true rfl) rfl d_He_readWords_103 (L_Wo_isHeard F.1 F.2.1 F.2.2.1 hD h) (fun r18 s17 h => ?_)
        refine r_if_eq ok 119 d_He_readWords_106 (by decide) h.1 (fun c => ?_) (fun c => ?_)
        · replace h := h.2.1 c
          refine r_iinc ok 2 (x1 + 1) [(1, vI (x1 + 1)), (2, vI r13), (0, .ref (F.2.1.1 6))] d_He_readWords_119 rfl rfl hm (by decide) rfl ?_
          refine r_goto ok 7 d_He_readWords_122 (by decide) ?_
          exact r_sub [2, 0] rfl h
        · replace h := h.2.2 c
          refine r_aload_n ok 1 d_He_readWords_109 rfl rfl ?_
          refine r_dup ok d_He_readWords_110 rfl ?_
          refine g_He_hearsay ok d_He_readWords_111 ?_
          refine r_iconst ok 1 d_He_readWords_114 rfl ?_
          refine r_iadd ok d_He_readWords_115 ?_
          refine p_He_hearsay ok d_He_readWords_116 ?_
          replace h := h _ rfl
          generalize sF s17 10 ((s17.1 10) + 1) = s19 at h ⊢
          refine r_iinc ok 2 (x1 + 1) [(1, vI (x1 + 1)), (2, vI r13), (0, .ref (F.2.1.1 6))] d_He_readWords_119 rfl rfl hm (by decide) rfl ?_
          refine r_goto ok 7 d_He_readWords_122 (by decide) ?_
          exact r_sub [2, 0] rfl h
      · replace h := h.2.2.2 c
        refine r_goto ok 119 d_He_readWords_65 (by decide) ?_
        refine r_iinc ok 1 (x1 + 1) [(1, vI (x1 + 1)), (0, .ref (F.2.1.1 6))] d_He_readWords_119 rfl rfl hm (by decide) rfl ?_
        refine r_goto ok 7 d_He_readWords_122 (by decide) ?_
        exact r_sub [1, 0] rfl h
set_option maxHeartbeats 4000000 in
set_option maxRecDepth 100000 in
theorem K_He_readWords_e {F : FT} (hD : ∀ σ, va_D F.2.2.1 (GW F.2.1 σ)) (hm : F.2.2.2.2.2.2.2.2.2.2.2.2.2.2.1 = 3) (ok : OkF F prog_4_method_3_code "LastSeen$Hearing" ({ frames := 1, cells := 0, slots := 0, locals := 21 } : Room)) {Q : SS → Prop} (hQ : RetV F Q) {s : SS} (h : B_He_readWords_e Q (fun x1 s => AtS F 7 [(0, .ref (F.2.1.1 6)), (1, vI x1)] [] s)  s) : AtS F 0 [(0, .ref (F.2.1.1 6))] [] s := by
  unfold B_He_readWords_e at h
  refine r_aload_n ok 0 d_He_readWords_0 rfl rfl ?_
  refine r_iconst ok 0 d_He_readWords_1 rfl ?_
  refine p_He_hearsay ok d_He_readWords_2 ?_
  replace h := h _ rfl
  generalize sF s 10 0 = s1 at h ⊢
  refine r_iconst ok 0 d_He_readWords_5 rfl ?_
  refine r_istore_n ok [(1, vI 0), (0, .ref (F.2.1.1 6))] d_He_readWords_6 rfl hm (by decide) rfl ?_
  exact r_sub [1, 0] rfl h
theorem L_He_readWords (l : Launch) (G : GE) (A : Nat → Prop) (hD : ∀ σ, va_D A (GW G σ)) {s : SS} {Q : SS → Prop} (h : Sp_He_readWords  s Q) : Met l y_He_readWords (Cond.code y_He_readWords prog_4_method_3_code 3 (none) :: lw_ok) ({ frames := 1, cells := 0, slots := 0, locals := 21 } : Room) (va_Pc [.ref (G.1 6)] (gB G s)) (va_Qv (fun (s2 : SS) => Q s2) (fun s2 t => gB G s2 t) A) 0 0 A := by
  refine met_v hD (by decide) ⟨rfl, rfl⟩ (Nat.le_of_ble_eq_true rfl) (lv := [(0, .ref (G.1 6))]) rfl (fun F h1 h2 h3 hm ok hQ => ?_)
  subst h1 h2 h3
  have hDF := hD
  exact K_He_readWords_e hDF hm ok hQ (h _ (fun _ _ hb => K_He_readWords_7 hDF hm ok hQ hb))
theorem d_Wo_witnessOf_0 : decode prog_10_method_10_code 0 = .ok (.aload_n 0, 1) := by decide +kernel
theorem d_Wo_witnessOf_1 : decode prog_10_method_10_code 1 = .ok (.getfield 11, 3) := by decide +kernel
theorem d_Wo_witnessOf_4 : decode prog_10_method_10_code 4 = .ok (.iload_n 1, 1) := by decide +kernel
theorem d_Wo_witnessOf_5 : decode prog_10_method_10_code 5 = .ok (.iaload, 1) := by decide +kernel
theorem d_Wo_witnessOf_6 : decode prog_10_method_10_code 6 = .ok (.ireturn, 1) := by decide +kernel
set_option maxHeartbeats 4000000 in
set_option maxRecDepth 100000 in
theorem K_Wo_witnessOf_e {F : FT} (hD : ∀ σ, va_D F.2.2.1 (GW F.2.1 σ)) (hm : F.2.2.2.2.2.2.2.2.2.2.2.2.2.2.1 = 2) (ok : OkF F prog_10_method_10_code "LastSeen$Words" ({ frames := 0, cells := 0, slots := 0, locals := 0 } : Room)) {Q : Int → SS → Prop} (hQ : RetI F Q) {x1 : Int} {s : SS} (h : Sp_Wo_witnessOf x1 s Q) : AtS F 0 [(0, .ref (F.2.1.1 4)), (1, vI x1)] [] s := by
  unfold Sp_Wo_witnessOf at h
  refine r_aload_n ok 0 d_Wo_witnessOf_0 rfl rfl ?_
  refine g_Wo_witness ok d_Wo_witnessOf_1 ?_
  refine r_iload_n ok 1 d_Wo_witnessOf_4 rfl rfl ?_
  refine r_iald ok 18 d_Wo_witnessOf_5 (by decide) rfl h.1 ?_
  replace h := h.2
  exact hQ _ _ _ _ _ (ok_code ok) d_Wo_witnessOf_6 h
theorem L_Wo_witnessOf (l : Launch) (G : GE) (A : Nat → Prop) (hD : ∀ σ, va_D A (GW G σ)) {x1 : Int} {s : SS} {Q : Int → SS → Prop} (h : Sp_Wo_witnessOf x1 s Q) : Met l y_Wo_witnessOf (Cond.code y_Wo_witnessOf prog_10_method_10_code 2 (some .int) :: lw_ok) ({ frames := 0, cells := 0, slots := 0, locals := 0 } : Room) (va_Pc [.ref (G.1 4), vI x1] (gB G s)) (va_Qi (fun (r : Int32) (s2 : SS) => ∃ x : Int, r = iI x ∧ Q x s2) (fun s2 t => gB G s2 t) A) 0 0 A := by
  refine met_i hD (by decide) ⟨rfl, rfl⟩ (Nat.le_of_ble_eq_true rfl) (lv := [(0, .ref (G.1 4)), (1, vI x1)]) rfl (fun F h1 h2 h3 hm ok hQ => ?_)
  subst h1 h2 h3
  have hDF := hD
  exact K_Wo_witnessOf_e hDF hm ok hQ h
theorem d_Jl_bitCount_0 : decode prog_13_method_49_code 0 = .ok (.iload_n 0, 1) := by decide +kernel
theorem d_Jl_bitCount_1 : decode prog_13_method_49_code 1 = .ok (.iload_n 0, 1) := by decide +kernel
theorem d_Jl_bitCount_2 : decode prog_13_method_49_code 2 = .ok (.iconst 1, 1) := by decide +kernel
theorem d_Jl_bitCount_3 : decode prog_13_method_49_code 3 = .ok (.iushr, 1) := by decide +kernel
theorem d_Jl_bitCount_4 : decode prog_13_method_49_code 4 = .ok (.ldc_w 265, 3) := by decide +kernel
theorem d_Jl_bitCount_7 : decode prog_13_method_49_code 7 = .ok (.iand, 1) := by decide +kernel
theorem d_Jl_bitCount_8 : decode prog_13_method_49_code 8 = .ok (.isub, 1) := by decide +kernel
theorem d_Jl_bitCount_9 : decode prog_13_method_49_code 9 = .ok (.istore_n 0, 1) := by decide +kernel
theorem d_Jl_bitCount_10 : decode prog_13_method_49_code 10 = .ok (.iload_n 0, 1) := by decide +kernel
theorem d_Jl_bitCount_11 : decode prog_13_method_49_code 11 = .ok (.ldc_w 266, 3) := by decide +kernel
theorem d_Jl_bitCount_14 : decode prog_13_method_49_code 14 = .ok (.iand, 1) := by decide +kernel
theorem d_Jl_bitCount_15 : decode prog_13_method_49_code 15 = .ok (.iload_n 0, 1) := by decide +kernel
theorem d_Jl_bitCount_16 : decode prog_13_method_49_code 16 = .ok (.iconst 2, 1) := by decide +kernel
theorem d_Jl_bitCount_17 : decode prog_13_method_49_code 17 = .ok (.iushr, 1) := by decide +kernel
theorem d_Jl_bitCount_18 : decode prog_13_method_49_code 18 = .ok (.ldc_w 266, 3) := by decide +kernel
theorem d_Jl_bitCount_21 : decode prog_13_method_49_code 21 = .ok (.iand, 1) := by decide +kernel
theorem d_Jl_bitCount_22 : decode prog_13_method_49_code 22 = .ok (.iadd, 1) := by decide +kernel
theorem d_Jl_bitCount_23 : decode prog_13_method_49_code 23 = .ok (.istore_n 0, 1) := by decide +kernel
theorem d_Jl_bitCount_24 : decode prog_13_method_49_code 24 = .ok (.iload_n 0, 1) := by decide +kernel
theorem d_Jl_bitCount_25 : decode prog_13_method_49_code 25 = .ok (.iload_n 0, 1) := by decide +kernel
theorem d_Jl_bitCount_26 : decode prog_13_method_49_code 26 = .ok (.iconst 4, 1) := by decide +kernel
theorem d_Jl_bitCount_27 : decode prog_13_method_49_code 27 = .ok (.iushr, 1) := by decide +kernel
theorem d_Jl_bitCount_28 : decode prog_13_method_49_code 28 = .ok (.iadd, 1) := by decide +kernel
theorem d_Jl_bitCount_29 : decode prog_13_method_49_code 29 = .ok (.ldc_w 267, 3) := by decide +kernel
theorem d_Jl_bitCount_32 : decode prog_13_method_49_code 32 = .ok (.iand, 1) := by decide +kernel
theorem d_Jl_bitCount_33 : decode prog_13_method_49_code 33 = .ok (.istore_n 0, 1) := by decide +kernel
theorem d_Jl_bitCount_34 : decode prog_13_method_49_code 34 = .ok (.iload_n 0, 1) := by decide +kernel
theorem d_Jl_bitCount_35 : decode prog_13_method_49_code 35 = .ok (.iload_n 0, 1) := by decide +kernel
theorem d_Jl_bitCount_36 : decode prog_13_method_49_code 36 = .ok (.bipush 8, 2) := by decide +kernel
theorem d_Jl_bitCount_38 : decode prog_13_method_49_code 38 = .ok (.iushr, 1) := by decide +kernel
theorem d_Jl_bitCount_39 : decode prog_13_method_49_code 39 = .ok (.iadd, 1) := by decide +kernel
theorem d_Jl_bitCount_40 : decode prog_13_method_49_code 40 = .ok (.istore_n 0, 1) := by decide +kernel
theorem d_Jl_bitCount_41 : decode prog_13_method_49_code 41 = .ok (.iload_n 0, 1) := by decide +kernel
theorem d_Jl_bitCount_42 : decode prog_13_method_49_code 42 = .ok (.iload_n 0, 1) := by decide +kernel
theorem d_Jl_bitCount_43 : decode prog_13_method_49_code 43 = .ok (.bipush 16, 2) := by decide +kernel
theorem d_Jl_bitCount_45 : decode prog_13_method_49_code 45 = .ok (.iushr, 1) := by decide +kernel
theorem d_Jl_bitCount_46 : decode prog_13_method_49_code 46 = .ok (.iadd, 1) := by decide +kernel
theorem d_Jl_bitCount_47 : decode prog_13_method_49_code 47 = .ok (.istore_n 0, 1) := by decide +kernel
theorem d_Jl_bitCount_48 : decode prog_13_method_49_code 48 = .ok (.iload_n 0, 1) := by decide +kernel
theorem d_Jl_bitCount_49 : decode prog_13_method_49_code 49 = .ok (.bipush 63, 2) := by decide +kernel
theorem d_Jl_bitCount_51 : decode prog_13_method_49_code 51 = .ok (.iand, 1) := by decide +kernel
theorem d_Jl_bitCount_52 : decode prog_13_method_49_code 52 = .ok (.ireturn, 1) := by decide +kernel
set_option maxHeartbeats 4000000 in
set_option maxRecDepth 100000 in
theorem K_Jl_bitCount_e {F : FT} (hD : ∀ σ, va_D F.2.2.1 (GW F.2.1 σ)) (hm : F.2.2.2.2.2.2.2.2.2.2.2.2.2.2.1 = 1) (ok : OkF F prog_13_method_49_code "java/lang/Integer" ({ frames := 0, cells := 0, slots := 0, locals := 0 } : Room)) {Q : Int → SS → Prop} (hQ : RetI F Q) {x0 : Int} {s : SS} (h : Sp_Jl_bitCount x0 s Q) : AtS F 0 [(0, vI x0)] [] s := by
  unfold Sp_Jl_bitCount at h
  refine r_iload_n ok 0 d_Jl_bitCount_0 rfl rfl ?_
  refine r_iload_n ok 0 d_Jl_bitCount_1 rfl rfl ?_
  refine r_iconst ok 1 d_Jl_bitCount_2 rfl ?_
  refine r_iushr ok d_Jl_bitCount_3 ?_
  refine r_ldcw ok 1431655765 wk_Jl_265 d_Jl_bitCount_4 (by decide) ?_
  refine r_iand ok d_Jl_bitCount_7 ?_
  refine r_isub ok d_Jl_bitCount_8 ?_
  refine r_istore_n ok [(0, vI (x0 - (bnd (ush x0 1) 1431655765)))] d_Jl_bitCount_9 rfl hm (by decide) rfl ?_
  refine r_iload_n ok 0 d_Jl_bitCount_10 rfl rfl ?_
  refine r_ldcw ok 858993459 wk_Jl_266 d_Jl_bitCount_11 (by decide) ?_
  refine r_iand ok d_Jl_bitCount_14 ?_
  refine r_iload_n ok 0 d_Jl_bitCount_15 rfl rfl ?_
  refine r_iconst ok 2 d_Jl_bitCount_16 rfl ?_
  refine r_iushr ok d_Jl_bitCount_17 ?_
  refine r_ldcw ok 858993459 wk_Jl_266 d_Jl_bitCount_18 (by decide) ?_
  refine r_iand ok d_Jl_bitCount_21 ?_
  refine r_iadd ok d_Jl_bitCount_22 ?_
  refine r_istore_n ok [(0, vI ((bnd (x0 - (bnd (ush x0 1) 1431655765)) 858993459) + (bnd (ush (x0 - (bnd (ush x0 1) 1431655765)) 2) 858993459)))] d_Jl_bitCount_23 rfl hm (by decide) rfl ?_
  refine r_iload_n ok 0 d_Jl_bitCount_24 rfl rfl ?_
  refine r_iload_n ok 0 d_Jl_bitCount_25 rfl rfl ?_
  refine r_iconst ok 4 d_Jl_bitCount_26 rfl ?_
  refine r_iushr ok d_Jl_bitCount_27 ?_
  refine r_iadd ok d_Jl_bitCount_28 ?_
  refine r_ldcw ok 252645135 wk_Jl_267 d_Jl_bitCount_29 (by decide) ?_
  refine r_iand ok d_Jl_bitCount_32 ?_
  refine r_istore_n ok [(0, vI (bnd (((bnd (x0 - (bnd (ush x0 1) 1431655765)) 858993459) + (bnd (ush (x0 - (bnd (ush x0 1) 1431655765)) 2) 858993459)) + (ush ((bnd (x0 - (bnd (ush x0 1) 1431655765)) 858993459) + (bnd (ush (x0 - (bnd (ush x0 1) 1431655765)) 2) 858993459)) 4)) 252645135))] d_Jl_bitCount_33 rfl hm (by decide) rfl ?_
  refine r_iload_n ok 0 d_Jl_bitCount_34 rfl rfl ?_
  refine r_iload_n ok 0 d_Jl_bitCount_35 rfl rfl ?_
  refine r_bipush ok 8 d_Jl_bitCount_36 (by decide) ?_
  refine r_iushr ok d_Jl_bitCount_38 ?_
  refine r_iadd ok d_Jl_bitCount_39 ?_
  refine r_istore_n ok [(0, vI ((bnd (((bnd (x0 - (bnd (ush x0 1) 1431655765)) 858993459) + (bnd (ush (x0 - (bnd (ush x0 1) 1431655765)) 2) 858993459)) + (ush ((bnd (x0 - (bnd (ush x0 1) 1431655765)) 858993459) + (bnd (ush (x0 - (bnd (ush x0 1) 1431655765)) 2) 858993459)) 4)) 252645135) + (ush (bnd (((bnd (x0 - (bnd (ush x0 1) 1431655765)) 858993459) + (bnd (ush (x0 - (bnd (ush x0 1) 1431655765)) 2) 858993459)) + (ush ((bnd (x0 - (bnd (ush x0 1) 1431655765)) 858993459) + (bnd (ush (x0 - (bnd (ush x0 1) 1431655765)) 2) 858993459)) 4)) 252645135) 8)))] d_Jl_bitCount_40 rfl hm (by decide) rfl ?_
  refine r_iload_n ok 0 d_Jl_bitCount_41 rfl rfl ?_
  refine r_iload_n ok 0 d_Jl_bitCount_42 rfl rfl ?_
  refine r_bipush ok 16 d_Jl_bitCount_43 (by decide) ?_
  refine r_iushr ok d_Jl_bitCount_45 ?_
  refine r_iadd ok d_Jl_bitCount_46 ?_
  refine r_istore_n ok [(0, vI (((bnd (((bnd (x0 - (bnd (ush x0 1) 1431655765)) 858993459) + (bnd (ush (x0 - (bnd (ush x0 1) 1431655765)) 2) 858993459)) + (ush ((bnd (x0 - (bnd (ush x0 1) 1431655765)) 858993459) + (bnd (ush (x0 - (bnd (ush x0 1) 1431655765)) 2) 858993459)) 4)) 252645135) + (ush (bnd (((bnd (x0 - (bnd (ush x0 1) 1431655765)) 858993459) + (bnd (ush (x0 - (bnd (ush x0 1) 1431655765)) 2) 858993459)) + (ush ((bnd (x0 - (bnd (ush x0 1) 1431655765)) 858993459) + (bnd (ush (x0 - (bnd (ush x0 1) 1431655765)) 2) 858993459)) 4)) 252645135) 8)) + (ush ((bnd (((bnd (x0 - (bnd (ush x0 1) 1431655765)) 858993459) + (bnd (ush (x0 - (bnd (ush x0 1) 1431655765)) 2) 858993459)) + (ush ((bnd (x0 - (bnd (ush x0 1) 1431655765)) 858993459) + (bnd (ush (x0 - (bnd (ush x0 1) 1431655765)) 2) 858993459)) 4)) 252645135) + (ush (bnd (((bnd (x0 - (bnd (ush x0 1) 1431655765)) 858993459) + (bnd (ush (x0 - (bnd (ush x0 1) 1431655765)) 2) 858993459)) + (ush ((bnd (x0 - (bnd (ush x0 1) 1431655765)) 858993459) + (bnd (ush (x0 - (bnd (ush x0 1) 1431655765)) 2) 858993459)) 4)) 252645135) 8)) 16)))] d_Jl_bitCount_47 rfl hm (by decide) rfl ?_
  refine r_iload_n ok 0 d_Jl_bitCount_48 rfl rfl ?_
  refine r_bipush ok 63 d_Jl_bitCount_49 (by decide) ?_
  refine r_iand ok d_Jl_bitCount_51 ?_
  exact hQ _ _ _ _ _ (ok_code ok) d_Jl_bitCount_52 h
theorem L_Jl_bitCount (l : Launch) (G : GE) (A : Nat → Prop) (hD : ∀ σ, va_D A (GW G σ)) {x0 : Int} {s : SS} {Q : Int → SS → Prop} (h : Sp_Jl_bitCount x0 s Q) : Met l y_Jl_bitCount (Cond.code y_Jl_bitCount prog_13_method_49_code 1 (some .int) :: lw_ok) ({ frames := 0, cells := 0, slots := 0, locals := 0 } : Room) (va_Pc [vI x0] (gB G s)) (va_Qi (fun (r : Int32) (s2 : SS) => ∃ x : Int, r = iI x ∧ Q x s2) (fun s2 t => gB G s2 t) A) 0 0 A := by
  refine met_i hD (by decide) ⟨rfl, rfl⟩ (Nat.le_of_ble_eq_true rfl) (lv := [(0, vI x0)]) rfl (fun F h1 h2 h3 hm ok hQ => ?_)
  subst h1 h2 h3
  have hDF := hD
  exact K_Jl_bitCount_e hDF hm ok hQ h
theorem d_He_readRoots_0 : decode prog_4_method_4_code 0 = .ok (.aload_n 0, 1) := by decide +kernel
theorem d_He_readRoots_1 : decode prog_4_method_4_code 1 = .ok (.iconst 0, 1) := by decide +kernel
theorem d_He_readRoots_2 : decode prog_4_method_4_code 2 = .ok (.putfield 88, 3) := by decide +kernel
theorem d_He_readRoots_5 : decode prog_4_method_4_code 5 = .ok (.iconst 0, 1) := by decide +kernel
theorem d_He_readRoots_6 : decode prog_4_method_4_code 6 = .ok (.istore_n 1, 1) := by decide +kernel
theorem d_He_readRoots_7 : decode prog_4_method_4_code 7 = .ok (.iconst 0, 1) := by decide +kernel
theorem d_He_readRoots_8 : decode prog_4_method_4_code 8 = .ok (.istore_n 2, 1) := by decide +kernel
theorem d_He_readRoots_9 : decode prog_4_method_4_code 9 = .ok (.iload_n 2, 1) := by decide +kernel
theorem d_He_readRoots_10 : decode prog_4_method_4_code 10 = .ok (.aload_n 0, 1) := by decide +kernel
theorem d_He_readRoots_11 : decode prog_4_method_4_code 11 = .ok (.getfield 28, 3) := by decide +kernel
theorem d_He_readRoots_14 : decode prog_4_method_4_code 14 = .ok (.invokevirtual 71, 3) := by decide +kernel
theorem d_He_readRoots_17 : decode prog_4_method_4_code 17 = .ok (.if_icmp .ge 54, 3) := by decide +kernel
theorem d_He_readRoots_20 : decode prog_4_method_4_code 20 = .ok (.aload_n 0, 1) := by decide +kernel
theorem d_He_readRoots_21 : decode prog_4_method_4_code 21 = .ok (.getfield 11, 3) := by decide +kernel
theorem d_He_readRoots_24 : decode prog_4_method_4_code 24 = .ok (.iload_n 2, 1) := by decide +kernel
theorem d_He_readRoots_25 : decode prog_4_method_4_code 25 = .ok (.baload, 1) := by decide +kernel
theorem d_He_readRoots_26 : decode prog_4_method_4_code 26 = .ok (.ifCond .ne 6, 3) := by decide +kernel
theorem d_He_readRoots_29 : decode prog_4_method_4_code 29 = .ok (.goto 36, 3) := by decide +kernel
theorem d_He_readRoots_32 : decode prog_4_method_4_code 32 = .ok (.aload_n 0, 1) := by decide +kernel
theorem d_He_readRoots_33 : decode prog_4_method_4_code 33 = .ok (.getfield 20, 3) := by decide +kernel
theorem d_He_readRoots_36 : decode prog_4_method_4_code 36 = .ok (.aload_n 0, 1) := by decide +kernel
theorem d_He_readRoots_37 : decode prog_4_method_4_code 37 = .ok (.getfield 88, 3) := by decide +kernel
theorem d_He_readRoots_40 : decode prog_4_method_4_code 40 = .ok (.iload_n 2, 1) := by decide +kernel
theorem d_He_readRoots_41 : decode prog_4_method_4_code 41 = .ok (.iastore, 1) := by decide +kernel
theorem d_He_readRoots_42 : decode prog_4_method_4_code 42 = .ok (.aload_n 0, 1) := by decide +kernel
theorem d_He_readRoots_43 : decode prog_4_method_4_code 43 = .ok (.dup, 1) := by decide +kernel
theorem d_He_readRoots_44 : decode prog_4_method_4_code 44 = .ok (.getfield 88, 3) := by decide +kernel
theorem d_He_readRoots_47 : decode prog_4_method_4_code 47 = .ok (.iconst 1, 1) := by decide +kernel
theorem d_He_readRoots_48 : decode prog_4_method_4_code 48 = .ok (.iadd, 1) := by decide +kernel
theorem d_He_readRoots_49 : decode prog_4_method_4_code 49 = .ok (.putfield 88, 3) := by decide +kernel
theorem d_He_readRoots_52 : decode prog_4_method_4_code 52 = .ok (.iload_n 1, 1) := by decide +kernel
theorem d_He_readRoots_53 : decode prog_4_method_4_code 53 = .ok (.iconst 1, 1) := by decide +kernel
theorem d_He_readRoots_54 : decode prog_4_method_4_code 54 = .ok (.aload_n 0, 1) := by decide +kernel
theorem d_He_readRoots_55 : decode prog_4_method_4_code 55 = .ok (.getfield 28, 3) := by decide +kernel
theorem d_He_readRoots_58 : decode prog_4_method_4_code 58 = .ok (.iload_n 2, 1) := by decide +kernel
theorem d_He_readRoots_59 : decode prog_4_method_4_code 59 = .ok (.invokevirtual 91, 3) := by decide +kernel
theorem d_He_readRoots_62 : decode prog_4_method_4_code 62 = .ok (.ishl, 1) := by decide +kernel
theorem d_He_readRoots_63 : decode prog_4_method_4_code 63 = .ok (.ior, 1) := by decide +kernel
theorem d_He_readRoots_64 : decode prog_4_method_4_code 64 = .ok (.istore_n 1, 1) := by decide +kernel
theorem d_He_readRoots_65 : decode prog_4_method_4_code 65 = .ok (.iinc 2 1, 3) := by decide +kernel
theorem d_He_readRoots_68 : decode prog_4_method_4_code 68 = .ok (.goto (-59), 3) := by decide +kernel
theorem d_He_readRoots_71 : decode prog_4_method_4_code 71 = .ok (.aload_n 0, 1) := by decide +kernel
theorem d_He_readRoots_72 : decode prog_4_method_4_code 72 = .ok (.iload_n 1, 1) := by decide +kernel
theorem d_He_readRoots_73 : decode prog_4_method_4_code 73 = .ok (.invokestatic 94, 3) := by decide +kernel
theorem d_He_readRoots_76 : decode prog_4_method_4_code 76 = .ok (.putfield 99, 3) := by decide +kernel
theorem d_He_readRoots_79 : decode prog_4_method_4_code 79 = .ok (.return_, 1) := by decide +kernel
set_option maxHeartbeats 4000000 in
set_option maxRecDepth 100000 in
theorem K_He_readRoots_9 {F : FT} (hD : ∀ σ, va_D F.2.2.1 (GW F.2.1 σ)) (hm : F.2.2.2.2.2.2.2.2.2.2.2.2.2.2.1 = 3) (ok : OkF F prog_4_method_4_code "LastSeen$Hearing" ({ frames := 1, cells := 0, slots := 0, locals := 21 } : Room)) {Q : SS → Prop} (hQ : RetV F Q) {x1 x2 : Int} {s : SS} (h : B_He_readRoots_9 Q (fun x1 x2 s => AtS F 9 [(0, .ref (F.2.1.1 6)), (1, vI x1), (2, vI x2)] [] s) x1 x2 s) : AtS F 9 [(0, .ref (F.2.1.1 6)), (1, vI x1), (2, vI x2)] [] s := by
  unfold B_He_readRoots_9 at h
  refine r_iload_n ok 2 d_He_readRoots_9 rfl rfl ?_
  refine r_aload_n ok 0 d_He_readRoots_10 rfl rfl ?_
  refine g_He_words ok d_He_readRoots_11 ?_
  refine r_callVi (As := []) (rest := [vI x2]) ok 4 rfl rfl rfl wl_He_71 wi_y_Wo_size ws_y_Wo_size wn_Wo wc_y_Wo_size (by decide) (by decide) hh_Wo_size (Nat.le_of_ble_eq_true rfl) rfl d_He_readRoots_14 (L_Wo_size F.1 F.2.1 F.2.2.1 hD h) (fun r3 s2 h => ?_)
  refine r_icmp_ge ok 71 d_He_readRoots_17 (by decide) h.1 h.2.1 (fun c => ?_) (fun c => ?_)
  · replace h := h.2.2.1 c
    refine r_aload_n ok 0 d_He_readRoots_71 rfl rfl ?_
    refine r_iload_n ok 1 d_He_readRoots_72 rfl rfl ?_
    refine r_callSi (As := [vI x1]) (rest := [.ref (F.2.1.1 6)]) ok wl_He_94 wt_y_Jl_bitCount wn_Jl wc_y_Jl_bitCount (by decide) (by decide) hh_Jl_bitCount (Nat.le_of_ble_eq_true rfl) rfl d_He_readRoots_73 (L_Jl_bitCount F.1 F.2.1 F.2.2.1 hD h) (fun r5 s4 h => ?_)
    refine p_He_witnessCount ok d_He_readRoots_76 ?_
    replace h := h _ rfl
    generalize sF s4 11 r5 = s6 at h ⊢
    exact hQ _ _ _ _ (ok_code ok) d_He_readRoots_79 h
  · replace h := h.2.2.2 c
    refine r_aload_n ok 0 d_He_readRoots_20 rfl rfl ?_
    refine g_He_isRoot ok d_He_readRoots_21 ?_
    refine r_iload_n ok 2 d_He_readRoots_24 rfl rfl ?_
    refine r_zald ok 33 d_He_readRoots_25 (by decide) rfl h.1 ?_
    replace h := h.2
    refine r_if_ne ok 32 d_He_readRoots_26 (by decide) h.1 (fun c => ?_) (fun c => ?_)
    · replace h := h.2.1 c
      refine r_aload_n ok 0 d_He_readRoots_32 rfl rfl ?_
      refine g_He_roots ok d_He_readRoots_33 ?_
      refine r_aload_n ok 0 d_He_readRoots_36 rfl rfl ?_
      refine g_He_rootCount ok d_He_readRoots_37 ?_
      refine r_iload_n ok 2 d_He_readRoots_40 rfl rfl ?_
      refine r_iast ok 35 d_He_readRoots_41 (by decide) rfl h.1 ?_
      replace h := h.2 _ rfl
      generalize sA s2 35 (s2.1 9) x2 = s7 at h ⊢
      refine r_aload_n ok 0 d_He_readRoots_42 rfl rfl ?_
      refine r_dup ok d_He_readRoots_43 rfl ?_
      refine g_He_rootCount ok d_He_readRoots_44 ?_
      refine r_iconst ok 1 d_He_readRoots_47 rfl ?_
      refine r_iadd ok d_He_readRoots_48 ?_
      refine p_He_rootCount ok d_He_readRoots_49 ?_
      replace h := h _ rfl
      generalize sF s7 9 ((s7.1 9) + 1) = s8 at h ⊢
      refine r_iload_n ok 1 d_He_readRoots_52 rfl rfl ?_
      refine r_iconst ok 1 d_He_readRoots_53 rfl ?_
      refine r_aload_n ok 0 d_He_readRoots_54 rfl rfl ?_
      refine g_He_words ok d_He_readRoots_55 ?_
      refine r_iload_n ok 2 d_He_readRoots_58 rfl rfl ?_
      refine r_callVi (As := [vI x2]) (rest := [vI 1, vI x1]) ok 4 rfl rfl rfl wl_He_91 wi_y_Wo_witnessOf ws_y_Wo_witnessOf wn_Wo wc_y_Wo_witnessOf (by decide) (by decide) hh_Wo_witnessOf (Nat.le_of_ble_eq_true rfl) rfl d_He_readRoots_59 (L_Wo_witnessOf F.1 F.2.1 F.2.2.1 hD h) (fun r10 s9 h => ?_)
      refine r_ishl ok d_He_readRoots_62 ?_
      refine r_ior ok d_He_readRoots_63 ?_
      refine r_istore_n ok [(1, vI (bor x1 (shl 1 r10))), (0, .ref (F.2.1.1 6)), (2, vI x2)] d_He_readRoots_64 rfl hm (by decide) rfl ?_
      refine r_iinc ok 2 (x2 + 1) [(2, vI (x2 + 1)), (1, vI (bor x1 (shl 1 r10))), (0, .ref (F.2.1.1 6))] d_He_readRoots_65 rfl rfl hm (by decide) rfl ?_
      refine r_goto ok 9 d_He_readRoots_68 (by decide) ?_
      exact r_sub [2, 1, 0] rfl h
    · replace h := h.2.2 c
      refine r_goto ok 65 d_He_readRoots_29 (by decide) ?_
      refine r_iinc ok 2 (x2 + 1) [(2, vI (x2 + 1)), (0, .ref (F.2.1.1 6)), (1, vI x1)] d_He_readRoots_65 rfl rfl hm (by decide) rfl ?_
      refine r_goto ok 9 d_He_readRoots_68 (by decide) ?_
      exact r_sub [1, 2, 0] rfl h
set_option maxHeartbeats 4000000 in
set_option maxRecDepth 100000 in
theorem K_He_readRoots_e {F : FT} (hD : ∀ σ, va_D F.2.2.1 (GW F.2.1 σ)) (hm : F.2.2.2.2.2.2.2.2.2.2.2.2.2.2.1 = 3) (ok : OkF F prog_4_method_4_code "LastSeen$Hearing" ({ frames := 1, cells := 0, slots := 0, locals := 21 } : Room)) {Q : SS → Prop} (hQ : RetV F Q) {s : SS} (h : B_He_readRoots_e Q (fun x1 x2 s => AtS F 9 [(0, .ref (F.2.1.1 6)), (1, vI x1), (2, vI x2)] [] s)  s) : AtS F 0 [(0, .ref (F.2.1.1 6))] [] s := by
  unfold B_He_readRoots_e at h
  refine r_aload_n ok 0 d_He_readRoots_0 rfl rfl ?_
  refine r_iconst ok 0 d_He_readRoots_1 rfl ?_
  refine p_He_rootCount ok d_He_readRoots_2 ?_
  replace h := h _ rfl
  generalize sF s 9 0 = s1 at h ⊢
  refine r_iconst ok 0 d_He_readRoots_5 rfl ?_
  refine r_istore_n ok [(1, vI 0), (0, .ref (F.2.1.1 6))] d_He_readRoots_6 rfl hm (by decide) rfl ?_
  refine r_iconst ok 0 d_He_readRoots_7 rfl ?_
  refine r_istore_n ok [(2, vI 0), (1, vI 0), (0, .ref (F.2.1.1 6))] d_He_readRoots_8 rfl hm (by decide) rfl ?_
  exact r_sub [2, 1, 0] rfl h
theorem L_He_readRoots (l : Launch) (G : GE) (A : Nat → Prop) (hD : ∀ σ, va_D A (GW G σ)) {s : SS} {Q : SS → Prop} (h : Sp_He_readRoots  s Q) : Met l y_He_readRoots (Cond.code y_He_readRoots prog_4_method_4_code 3 (none) :: lw_ok) ({ frames := 1, cells := 0, slots := 0, locals := 21 } : Room) (va_Pc [.ref (G.1 6)] (gB G s)) (va_Qv (fun (s2 : SS) => Q s2) (fun s2 t => gB G s2 t) A) 0 0 A := by
  refine met_v hD (by decide) ⟨rfl, rfl⟩ (Nat.le_of_ble_eq_true rfl) (lv := [(0, .ref (G.1 6))]) rfl (fun F h1 h2 h3 hm ok hQ => ?_)
  subst h1 h2 h3
  have hDF := hD
  exact K_He_readRoots_e hDF hm ok hQ (h _ (fun _ _ _ hb => K_He_readRoots_9 hDF hm ok hQ hb))
theorem d_Wo_lastOf_0 : decode prog_10_method_13_code 0 = .ok (.aload_n 0, 1) := by decide +kernel
theorem d_Wo_lastOf_1 : decode prog_10_method_13_code 1 = .ok (.getfield 24, 3) := by decide +kernel
theorem d_Wo_lastOf_4 : decode prog_10_method_13_code 4 = .ok (.iload_n 1, 1) := by decide +kernel
theorem d_Wo_lastOf_5 : decode prog_10_method_13_code 5 = .ok (.iaload, 1) := by decide +kernel
theorem d_Wo_lastOf_6 : decode prog_10_method_13_code 6 = .ok (.ireturn, 1) := by decide +kernel
set_option maxHeartbeats 4000000 in
set_option maxRecDepth 100000 in
theorem K_Wo_lastOf_e {F : FT} (hD : ∀ σ, va_D F.2.2.1 (GW F.2.1 σ)) (hm : F.2.2.2.2.2.2.2.2.2.2.2.2.2.2.1 = 2) (ok : OkF F prog_10_method_13_code "LastSeen$Words" ({ frames := 0, cells := 0, slots := 0, locals := 0 } : Room)) {Q : Int → SS → Prop} (hQ : RetI F Q) {x1 : Int} {s : SS} (h : Sp_Wo_lastOf x1 s Q) : AtS F 0 [(0, .ref (F.2.1.1 4)), (1, vI x1)] [] s := by
  unfold Sp_Wo_lastOf at h
  refine r_aload_n ok 0 d_Wo_lastOf_0 rfl rfl ?_
  refine g_Wo_last ok d_Wo_lastOf_1 ?_
  refine r_iload_n ok 1 d_Wo_lastOf_4 rfl rfl ?_
  refine r_iald ok 22 d_Wo_lastOf_5 (by decide) rfl h.1 ?_
  replace h := h.2
  exact hQ _ _ _ _ _ (ok_code ok) d_Wo_lastOf_6 h
theorem L_Wo_lastOf (l : Launch) (G : GE) (A : Nat → Prop) (hD : ∀ σ, va_D A (GW G σ)) {x1 : Int} {s : SS} {Q : Int → SS → Prop} (h : Sp_Wo_lastOf x1 s Q) : Met l y_Wo_lastOf (Cond.code y_Wo_lastOf prog_10_method_13_code 2 (some .int) :: lw_ok) ({ frames := 0, cells := 0, slots := 0, locals := 0 } : Room) (va_Pc [.ref (G.1 4), vI x1] (gB G s)) (va_Qi (fun (r : Int32) (s2 : SS) => ∃ x : Int, r = iI x ∧ Q x s2) (fun s2 t => gB G s2 t) A) 0 0 A := by
  refine met_i hD (by decide) ⟨rfl, rfl⟩ (Nat.le_of_ble_eq_true rfl) (lv := [(0, .ref (G.1 4)), (1, vI x1)]) rfl (fun F h1 h2 h3 hm ok hQ => ?_)
  subst h1 h2 h3
  have hDF := hD
  exact K_Wo_lastOf_e hDF hm ok hQ h
theorem d_Wo_placesOf_0 : decode prog_10_method_11_code 0 = .ok (.aload_n 0, 1) := by decide +kernel
theorem d_Wo_placesOf_1 : decode prog_10_method_11_code 1 = .ok (.getfield 18, 3) := by decide +kernel
theorem d_Wo_placesOf_4 : decode prog_10_method_11_code 4 = .ok (.iload_n 1, 1) := by decide +kernel
theorem d_Wo_placesOf_5 : decode prog_10_method_11_code 5 = .ok (.iaload, 1) := by decide +kernel
theorem d_Wo_placesOf_6 : decode prog_10_method_11_code 6 = .ok (.ireturn, 1) := by decide +kernel
set_option maxHeartbeats 4000000 in
set_option maxRecDepth 100000 in
theorem K_Wo_placesOf_e {F : FT} (hD : ∀ σ, va_D F.2.2.1 (GW F.2.1 σ)) (hm : F.2.2.2.2.2.2.2.2.2.2.2.2.2.2.1 = 2) (ok : OkF F prog_10_method_11_code "LastSeen$Words" ({ frames := 0, cells := 0, slots := 0, locals := 0 } : Room)) {Q : Int → SS → Prop} (hQ : RetI F Q) {x1 : Int} {s : SS} (h : Sp_Wo_placesOf x1 s Q) : AtS F 0 [(0, .ref (F.2.1.1 4)), (1, vI x1)] [] s := by
  unfold Sp_Wo_placesOf at h
  refine r_aload_n ok 0 d_Wo_placesOf_0 rfl rfl ?_
  refine g_Wo_places ok d_Wo_placesOf_1 ?_
  refine r_iload_n ok 1 d_Wo_placesOf_4 rfl rfl ?_
  refine r_iald ok 20 d_Wo_placesOf_5 (by decide) rfl h.1 ?_
  replace h := h.2
  exact hQ _ _ _ _ _ (ok_code ok) d_Wo_placesOf_6 h
theorem L_Wo_placesOf (l : Launch) (G : GE) (A : Nat → Prop) (hD : ∀ σ, va_D A (GW G σ)) {x1 : Int} {s : SS} {Q : Int → SS → Prop} (h : Sp_Wo_placesOf x1 s Q) : Met l y_Wo_placesOf (Cond.code y_Wo_placesOf prog_10_method_11_code 2 (some .int) :: lw_ok) ({ frames := 0, cells := 0, slots := 0, locals := 0 } : Room) (va_Pc [.ref (G.1 4), vI x1] (gB G s)) (va_Qi (fun (r : Int32) (s2 : SS) => ∃ x : Int, r = iI x ∧ Q x s2) (fun s2 t => gB G s2 t) A) 0 0 A := by
  refine met_i hD (by decide) ⟨rfl, rfl⟩ (Nat.le_of_ble_eq_true rfl) (lv := [(0, .ref (G.1 4)), (1, vI x1)]) rfl (fun F h1 h2 h3 hm ok hQ => ?_)
  subst h1 h2 h3
  have hDF := hD
  exact K_Wo_placesOf_e hDF hm ok hQ h
theorem d_He_readLatest_0 : decode prog_4_method_5_code 0 = .ok (.aload_n 0, 1) := by decide +kernel
theorem d_He_readLatest_1 : decode prog_4_method_5_code 1 = .ok (.iconst (-1), 1) := by decide +kernel
theorem d_He_readLatest_2 : decode prog_4_method_5_code 2 = .ok (.putfield 102, 3) := by decide +kernel
theorem d_He_readLatest_5 : decode prog_4_method_5_code 5 = .ok (.aload_n 0, 1) := by decide +kernel
theorem d_He_readLatest_6 : decode prog_4_method_5_code 6 = .ok (.iconst 0, 1) := by decide +kernel
theorem d_He_readLatest_7 : decode prog_4_method_5_code 7 = .ok (.putfield 105, 3) := by decide +kernel
theorem d_He_readLatest_10 : decode prog_4_method_5_code 10 = .ok (.aload_n 0, 1) := by decide +kernel
theorem d_He_readLatest_11 : decode prog_4_method_5_code 11 = .ok (.iconst 0, 1) := by decide +kernel
theorem d_He_readLatest_12 : decode prog_4_method_5_code 12 = .ok (.putfield 108, 3) := by decide +kernel
theorem d_He_readLatest_15 : decode prog_4_method_5_code 15 = .ok (.iconst 0, 1) := by decide +kernel
theorem d_He_readLatest_16 : decode prog_4_method_5_code 16 = .ok (.istore_n 1, 1) := by decide +kernel
theorem d_He_readLatest_17 : decode prog_4_method_5_code 17 = .ok (.iload_n 1, 1) := by decide +kernel
theorem d_He_readLatest_18 : decode prog_4_method_5_code 18 = .ok (.aload_n 0, 1) := by decide +kernel
theorem d_He_readLatest_19 : decode prog_4_method_5_code 19 = .ok (.getfield 88, 3) := by decide +kernel
theorem d_He_readLatest_22 : decode prog_4_method_5_code 22 = .ok (.if_icmp .ge 74, 3) := by decide +kernel
theorem d_He_readLatest_25 : decode prog_4_method_5_code 25 = .ok (.aload_n 0, 1) := by decide +kernel
theorem d_He_readLatest_26 : decode prog_4_method_5_code 26 = .ok (.getfield 28, 3) := by decide +kernel
theorem d_He_readLatest_29 : decode prog_4_method_5_code 29 = .ok (.aload_n 0, 1) := by decide +kernel
theorem d_He_readLatest_30 : decode prog_4_method_5_code 30 = .ok (.getfield 20, 3) := by decide +kernel
theorem d_He_readLatest_33 : decode prog_4_method_5_code 33 = .ok (.iload_n 1, 1) := by decide +kernel
theorem d_He_readLatest_34 : decode prog_4_method_5_code 34 = .ok (.iaload, 1) := by decide +kernel
theorem d_He_readLatest_35 : decode prog_4_method_5_code 35 = .ok (.invokevirtual 111, 3) := by decide +kernel
theorem d_He_readLatest_38 : decode prog_4_method_5_code 38 = .ok (.istore_n 2, 1) := by decide +kernel
theorem d_He_readLatest_39 : decode prog_4_method_5_code 39 = .ok (.aload_n 0, 1) := by decide +kernel
theorem d_He_readLatest_40 : decode prog_4_method_5_code 40 = .ok (.getfield 102, 3) := by decide +kernel
theorem d_He_readLatest_43 : decode prog_4_method_5_code 43 = .ok (.ifCond .lt 14, 3) := by decide +kernel
theorem d_He_readLatest_46 : decode prog_4_method_5_code 46 = .ok (.iload_n 2, 1) := by decide +kernel
theorem d_He_readLatest_47 : decode prog_4_method_5_code 47 = .ok (.aload_n 0, 1) := by decide +kernel
theorem d_He_readLatest_48 : decode prog_4_method_5_code 48 = .ok (.getfield 105, 3) := by decide +kernel
theorem d_He_readLatest_51 : decode prog_4_method_5_code 51 = .ok (.if_icmp .gt 6, 3) := by decide +kernel
theorem d_He_readLatest_54 : decode prog_4_method_5_code 54 = .ok (.goto 36, 3) := by decide +kernel
theorem d_He_readLatest_57 : decode prog_4_method_5_code 57 = .ok (.aload_n 0, 1) := by decide +kernel
theorem d_He_readLatest_58 : decode prog_4_method_5_code 58 = .ok (.aload_n 0, 1) := by decide +kernel
theorem d_He_readLatest_59 : decode prog_4_method_5_code 59 = .ok (.getfield 20, 3) := by decide +kernel
theorem d_He_readLatest_62 : decode prog_4_method_5_code 62 = .ok (.iload_n 1, 1) := by decide +kernel
theorem d_He_readLatest_63 : decode prog_4_method_5_code 63 = .ok (.iaload, 1) := by decide +kernel
theorem d_He_readLatest_64 : decode prog_4_method_5_code 64 = .ok (.putfield 102, 3) := by decide +kernel
theorem d_He_readLatest_67 : decode prog_4_method_5_code 67 = .ok (.aload_n 0, 1) := by decide +kernel
theorem d_He_readLatest_68 : decode prog_4_method_5_code 68 = .ok (.iload_n 2, 1) := by decide +kernel
theorem d_He_readLatest_69 : decode prog_4_method_5_code 69 = .ok (.putfield 105, 3) := by decide +kernel
theorem d_He_readLatest_72 : decode prog_4_method_5_code 72 = .ok (.aload_n 0, 1) := by decide +kernel
theorem d_He_readLatest_73 : decode prog_4_method_5_code 73 = .ok (.aload_n 0, 1) := by decide +kernel
theorem d_He_readLatest_74 : decode prog_4_method_5_code 74 = .ok (.getfield 28, 3) := by decide +kernel
theorem d_He_readLatest_77 : decode prog_4_method_5_code 77 = .ok (.aload_n 0, 1) := by decide +kernel
theorem d_He_readLatest_78 : decode prog_4_method_5_code 78 = .ok (.getfield 102, 3) := by decide +kernel
theorem d_He_readLatest_81 : decode prog_4_method_5_code 81 = .ok (.invokevirtual 114, 3) := by decide +kernel
theorem d_He_readLatest_84 : decode prog_4_method_5_code 84 = .ok (.invokestatic 94, 3) := by decide +kernel
theorem d_He_readLatest_87 : decode prog_4_method_5_code 87 = .ok (.putfield 108, 3) := by decide +kernel
theorem d_He_readLatest_90 : decode prog_4_method_5_code 90 = .ok (.iinc 1 1, 3) := by decide +kernel
theorem d_He_readLatest_93 : decode prog_4_method_5_code 93 = .ok (.goto (-76), 3) := by decide +kernel
theorem d_He_readLatest_96 : decode prog_4_method_5_code 96 = .ok (.return_, 1) := by decide +kernel
set_option maxHeartbeats 4000000 in
set_option maxRecDepth 100000 in
theorem K_He_readLatest_17 {F : FT} (hD : ∀ σ, va_D F.2.2.1 (GW F.2.1 σ)) (hm : F.2.2.2.2.2.2.2.2.2.2.2.2.2.2.1 = 3) (ok : OkF F prog_4_method_5_code "LastSeen$Hearing" ({ frames := 1, cells := 0, slots := 0, locals := 21 } : Room)) {Q : SS → Prop} (hQ : RetV F Q) {x1 : Int} {s : SS} (h : B_He_readLatest_17 Q (fun x1 s => AtS F 17 [(0, .ref (F.2.1.1 6)), (1, vI x1)] [] s) (fun x1 x2 s => AtS F 57 [(0, .ref (F.2.1.1 6)), (1, vI x1), (2, vI x2)] [] s) x1 s) : AtS F 17 [(0, .ref (F.2.1.1 6)), (1, vI x1)] [] s := by
  unfold B_He_readLatest_17 at h
  refine r_iload_n ok 1 d_He_readLatest_17 rfl rfl ?_
  refine r_aload_n ok 0 d_He_readLatest_18 rfl rfl ?_
  refine g_He_rootCount ok d_He_readLatest_19 ?_
  refine r_icmp_ge ok 96 d_He_readLatest_22 (by decide) h.1 h.2.1 (fun c => ?_) (fun c => ?_)
  · replace h := h.2.2.1 c
    exact hQ _ _ _ _ (ok_code ok) d_He_readLatest_96 h
  · replace h := h.2.2.2 c
    refine r_aload_n ok 0 d_He_readLatest_25 rfl rfl ?_
    refine g_He_words ok d_He_readLatest_26 ?_
    refine r_aload_n ok 0 d_He_readLatest_29 rfl rfl ?_
    refine g_He_roots ok d_He_readLatest_30 ?_
    refine r_iload_n ok 1 d_He_readLatest_33 rfl rfl ?_
    refine r_iald ok 35 d_He_readLatest_34 (by decide) rfl h.1 ?_
    replace h := h.2
    refine r_callVi (As := [vI (s.2 35 x1)]) (rest := []) ok 4 rfl rfl rfl wl_He_111 wi_y_Wo_lastOf ws_y_Wo_lastOf wn_Wo wc_y_Wo_lastOf (by decide) (by decide) hh_Wo_lastOf (Nat.le_of_ble_eq_true rfl) rfl d_He_readLatest_35 (L_Wo_lastOf F.1 F.2.1 F.2.2.1 hD h) (fun r5 s4 h => ?_)
    refine r_istore_n ok [(2, vI r5), (0, .ref (F.2.1.1 6)), (1, vI x1)] d_He_readLatest_38 rfl hm (by decide) rfl ?_
    refine r_aload_n ok 1 d_He_readLatest_39 rfl rfl ?_
    refine g_He_latest ok d_He_readLatest_40 ?_
    refine r_if_lt ok 57 d_He_readLatest_43 (by decide) h.1 (fun c => ?_) (fun c => ?_)
    · replace h := h.2.1 c
      exact r_sub [1, 2, 0] rfl h
    · replace h := h.2.2 c
      refine r_iload_n ok 0 d_He_readLatest_46 rfl rfl ?_
      refine r_aload_n ok 1 d_He_readLatest_47 rfl rfl ?_
      refine g_He_latestWatch ok d_He_readLatest_48 ?_
      refine r_icmp_gt ok 57 d_He_readLatest_51 (by decide) h.1 h.2.1 (fun c => ?_) (fun c => ?_)
      · replace h := h.2.2.1 c
        exact r_sub [1, 2, 0] rfl h
      · replace h := h.2.2.2 c
        refine r_goto ok 90 d_He_readLatest_54 (by decide) ?_
        refine r_iinc ok 2 (x1 + 1) [(1, vI (x1 + 1)), (2, vI r5), (0, .ref (F.2.1.1 6))] d_He_readLatest_90 rfl rfl hm (by decide) rfl ?_
        refine r_goto ok 17 d_He_readLatest_93 (by decide) ?_
        exact r_sub [2, 0] rfl h
set_option maxHeartbeats 4000000 in
set_option maxRecDepth 100000 in
theorem K_He_readLatest_57 {F : FT} (hD : ∀ σ, va_D F.2.2.1 (GW F.2.1 σ)) (hm : F.2.2.2.2.2.2.2.2.2.2.2.2.2.2.1 = 3) (ok : OkF F prog_4_method_5_code "LastSeen$Hearing" ({ frames := 1, cells := 0, slots := 0, locals := 21 } : Room)) {Q : SS → Prop} (hQ : RetV F Q) {x1 x2 : Int} {s : SS} (h : B_He_readLatest_57 Q (fun x1 s => AtS F 17 [(0, .ref (F.2.1.1 6)), (1, vI x1)] [] s) (fun x1 x2 s => AtS F 57 [(0, .ref (F.2.1.1 6)), (1, vI x1), (2, vI x2)] [] s) x1 x2 s) : AtS F 57 [(0, .ref (F.2.1.1 6)), (1, vI x1), (2, vI x2)] [] s := by
  unfold B_He_readLatest_57 at h
  refine r_aload_n ok 0 d_He_readLatest_57 rfl rfl ?_
  refine r_aload_n ok 0 d_He_readLatest_58 rfl rfl ?_
  refine g_He_roots ok d_He_readLatest_59 ?_
  refine r_iload_n ok 1 d_He_readLatest_62 rfl rfl ?_
  refine r_iald ok 35 d_He_readLatest_63 (by decide) rfl h.1 ?_
  replace h := h.2
  refine p_He_latest ok d_He_readLatest_64 ?_
  replace h := h _ rfl
  generalize sF s 13 (s.2 35 x1) = s6 at h ⊢
  refine r_aload_n ok 0 d_He_readLatest_67 rfl rfl ?_
  refine r_iload_n ok 2 d_He_readLatest_68 rfl rfl ?_
  refine p_He_latestWatch ok d_He_readLatest_69 ?_
  replace h := h _ rfl
  generalize sF s6 14 x2 = s7 at h ⊢
  refine r_aload_n ok 0 d_He_readLatest_72 rfl rfl ?_
  refine r_aload_n ok 0 d_He_readLatest_73 rfl rfl ?_
  refine g_He_words ok d_He_readLatest_74 ?_
  refine r_aload_n ok 0 d_He_readLatest_77 rfl rfl ?_
  refine g_He_latest ok d_He_readLatest_78 ?_
  refine r_callVi (As := [vI (s7.1 13)]) (rest := [.ref (F.2.1.1 6)]) ok 4 rfl rfl rfl wl_He_114 wi_y_Wo_placesOf ws_y_Wo_placesOf wn_Wo wc_y_Wo_placesOf (by decide) (by decide) hh_Wo_placesOf (Nat.le_of_ble_eq_true rfl) rfl d_He_readLatest_81 (L_Wo_placesOf F.1 F.2.1 F.2.2.1 hD h) (fun r9 s8 h => ?_)
  refine r_callSi (As := [vI r9]) (rest := [.ref (F.2.1.1 6)]) ok wl_He_94 wt_y_Jl_bitCount wn_Jl wc_y_Jl_bitCount (by decide) (by decide) hh_Jl_bitCount (Nat.le_of_ble_eq_true rfl) rfl d_He_readLatest_84 (L_Jl_bitCount F.1 F.2.1 F.2.2.1 hD h) (fun r11 s10 h => ?_)
  refine p_He_latestPlaces ok d_He_readLatest_87 ?_
  replace h := h _ rfl
  generalize sF s10 15 r11 = s12 at h ⊢
  refine r_iinc ok 1 (x1 + 1) [(1, vI (x1 + 1)), (0, .ref (F.2.1.1 6)), (2, vI x2)] d_He_readLatest_90 rfl rfl hm (by decide) rfl ?_
  refine r_goto ok 17 d_He_readLatest_93 (by decide) ?_
  exact r_sub [1, 0] rfl h
set_option maxHeartbeats 4000000 in
set_option maxRecDepth 100000 in
theorem K_He_readLatest_e {F : FT} (hD : ∀ σ, va_D F.2.2.1 (GW F.2.1 σ)) (hm : F.2.2.2.2.2.2.2.2.2.2.2.2.2.2.1 = 3) (ok : OkF F prog_4_method_5_code "LastSeen$Hearing" ({ frames := 1, cells := 0, slots := 0, locals := 21 } : Room)) {Q : SS → Prop} (hQ : RetV F Q) {s : SS} (h : B_He_readLatest_e Q (fun x1 s => AtS F 17 [(0, .ref (F.2.1.1 6)), (1, vI x1)] [] s) (fun x1 x2 s => AtS F 57 [(0, .ref (F.2.1.1 6)), (1, vI x1), (2, vI x2)] [] s)  s) : AtS F 0 [(0, .ref (F.2.1.1 6))] [] s := by
  unfold B_He_readLatest_e at h
  refine r_aload_n ok 0 d_He_readLatest_0 rfl rfl ?_
  refine r_iconst ok (-1) d_He_readLatest_1 rfl ?_
  refine p_He_latest ok d_He_readLatest_2 ?_
  replace h := h _ rfl
  generalize sF s 13 (-1) = s1 at h ⊢
  refine r_aload_n ok 0 d_He_readLatest_5 rfl rfl ?_
  refine r_iconst ok 0 d_He_readLatest_6 rfl ?_
  refine p_He_latestWatch ok d_He_readLatest_7 ?_
  replace h := h _ rfl
  generalize sF s1 14 0 = s2 at h ⊢
  refine r_aload_n ok 0 d_He_readLatest_10 rfl rfl ?_
  refine r_iconst ok 0 d_He_readLatest_11 rfl ?_
  refine p_He_latestPlaces ok d_He_readLatest_12 ?_
  replace h := h _ rfl
  generalize sF s2 15 0 = s3 at h ⊢
  refine r_iconst ok 0 d_He_readLatest_15 rfl ?_
  refine r_istore_n ok [(1, vI 0), (0, .ref (F.2.1.1 6))] d_He_readLatest_16 rfl hm (by decide) rfl ?_
  exact r_sub [1, 0] rfl h
theorem L_He_readLatest (l : Launch) (G : GE) (A : Nat → Prop) (hD : ∀ σ, va_D A (GW G σ)) {s : SS} {Q : SS → Prop} (h : Sp_He_readLatest  s Q) : Met l y_He_readLatest (Cond.code y_He_readLatest prog_4_method_5_code 3 (none) :: lw_ok) ({ frames := 1, cells := 0, slots := 0, locals := 21 } : Room) (va_Pc [.ref (G.1 6)] (gB G s)) (va_Qv (fun (s2 : SS) => Q s2) (fun s2 t => gB G s2 t) A) 0 0 A := by
  refine met_v hD (by decide) ⟨rfl, rfl⟩ (Nat.le_of_ble_eq_true rfl) (lv := [(0, .ref (G.1 6))]) rfl (fun F h1 h2 h3 hm ok hQ => ?_)
  subst h1 h2 h3
  have hDF := hD
  exact K_He_readLatest_e hDF hm ok hQ (h _ _ (fun _ _ hb => K_He_readLatest_17 hDF hm ok hQ hb) (fun _ _ _ hb => K_He_readLatest_57 hDF hm ok hQ hb))
theorem d_He_open_0 : decode prog_4_method_2_code 0 = .ok (.aload_n 0, 1) := by decide +kernel
theorem d_He_open_1 : decode prog_4_method_2_code 1 = .ok (.getfield 24, 3) := by decide +kernel
theorem d_He_open_4 : decode prog_4_method_2_code 4 = .ok (.iload_n 2, 1) := by decide +kernel
theorem d_He_open_5 : decode prog_4_method_2_code 5 = .ok (.invokevirtual 36, 3) := by decide +kernel
theorem d_He_open_8 : decode prog_4_method_2_code 8 = .ok (.aload_n 0, 1) := by decide +kernel
theorem d_He_open_9 : decode prog_4_method_2_code 9 = .ok (.getfield 28, 3) := by decide +kernel
theorem d_He_open_12 : decode prog_4_method_2_code 12 = .ok (.iload_n 2, 1) := by decide +kernel
theorem d_He_open_13 : decode prog_4_method_2_code 13 = .ok (.iload_n 3, 1) := by decide +kernel
theorem d_He_open_14 : decode prog_4_method_2_code 14 = .ok (.invokevirtual 42, 3) := by decide +kernel
theorem d_He_open_17 : decode prog_4_method_2_code 17 = .ok (.aload_n 0, 1) := by decide +kernel
theorem d_He_open_18 : decode prog_4_method_2_code 18 = .ok (.aload_n 0, 1) := by decide +kernel
theorem d_He_open_19 : decode prog_4_method_2_code 19 = .ok (.getfield 24, 3) := by decide +kernel
theorem d_He_open_22 : decode prog_4_method_2_code 22 = .ok (.iload_n 1, 1) := by decide +kernel
theorem d_He_open_23 : decode prog_4_method_2_code 23 = .ok (.invokevirtual 45, 3) := by decide +kernel
theorem d_He_open_26 : decode prog_4_method_2_code 26 = .ok (.putfield 49, 3) := by decide +kernel
theorem d_He_open_29 : decode prog_4_method_2_code 29 = .ok (.aload_n 0, 1) := by decide +kernel
theorem d_He_open_30 : decode prog_4_method_2_code 30 = .ok (.aload_n 0, 1) := by decide +kernel
theorem d_He_open_31 : decode prog_4_method_2_code 31 = .ok (.getfield 24, 3) := by decide +kernel
theorem d_He_open_34 : decode prog_4_method_2_code 34 = .ok (.aload_n 0, 1) := by decide +kernel
theorem d_He_open_35 : decode prog_4_method_2_code 35 = .ok (.getfield 49, 3) := by decide +kernel
theorem d_He_open_38 : decode prog_4_method_2_code 38 = .ok (.invokevirtual 53, 3) := by decide +kernel
theorem d_He_open_41 : decode prog_4_method_2_code 41 = .ok (.putfield 56, 3) := by decide +kernel
theorem d_He_open_44 : decode prog_4_method_2_code 44 = .ok (.aload_n 0, 1) := by decide +kernel
theorem d_He_open_45 : decode prog_4_method_2_code 45 = .ok (.invokevirtual 59, 3) := by decide +kernel
theorem d_He_open_48 : decode prog_4_method_2_code 48 = .ok (.aload_n 0, 1) := by decide +kernel
theorem d_He_open_49 : decode prog_4_method_2_code 49 = .ok (.invokevirtual 62, 3) := by decide +kernel
theorem d_He_open_52 : decode prog_4_method_2_code 52 = .ok (.aload_n 0, 1) := by decide +kernel
theorem d_He_open_53 : decode prog_4_method_2_code 53 = .ok (.invokevirtual 65, 3) := by decide +kernel
theorem d_He_open_56 : decode prog_4_method_2_code 56 = .ok (.return_, 1) := by decide +kernel
set_option maxHeartbeats 4000000 in
set_option maxRecDepth 100000 in
theorem K_He_open_e {F : FT} (hD : ∀ σ, va_D F.2.2.1 (GW F.2.1 σ)) (hm : F.2.2.2.2.2.2.2.2.2.2.2.2.2.2.1 = 4) (ok : OkF F prog_4_method_2_code "LastSeen$Hearing" ({ frames := 3, cells := 0, slots := 0, locals := 67 } : Room)) {Q : SS → Prop} (hQ : RetV F Q) {x1 x2 x3 : Int} {s : SS} (h : Sp_He_open x1 x2 x3 s Q) : AtS F 0 [(0, .ref (F.2.1.1 6)), (1, vI x1), (2, vI x2), (3, vI x3)] [] s := by
  unfold Sp_He_open at h
  refine r_aload_n ok 0 d_He_open_0 rfl rfl ?_
  refine g_He_names ok d_He_open_1 ?_
  refine r_iload_n ok 2 d_He_open_4 rfl rfl ?_
  refine r_callVv (As := [vI x2]) (rest := []) ok 3 rfl rfl rfl wl_He_36 wi_y_Na_readBy ws_y_Na_readBy wn_Na wc_y_Na_readBy (by decide) (by decide) hh_Na_readBy (Nat.le_of_ble_eq_true rfl) rfl d_He_open_5 (L_Na_readBy F.1 F.2.1 F.2.2.1 hD h) (fun s1 h => ?_)
  refine r_aload_n ok 0 d_He_open_8 rfl rfl ?_
  refine g_He_words ok d_He_open_9 ?_
  refine r_iload_n ok 2 d_He_open_12 rfl rfl ?_
  refine r_iload_n ok 3 d_He_open_13 rfl rfl ?_
  refine r_callVv (As := [vI x2, vI x3]) (rest := []) ok 4 rfl rfl rfl wl_He_42 wi_y_Wo_readBy ws_y_Wo_readBy wn_Wo wc_y_Wo_readBy (by decide) (by decide) hh_Wo_readBy (Nat.le_of_ble_eq_true rfl) rfl d_He_open_14 (L_Wo_readBy F.1 F.2.1 F.2.2.1 hD h) (fun s2 h => ?_)
  refine r_aload_n ok 0 d_He_open_17 rfl rfl ?_
  refine r_aload_n ok 0 d_He_open_18 rfl rfl ?_
  refine g_He_names ok d_He_open_19 ?_
  refine r_iload_n ok 1 d_He_open_22 rfl rfl ?_
  refine r_callVi (As := [vI x1]) (rest := [.ref (F.2.1.1 6)]) ok 3 rfl rfl rfl wl_He_45 wi_y_Na_leastOf ws_y_Na_leastOf wn_Na wc_y_Na_leastOf (by decide) (by decide) hh_Na_leastOf (Nat.le_of_ble_eq_true rfl) rfl d_He_open_23 (L_Na_leastOf F.1 F.2.1 F.2.2.1 hD h) (fun r4 s3 h => ?_)
  refine p_He_person ok d_He_open_26 ?_
  replace h := h _ rfl
  generalize sF s3 16 r4 = s5 at h ⊢
  refine r_aload_n ok 0 d_He_open_29 rfl rfl ?_
  refine r_aload_n ok 0 d_He_open_30 rfl rfl ?_
  refine g_He_names ok d_He_open_31 ?_
  refine r_aload_n ok 0 d_He_open_34 rfl rfl ?_
  refine g_He_person ok d_He_open_35 ?_
  refine r_callVi (As := [vI (s5.1 16)]) (rest := [.ref (F.2.1.1 6)]) ok 3 rfl rfl rfl wl_He_53 wi_y_Na_namesOf ws_y_Na_namesOf wn_Na wc_y_Na_namesOf (by decide) (by decide) hh_Na_namesOf (Nat.le_of_ble_eq_true rfl) rfl d_He_open_38 (L_Na_namesOf F.1 F.2.1 F.2.2.1 hD h) (fun r7 s6 h => ?_)
  refine p_He_nameCount ok d_He_open_41 ?_
  replace h := h _ rfl
  generalize sF s6 12 r7 = s8 at h ⊢
  refine r_aload_n ok 0 d_He_open_44 rfl rfl ?_
  refine r_callVv (As := []) (rest := []) ok 6 rfl rfl rfl wl_He_59 wi_y_He_readWords ws_y_He_readWords wn_He wc_y_He_readWords (by decide) (by decide) hh_He_readWords (Nat.le_of_ble_eq_true rfl) rfl d_He_open_45 (L_He_readWords F.1 F.2.1 F.2.2.1 hD h) (fun s9 h => ?_)
  refine r_aload_n ok 0 d_He_open_48 rfl rfl ?_
  refine r_callVv (As := []) (rest := []) ok 6 rfl rfl rfl wl_He_62 wi_y_He_readRoots ws_y_He_readRoots wn_He wc_y_He_readRoots (by decide) (by decide) hh_He_readRoots (Nat.le_of_ble_eq_true rfl) rfl d_He_open_49 (L_He_readRoots F.1 F.2.1 F.2.2.1 hD h) (fun s10 h => ?_)
  refine r_aload_n ok 0 d_He_open_52 rfl rfl ?_
  refine r_callVv (As := []) (rest := []) ok 6 rfl rfl rfl wl_He_65 wi_y_He_readLatest ws_y_He_readLatest wn_He wc_y_He_readLatest (by decide) (by decide) hh_He_readLatest (Nat.le_of_ble_eq_true rfl) rfl d_He_open_53 (L_He_readLatest F.1 F.2.1 F.2.2.1 hD h) (fun s11 h => ?_)
  exact hQ _ _ _ _ (ok_code ok) d_He_open_56 h
theorem L_He_open (l : Launch) (G : GE) (A : Nat → Prop) (hD : ∀ σ, va_D A (GW G σ)) {x1 x2 x3 : Int} {s : SS} {Q : SS → Prop} (h : Sp_He_open x1 x2 x3 s Q) : Met l y_He_open (Cond.code y_He_open prog_4_method_2_code 4 (none) :: lw_ok) ({ frames := 3, cells := 0, slots := 0, locals := 67 } : Room) (va_Pc [.ref (G.1 6), vI x1, vI x2, vI x3] (gB G s)) (va_Qv (fun (s2 : SS) => Q s2) (fun s2 t => gB G s2 t) A) 0 0 A := by
  refine met_v hD (by decide) ⟨rfl, rfl⟩ (Nat.le_of_ble_eq_true rfl) (lv := [(0, .ref (G.1 6)), (1, vI x1), (2, vI x2), (3, vI x3)]) rfl (fun F h1 h2 h3 hm ok hQ => ?_)
  subst h1 h2 h3
  have hDF := hD
  exact K_He_open_e hDF hm ok hQ h
theorem d_He_rootCount_0 : decode prog_4_method_6_code 0 = .ok (.aload_n 0, 1) := by decide +kernel
theorem d_He_rootCount_1 : decode prog_4_method_6_code 1 = .ok (.getfield 88, 3) := by decide +kernel
theorem d_He_rootCount_4 : decode prog_4_method_6_code 4 = .ok (.ireturn, 1) := by decide +kernel
set_option maxHeartbeats 4000000 in
set_option maxRecDepth 100000 in
theorem K_He_rootCount_e {F : FT} (hD : ∀ σ, va_D F.2.2.1 (GW F.2.1 σ)) (hm : F.2.2.2.2.2.2.2.2.2.2.2.2.2.2.1 = 1) (ok : OkF F prog_4_method_6_code "LastSeen$Hearing" ({ frames := 0, cells := 0, slots := 0, locals := 0 } : Room)) {Q : Int → SS → Prop} (hQ : RetI F Q) {s : SS} (h : Sp_He_rootCount  s Q) : AtS F 0 [(0, .ref (F.2.1.1 6))] [] s := by
  unfold Sp_He_rootCount at h
  refine r_aload_n ok 0 d_He_rootCount_0 rfl rfl ?_
  refine g_He_rootCount ok d_He_rootCount_1 ?_
  exact hQ _ _ _ _ _ (ok_code ok) d_He_rootCount_4 h
theorem L_He_rootCount (l : Launch) (G : GE) (A : Nat → Prop) (hD : ∀ σ, va_D A (GW G σ)) {s : SS} {Q : Int → SS → Prop} (h : Sp_He_rootCount  s Q) : Met l y_He_rootCount (Cond.code y_He_rootCount prog_4_method_6_code 1 (some .int) :: lw_ok) ({ frames := 0, cells := 0, slots := 0, locals := 0 } : Room) (va_Pc [.ref (G.1 6)] (gB G s)) (va_Qi (fun (r : Int32) (s2 : SS) => ∃ x : Int, r = iI x ∧ Q x s2) (fun s2 t => gB G s2 t) A) 0 0 A := by
  refine met_i hD (by decide) ⟨rfl, rfl⟩ (Nat.le_of_ble_eq_true rfl) (lv := [(0, .ref (G.1 6))]) rfl (fun F h1 h2 h3 hm ok hQ => ?_)
  subst h1 h2 h3
  have hDF := hD
  exact K_He_rootCount_e hDF hm ok hQ h
theorem d_He_rootAt_0 : decode prog_4_method_7_code 0 = .ok (.aload_n 0, 1) := by decide +kernel
theorem d_He_rootAt_1 : decode prog_4_method_7_code 1 = .ok (.getfield 20, 3) := by decide +kernel
theorem d_He_rootAt_4 : decode prog_4_method_7_code 4 = .ok (.iload_n 1, 1) := by decide +kernel
theorem d_He_rootAt_5 : decode prog_4_method_7_code 5 = .ok (.iaload, 1) := by decide +kernel
theorem d_He_rootAt_6 : decode prog_4_method_7_code 6 = .ok (.ireturn, 1) := by decide +kernel
set_option maxHeartbeats 4000000 in
set_option maxRecDepth 100000 in
theorem K_He_rootAt_e {F : FT} (hD : ∀ σ, va_D F.2.2.1 (GW F.2.1 σ)) (hm : F.2.2.2.2.2.2.2.2.2.2.2.2.2.2.1 = 2) (ok : OkF F prog_4_method_7_code "LastSeen$Hearing" ({ frames := 0, cells := 0, slots := 0, locals := 0 } : Room)) {Q : Int → SS → Prop} (hQ : RetI F Q) {x1 : Int} {s : SS} (h : Sp_He_rootAt x1 s Q) : AtS F 0 [(0, .ref (F.2.1.1 6)), (1, vI x1)] [] s := by
  unfold Sp_He_rootAt at h
  refine r_aload_n ok 0 d_He_rootAt_0 rfl rfl ?_
  refine g_He_roots ok d_He_rootAt_1 ?_
  refine r_iload_n ok 1 d_He_rootAt_4 rfl rfl ?_
  refine r_iald ok 35 d_He_rootAt_5 (by decide) rfl h.1 ?_
  replace h := h.2
  exact hQ _ _ _ _ _ (ok_code ok) d_He_rootAt_6 h
theorem L_He_rootAt (l : Launch) (G : GE) (A : Nat → Prop) (hD : ∀ σ, va_D A (GW G σ)) {x1 : Int} {s : SS} {Q : Int → SS → Prop} (h : Sp_He_rootAt x1 s Q) : Met l y_He_rootAt (Cond.code y_He_rootAt prog_4_method_7_code 2 (some .int) :: lw_ok) ({ frames := 0, cells := 0, slots := 0, locals := 0 } : Room) (va_Pc [.ref (G.1 6), vI x1] (gB G s)) (va_Qi (fun (r : Int32) (s2 : SS) => ∃ x : Int, r = iI x ∧ Q x s2) (fun s2 t => gB G s2 t) A) 0 0 A := by
  refine met_i hD (by decide) ⟨rfl, rfl⟩ (Nat.le_of_ble_eq_true rfl) (lv := [(0, .ref (G.1 6)), (1, vI x1)]) rfl (fun F h1 h2 h3 hm ok hQ => ?_)
  subst h1 h2 h3
  have hDF := hD
  exact K_He_rootAt_e hDF hm ok hQ h
theorem d_LS_root_0 : decode prog_1_method_15_code 0 = .ok (.aload_n 0, 1) := by decide +kernel
theorem d_LS_root_1 : decode prog_1_method_15_code 1 = .ok (.iload_n 2, 1) := by decide +kernel
theorem d_LS_root_2 : decode prog_1_method_15_code 2 = .ok (.invokevirtual 146, 3) := by decide +kernel
theorem d_LS_root_5 : decode prog_1_method_15_code 5 = .ok (.istore 4, 2) := by decide +kernel
theorem d_LS_root_7 : decode prog_1_method_15_code 7 = .ok (.aload_n 0, 1) := by decide +kernel
theorem d_LS_root_8 : decode prog_1_method_15_code 8 = .ok (.iload_n 1, 1) := by decide +kernel
theorem d_LS_root_9 : decode prog_1_method_15_code 9 = .ok (.iload 4, 2) := by decide +kernel
theorem d_LS_root_11 : decode prog_1_method_15_code 11 = .ok (.invokevirtual 149, 3) := by decide +kernel
theorem d_LS_root_14 : decode prog_1_method_15_code 14 = .ok (.ifCond .eq 8, 3) := by decide +kernel
theorem d_LS_root_17 : decode prog_1_method_15_code 17 = .ok (.iload_n 3, 1) := by decide +kernel
theorem d_LS_root_18 : decode prog_1_method_15_code 18 = .ok (.iconst (-1), 1) := by decide +kernel
theorem d_LS_root_19 : decode prog_1_method_15_code 19 = .ok (.if_icmp .ge 5, 3) := by decide +kernel
theorem d_LS_root_22 : decode prog_1_method_15_code 22 = .ok (.iconst (-1), 1) := by decide +kernel
theorem d_LS_root_23 : decode prog_1_method_15_code 23 = .ok (.ireturn, 1) := by decide +kernel
theorem d_LS_root_24 : decode prog_1_method_15_code 24 = .ok (.aload_n 0, 1) := by decide +kernel
theorem d_LS_root_25 : decode prog_1_method_15_code 25 = .ok (.getfield 47, 3) := by decide +kernel
theorem d_LS_root_28 : decode prog_1_method_15_code 28 = .ok (.iload_n 1, 1) := by decide +kernel
theorem d_LS_root_29 : decode prog_1_method_15_code 29 = .ok (.iload 4, 2) := by decide +kernel
theorem d_LS_root_31 : decode prog_1_method_15_code 31 = .ok (.iload 4, 2) := by decide +kernel
theorem d_LS_root_33 : decode prog_1_method_15_code 33 = .ok (.invokevirtual 219, 3) := by decide +kernel
theorem d_LS_root_36 : decode prog_1_method_15_code 36 = .ok (.iload_n 3, 1) := by decide +kernel
theorem d_LS_root_37 : decode prog_1_method_15_code 37 = .ok (.iconst (-1), 1) := by decide +kernel
theorem d_LS_root_38 : decode prog_1_method_15_code 38 = .ok (.if_icmp .ne 11, 3) := by decide +kernel
theorem d_LS_root_41 : decode prog_1_method_15_code 41 = .ok (.aload_n 0, 1) := by decide +kernel
theorem d_LS_root_42 : decode prog_1_method_15_code 42 = .ok (.getfield 47, 3) := by decide +kernel
theorem d_LS_root_45 : decode prog_1_method_15_code 45 = .ok (.invokevirtual 223, 3) := by decide +kernel
theorem d_LS_root_48 : decode prog_1_method_15_code 48 = .ok (.ireturn, 1) := by decide +kernel
theorem d_LS_root_49 : decode prog_1_method_15_code 49 = .ok (.iload_n 3, 1) := by decide +kernel
theorem d_LS_root_50 : decode prog_1_method_15_code 50 = .ok (.aload_n 0, 1) := by decide +kernel
theorem d_LS_root_51 : decode prog_1_method_15_code 51 = .ok (.getfield 47, 3) := by decide +kernel
theorem d_LS_root_54 : decode prog_1_method_15_code 54 = .ok (.invokevirtual 223, 3) := by decide +kernel
theorem d_LS_root_57 : decode prog_1_method_15_code 57 = .ok (.if_icmp .lt 5, 3) := by decide +kernel
theorem d_LS_root_60 : decode prog_1_method_15_code 60 = .ok (.iconst (-1), 1) := by decide +kernel
theorem d_LS_root_61 : decode prog_1_method_15_code 61 = .ok (.ireturn, 1) := by decide +kernel
theorem d_LS_root_62 : decode prog_1_method_15_code 62 = .ok (.aload_n 0, 1) := by decide +kernel
theorem d_LS_root_63 : decode prog_1_method_15_code 63 = .ok (.getfield 47, 3) := by decide +kernel
theorem d_LS_root_66 : decode prog_1_method_15_code 66 = .ok (.iload_n 3, 1) := by decide +kernel
theorem d_LS_root_67 : decode prog_1_method_15_code 67 = .ok (.invokevirtual 226, 3) := by decide +kernel
theorem d_LS_root_70 : decode prog_1_method_15_code 70 = .ok (.ireturn, 1) := by decide +kernel
set_option maxHeartbeats 4000000 in
set_option maxRecDepth 100000 in
theorem K_LS_root_e {F : FT} (hD : ∀ σ, va_D F.2.2.1 (GW F.2.1 σ)) (hm : F.2.2.2.2.2.2.2.2.2.2.2.2.2.2.1 = 5) (ok : OkF F prog_1_method_15_code "LastSeen" ({ frames := 4, cells := 0, slots := 0, locals := 90 } : Room)) {Q : Int → SS → Prop} (hQ : RetI F Q) {x1 x2 x3 : Int} {s : SS} (h : Sp_LS_root x1 x2 x3 s Q) : AtS F 0 [(0, .ref (F.2.1.1 0)), (1, vI x1), (2, vI x2), (3, vI x3)] [] s := by
  unfold Sp_LS_root at h
  refine r_aload_n ok 0 d_LS_root_0 rfl rfl ?_
  refine r_iload_n ok 2 d_LS_root_1 rfl rfl ?_
  refine r_callVi (As := [vI x2]) (rest := []) ok 0 rfl rfl rfl wl_LS_146 wi_y_LS_upTo ws_y_LS_upTo wn_LS wc_y_LS_upTo (by decide) (by decide) hh_LS_upTo (Nat.le_of_ble_eq_true rfl) rfl d_LS_root_2 (L_LS_upTo F.1 F.2.1 F.2.2.1 hD h) (fun r2 s1 h => ?_)
  refine r_istore ok [(4, vI r2), (0, .ref (F.2.1.1 0)), (1, vI x1), (2, vI x2), (3, vI x3)] d_LS_root_5 hm (by decide) rfl ?_
  refine r_aload_n ok 1 d_LS_root_7 rfl rfl ?_
  refine r_iload_n ok 2 d_LS_root_8 rfl rfl ?_
  refine r_iload ok 0 d_LS_root_9 rfl ?_
  refine r_callVi (As := [vI x1, vI r2]) (rest := []) ok 0 rfl rfl rfl wl_LS_149 wi_y_LS_isNameBy ws_y_LS_isNameBy wn_LS wc_y_LS_isNameBy (by decide) (by decide) hh_LS_isNameBy (Nat.le_of_ble_eq_true rfl) rfl d_LS_root_11 (L_LS_isNameBy F.1 F.2.1 F.2.2.1 hD h) (fun r4 s3 h => ?_)
  refine r_if_eq ok 22 d_LS_root_14 (by decide) h.1 (fun c => ?_) (fun c => ?_)
  · replace h := h.2.1 c
    refine r_iconst ok (-1) d_LS_root_22 rfl ?_
    exact hQ _ _ _ _ _ (ok_code ok) d_LS_root_23 h
  · replace h := h.2.2 c
    refine r_iload_n ok 4 d_LS_root_17 rfl rfl ?_
    refine r_iconst ok (-1) d_LS_root_18 rfl ?_
    refine r_icmp_ge ok 24 d_LS_root_19 (by decide) h.1 (by decide) (fun c => ?_) (fun c => ?_)
    · replace h := h.2.1 c
      refine r_aload_n ok 1 d_LS_root_24 rfl rfl ?_
      refine g_LS_hearing ok d_LS_root_25 ?_
      refine r_iload_n ok 2 d_LS_root_28 rfl rfl ?_
      refine r_iload ok 0 d_LS_root_29 rfl ?_
      refine r_iload ok 0 d_LS_root_31 rfl ?_
      refine r_callVv (As := [vI x1, vI r2, vI r2]) (rest := []) ok 6 rfl rfl rfl wl_LS_219 wi_y_He_open ws_y_He_open wn_He wc_y_He_open (by decide) (by decide) hh_He_open (Nat.le_of_ble_eq_true rfl) rfl d_LS_root_33 (L_He_open F.1 F.2.1 F.2.2.1 hD h) (fun s5 h => ?_)
      refine r_iload_n ok 4 d_LS_root_36 rfl rfl ?_
      refine r_iconst ok (-1) d_LS_root_37 rfl ?_
      refine r_icmp_ne ok 49 d_LS_root_38 (by decide) h.1 (by decide) (fun c => ?_) (fun c => ?_)
      · replace h := h.2.1 c
        refine r_iload_n ok 4 d_LS_root_49 rfl rfl ?_
        refine r_aload_n ok 1 d_LS_root_50 rfl rfl ?_
        refine g_LS_hearing ok d_LS_root_51 ?_
        refine r_callVi (As := []) (rest := [vI x3]) ok 6 rfl rfl rfl wl_LS_223 wi_y_He_rootCount ws_y_He_rootCount wn_He wc_y_He_rootCount (by decide) (by decide) hh_He_rootCount (Nat.le_of_ble_eq_true rfl) rfl d_LS_root_54 (L_He_rootCount F.1 F.2.1 F.2.2.1 hD h) (fun r7 s6 h => ?_)
        refine r_icmp_lt ok 62 d_LS_root_57 (by decide) h.1 h.2.1 (fun c => ?_) (fun c => ?_)
        · replace h := h.2.2.1 c
          refine r_aload_n ok 1 d_LS_root_62 rfl rfl ?_
          refine g_LS_hearing ok d_LS_root_63 ?_
          refine r_iload_n ok 4 d_LS_root_66 rfl rfl ?_
          refine r_callVi (As := [vI x3]) (rest := []) ok 6 rfl rfl rfl wl_LS_226 wi_y_He_rootAt ws_y_He_rootAt wn_He wc_y_He_rootAt (by decide) (by decide) hh_He_rootAt (Nat.le_of_ble_eq_true rfl) rfl d_LS_root_67 (L_He_rootAt F.1 F.2.1 F.2.2.1 hD h) (fun r9 s8 h => ?_)
          exact hQ _ _ _ _ _ (ok_code ok) d_LS_root_70 h
        · replace h := h.2.2.2 c
          refine r_iconst ok (-1) d_LS_root_60 rfl ?_
          exact hQ _ _ _ _ _ (ok_code ok) d_LS_root_61 h
      · replace h := h.2.2 c
        refine r_aload_n ok 1 d_LS_root_41 rfl rfl ?_
        refine g_LS_hearing ok d_LS_root_42 ?_
        refine r_callVi (As := []) (rest := []) ok 6 rfl rfl rfl wl_LS_223 wi_y_He_rootCount ws_y_He_rootCount wn_He wc_y_He_rootCount (by decide) (by decide) hh_He_rootCount (Nat.le_of_ble_eq_true rfl) rfl d_LS_root_45 (L_He_rootCount F.1 F.2.1 F.2.2.1 hD h) (fun r11 s10 h => ?_)
        exact hQ _ _ _ _ _ (ok_code ok) d_LS_root_48 h
    · replace h := h.2.2 c
      refine r_iconst ok (-1) d_LS_root_22 rfl ?_
      exact hQ _ _ _ _ _ (ok_code ok) d_LS_root_23 h
theorem L_LS_root (l : Launch) (G : GE) (A : Nat → Prop) (hD : ∀ σ, va_D A (GW G σ)) {x1 x2 x3 : Int} {s : SS} {Q : Int → SS → Prop} (h : Sp_LS_root x1 x2 x3 s Q) : Met l y_LS_root (Cond.code y_LS_root prog_1_method_15_code 5 (some .int) :: lw_ok) ({ frames := 4, cells := 0, slots := 0, locals := 90 } : Room) (va_Pc [.ref (G.1 0), vI x1, vI x2, vI x3] (gB G s)) (va_Qi (fun (r : Int32) (s2 : SS) => ∃ x : Int, r = iI x ∧ Q x s2) (fun s2 t => gB G s2 t) A) 0 0 A := by
  refine met_i hD (by decide) ⟨rfl, rfl⟩ (Nat.le_of_ble_eq_true rfl) (lv := [(0, .ref (G.1 0)), (1, vI x1), (2, vI x2), (3, vI x3)]) rfl (fun F h1 h2 h3 hm ok hQ => ?_)
  subst h1 h2 h3
  have hDF := hD
  exact K_LS_root_e hDF hm ok hQ h
theorem d_He_witnesses_0 : decode prog_4_method_8_code 0 = .ok (.aload_n 0, 1) := by decide +kernel
theorem d_He_witnesses_1 : decode prog_4_method_8_code 1 = .ok (.getfield 99, 3) := by decide +kernel
theorem d_He_witnesses_4 : decode prog_4_method_8_code 4 = .ok (.ireturn, 1) := by decide +kernel
set_option maxHeartbeats 4000000 in
set_option maxRecDepth 100000 in
theorem K_He_witnesses_e {F : FT} (hD : ∀ σ, va_D F.2.2.1 (GW F.2.1 σ)) (hm : F.2.2.2.2.2.2.2.2.2.2.2.2.2.2.1 = 1) (ok : OkF F prog_4_method_8_code "LastSeen$Hearing" ({ frames := 0, cells := 0, slots := 0, locals := 0 } : Room)) {Q : Int → SS → Prop} (hQ : RetI F Q) {s : SS} (h : Sp_He_witnesses  s Q) : AtS F 0 [(0, .ref (F.2.1.1 6))] [] s := by
  unfold Sp_He_witnesses at h
  refine r_aload_n ok 0 d_He_witnesses_0 rfl rfl ?_
  refine g_He_witnessCount ok d_He_witnesses_1 ?_
  exact hQ _ _ _ _ _ (ok_code ok) d_He_witnesses_4 h
theorem L_He_witnesses (l : Launch) (G : GE) (A : Nat → Prop) (hD : ∀ σ, va_D A (GW G σ)) {s : SS} {Q : Int → SS → Prop} (h : Sp_He_witnesses  s Q) : Met l y_He_witnesses (Cond.code y_He_witnesses prog_4_method_8_code 1 (some .int) :: lw_ok) ({ frames := 0, cells := 0, slots := 0, locals := 0 } : Room) (va_Pc [.ref (G.1 6)] (gB G s)) (va_Qi (fun (r : Int32) (s2 : SS) => ∃ x : Int, r = iI x ∧ Q x s2) (fun s2 t => gB G s2 t) A) 0 0 A := by
  refine met_i hD (by decide) ⟨rfl, rfl⟩ (Nat.le_of_ble_eq_true rfl) (lv := [(0, .ref (G.1 6))]) rfl (fun F h1 h2 h3 hm ok hQ => ?_)
  subst h1 h2 h3
  have hDF := hD
  exact K_He_witnesses_e hDF hm ok hQ h
theorem d_LS_eyes_0 : decode prog_1_method_16_code 0 = .ok (.aload_n 0, 1) := by decide +kernel
theorem d_LS_eyes_1 : decode prog_1_method_16_code 1 = .ok (.iload_n 2, 1) := by decide +kernel
theorem d_LS_eyes_2 : decode prog_1_method_16_code 2 = .ok (.invokevirtual 146, 3) := by decide +kernel
theorem d_LS_eyes_5 : decode prog_1_method_16_code 5 = .ok (.istore_n 3, 1) := by decide +kernel
theorem d_LS_eyes_6 : decode prog_1_method_16_code 6 = .ok (.aload_n 0, 1) := by decide +kernel
theorem d_LS_eyes_7 : decode prog_1_method_16_code 7 = .ok (.iload_n 1, 1) := by decide +kernel
theorem d_LS_eyes_8 : decode prog_1_method_16_code 8 = .ok (.iload_n 3, 1) := by decide +kernel
theorem d_LS_eyes_9 : decode prog_1_method_16_code 9 = .ok (.invokevirtual 149, 3) := by decide +kernel
theorem d_LS_eyes_12 : decode prog_1_method_16_code 12 = .ok (.ifCond .ne 5, 3) := by decide +kernel
theorem d_LS_eyes_15 : decode prog_1_method_16_code 15 = .ok (.iconst (-1), 1) := by decide +kernel
theorem d_LS_eyes_16 : decode prog_1_method_16_code 16 = .ok (.ireturn, 1) := by decide +kernel
theorem d_LS_eyes_17 : decode prog_1_method_16_code 17 = .ok (.aload_n 0, 1) := by decide +kernel
theorem d_LS_eyes_18 : decode prog_1_method_16_code 18 = .ok (.getfield 47, 3) := by decide +kernel
theorem d_LS_eyes_21 : decode prog_1_method_16_code 21 = .ok (.iload_n 1, 1) := by decide +kernel
theorem d_LS_eyes_22 : decode prog_1_method_16_code 22 = .ok (.iload_n 3, 1) := by decide +kernel
theorem d_LS_eyes_23 : decode prog_1_method_16_code 23 = .ok (.iload_n 3, 1) := by decide +kernel
theorem d_LS_eyes_24 : decode prog_1_method_16_code 24 = .ok (.invokevirtual 219, 3) := by decide +kernel
theorem d_LS_eyes_27 : decode prog_1_method_16_code 27 = .ok (.aload_n 0, 1) := by decide +kernel
theorem d_LS_eyes_28 : decode prog_1_method_16_code 28 = .ok (.getfield 47, 3) := by decide +kernel
theorem d_LS_eyes_31 : decode prog_1_method_16_code 31 = .ok (.invokevirtual 229, 3) := by decide +kernel
theorem d_LS_eyes_34 : decode prog_1_method_16_code 34 = .ok (.ireturn, 1) := by decide +kernel
set_option maxHeartbeats 4000000 in
set_option maxRecDepth 100000 in
theorem K_LS_eyes_e {F : FT} (hD : ∀ σ, va_D F.2.2.1 (GW F.2.1 σ)) (hm : F.2.2.2.2.2.2.2.2.2.2.2.2.2.2.1 = 4) (ok : OkF F prog_1_method_16_code "LastSeen" ({ frames := 4, cells := 0, slots := 0, locals := 90 } : Room)) {Q : Int → SS → Prop} (hQ : RetI F Q) {x1 x2 : Int} {s : SS} (h : Sp_LS_eyes x1 x2 s Q) : AtS F 0 [(0, .ref (F.2.1.1 0)), (1, vI x1), (2, vI x2)] [] s := by
  unfold Sp_LS_eyes at h
  refine r_aload_n ok 0 d_LS_eyes_0 rfl rfl ?_
  refine r_iload_n ok 2 d_LS_eyes_1 rfl rfl ?_
  refine r_callVi (As := [vI x2]) (rest := []) ok 0 rfl rfl rfl wl_LS_146 wi_y_LS_upTo ws_y_LS_upTo wn_LS wc_y_LS_upTo (by decide) (by decide) hh_LS_upTo (Nat.le_of_ble_eq_true rfl) rfl d_LS_eyes_2 (L_LS_upTo F.1 F.2.1 F.2.2.1 hD h) (fun r2 s1 h => ?_)
  refine r_istore_n ok [(3, vI r2), (0, .ref (F.2.1.1 0)), (1, vI x1), (2, vI x2)] d_LS_eyes_5 rfl hm (by decide) rfl ?_
  refine r_aload_n ok 1 d_LS_eyes_6 rfl rfl ?_
  refine r_iload_n ok 2 d_LS_eyes_7 rfl rfl ?_
  refine r_iload_n ok 0 d_LS_eyes_8 rfl rfl ?_
  refine r_callVi (As := [vI x1, vI r2]) (rest := []) ok 0 rfl rfl rfl wl_LS_149 wi_y_LS_isNameBy ws_y_LS_isNameBy wn_LS wc_y_LS_isNameBy (by decide) (by decide) hh_LS_isNameBy (Nat.le_of_ble_eq_true rfl) rfl d_LS_eyes_9 (L_LS_isNameBy F.1 F.2.1 F.2.2.1 hD h) (fun r4 s3 h => ?_)
  refine r_if_ne ok 17 d_LS_eyes_12 (by decide) h.1 (fun c => ?_) (fun c => ?_)
  · replace h := h.2.1 c
    refine r_aload_n ok 1 d_LS_eyes_17 rfl rfl ?_
    refine g_LS_hearing ok d_LS_eyes_18 ?_
    refine r_iload_n ok 2 d_LS_eyes_21 rfl rfl ?_
    refine r_iload_n ok 0 d_LS_eyes_22 rfl rfl ?_
    refine r_iload_n ok 0 d_LS_eyes_23 rfl rfl ?_
    refine r_callVv (As := [vI x1, vI r2, vI r2]) (rest := []) ok 6 rfl rfl rfl wl_LS_219 wi_y_He_open ws_y_He_open wn_He wc_y_He_open (by decide) (by decide) hh_He_open (Nat.le_of_ble_eq_true rfl) rfl d_LS_eyes_24 (L_He_open F.1 F.2.1 F.2.2.1 hD h) (fun s5 h => ?_)
    refine r_aload_n ok 1 d_LS_eyes_27 rfl rfl ?_
    refine g_LS_hearing ok d_LS_eyes_28 ?_
    refine r_callVi (As := []) (rest := []) ok 6 rfl rfl rfl wl_LS_229 wi_y_He_witnesses ws_y_He_witnesses wn_He wc_y_He_witnesses (by decide) (by decide) hh_He_witnesses (Nat.le_of_ble_eq_true rfl) rfl d_LS_eyes_31 (L_He_witnesses F.1 F.2.1 F.2.2.1 hD h) (fun r7 s6 h => ?_)
    exact hQ _ _ _ _ _ (ok_code ok) d_LS_eyes_34 h
  · replace h := h.2.2 c
    refine r_iconst ok (-1) d_LS_eyes_15 rfl ?_
    exact hQ _ _ _ _ _ (ok_code ok) d_LS_eyes_16 h
theorem L_LS_eyes (l : Launch) (G : GE) (A : Nat → Prop) (hD : ∀ σ, va_D A (GW G σ)) {x1 x2 : Int} {s : SS} {Q : Int → SS → Prop} (h : Sp_LS_eyes x1 x2 s Q) : Met l y_LS_eyes (Cond.code y_LS_eyes prog_1_method_16_code 4 (some .int) :: lw_ok) ({ frames := 4, cells := 0, slots := 0, locals := 90 } : Room) (va_Pc [.ref (G.1 0), vI x1, vI x2] (gB G s)) (va_Qi (fun (r : Int32) (s2 : SS) => ∃ x : Int, r = iI x ∧ Q x s2) (fun s2 t => gB G s2 t) A) 0 0 A := by
  refine met_i hD (by decide) ⟨rfl, rfl⟩ (Nat.le_of_ble_eq_true rfl) (lv := [(0, .ref (G.1 0)), (1, vI x1), (2, vI x2)]) rfl (fun F h1 h2 h3 hm ok hQ => ?_)
  subst h1 h2 h3
  have hDF := hD
  exact K_LS_eyes_e hDF hm ok hQ h
theorem d_Wa_empty_0 : decode prog_9_method_2_code 0 = .ok (.aload_n 0, 1) := by decide +kernel
theorem d_Wa_empty_1 : decode prog_9_method_2_code 1 = .ok (.iconst 0, 1) := by decide +kernel
theorem d_Wa_empty_2 : decode prog_9_method_2_code 2 = .ok (.putfield 31, 3) := by decide +kernel
theorem d_Wa_empty_5 : decode prog_9_method_2_code 5 = .ok (.return_, 1) := by decide +kernel
set_option maxHeartbeats 4000000 in
set_option maxRecDepth 100000 in
theorem K_Wa_empty_e {F : FT} (hD : ∀ σ, va_D F.2.2.1 (GW F.2.1 σ)) (hm : F.2.2.2.2.2.2.2.2.2.2.2.2.2.2.1 = 1) (ok : OkF F prog_9_method_2_code "LastSeen$Walk" ({ frames := 0, cells := 0, slots := 0, locals := 0 } : Room)) {Q : SS → Prop} (hQ : RetV F Q) {s : SS} (h : Sp_Wa_empty  s Q) : AtS F 0 [(0, .ref (F.2.1.1 5))] [] s := by
  unfold Sp_Wa_empty at h
  refine r_aload_n ok 0 d_Wa_empty_0 rfl rfl ?_
  refine r_iconst ok 0 d_Wa_empty_1 rfl ?_
  refine p_Wa_size ok d_Wa_empty_2 ?_
  replace h := h _ rfl
  generalize sF s 8 0 = s1 at h ⊢
  exact hQ _ _ _ _ (ok_code ok) d_Wa_empty_5 h
theorem L_Wa_empty (l : Launch) (G : GE) (A : Nat → Prop) (hD : ∀ σ, va_D A (GW G σ)) {s : SS} {Q : SS → Prop} (h : Sp_Wa_empty  s Q) : Met l y_Wa_empty (Cond.code y_Wa_empty prog_9_method_2_code 1 (none) :: lw_ok) ({ frames := 0, cells := 0, slots := 0, locals := 0 } : Room) (va_Pc [.ref (G.1 5)] (gB G s)) (va_Qv (fun (s2 : SS) => Q s2) (fun s2 t => gB G s2 t) A) 0 0 A := by
  refine met_v hD (by decide) ⟨rfl, rfl⟩ (Nat.le_of_ble_eq_true rfl) (lv := [(0, .ref (G.1 5))]) rfl (fun F h1 h2 h3 hm ok hQ => ?_)
  subst h1 h2 h3
  have hDF := hD
  exact K_Wa_empty_e hDF hm ok hQ h
theorem d_Wo_firstOf_0 : decode prog_10_method_12_code 0 = .ok (.aload_n 0, 1) := by decide +kernel
theorem d_Wo_firstOf_1 : decode prog_10_method_12_code 1 = .ok (.getfield 21, 3) := by decide +kernel
theorem d_Wo_firstOf_4 : decode prog_10_method_12_code 4 = .ok (.iload_n 1, 1) := by decide +kernel
theorem d_Wo_firstOf_5 : decode prog_10_method_12_code 5 = .ok (.iaload, 1) := by decide +kernel
theorem d_Wo_firstOf_6 : decode prog_10_method_12_code 6 = .ok (.ireturn, 1) := by decide +kernel
set_option maxHeartbeats 4000000 in
set_option maxRecDepth 100000 in
theorem K_Wo_firstOf_e {F : FT} (hD : ∀ σ, va_D F.2.2.1 (GW F.2.1 σ)) (hm : F.2.2.2.2.2.2.2.2.2.2.2.2.2.2.1 = 2) (ok : OkF F prog_10_method_12_code "LastSeen$Words" ({ frames := 0, cells := 0, slots := 0, locals := 0 } : Room)) {Q : Int → SS → Prop} (hQ : RetI F Q) {x1 : Int} {s : SS} (h : Sp_Wo_firstOf x1 s Q) : AtS F 0 [(0, .ref (F.2.1.1 4)), (1, vI x1)] [] s := by
  unfold Sp_Wo_firstOf at h
  refine r_aload_n ok 0 d_Wo_firstOf_0 rfl rfl ?_
  refine g_Wo_first ok d_Wo_firstOf_1 ?_
  refine r_iload_n ok 1 d_Wo_firstOf_4 rfl rfl ?_
  refine r_iald ok 21 d_Wo_firstOf_5 (by decide) rfl h.1 ?_
  replace h := h.2
  exact hQ _ _ _ _ _ (ok_code ok) d_Wo_firstOf_6 h
theorem L_Wo_firstOf (l : Launch) (G : GE) (A : Nat → Prop) (hD : ∀ σ, va_D A (GW G σ)) {x1 : Int} {s : SS} {Q : Int → SS → Prop} (h : Sp_Wo_firstOf x1 s Q) : Met l y_Wo_firstOf (Cond.code y_Wo_firstOf prog_10_method_12_code 2 (some .int) :: lw_ok) ({ frames := 0, cells := 0, slots := 0, locals := 0 } : Room) (va_Pc [.ref (G.1 4), vI x1] (gB G s)) (va_Qi (fun (r : Int32) (s2 : SS) => ∃ x : Int, r = iI x ∧ Q x s2) (fun s2 t => gB G s2 t) A) 0 0 A := by
  refine met_i hD (by decide) ⟨rfl, rfl⟩ (Nat.le_of_ble_eq_true rfl) (lv := [(0, .ref (G.1 4)), (1, vI x1)]) rfl (fun F h1 h2 h3 hm ok hQ => ?_)
  subst h1 h2 h3
  have hDF := hD
  exact K_Wo_firstOf_e hDF hm ok hQ h
theorem d_Wa_add_0 : decode prog_9_method_3_code 0 = .ok (.aload_n 0, 1) := by decide +kernel
theorem d_Wa_add_1 : decode prog_9_method_3_code 1 = .ok (.getfield 11, 3) := by decide +kernel
theorem d_Wa_add_4 : decode prog_9_method_3_code 4 = .ok (.aload_n 0, 1) := by decide +kernel
theorem d_Wa_add_5 : decode prog_9_method_3_code 5 = .ok (.getfield 31, 3) := by decide +kernel
theorem d_Wa_add_8 : decode prog_9_method_3_code 8 = .ok (.iload_n 1, 1) := by decide +kernel
theorem d_Wa_add_9 : decode prog_9_method_3_code 9 = .ok (.iastore, 1) := by decide +kernel
theorem d_Wa_add_10 : decode prog_9_method_3_code 10 = .ok (.aload_n 0, 1) := by decide +kernel
theorem d_Wa_add_11 : decode prog_9_method_3_code 11 = .ok (.getfield 15, 3) := by decide +kernel
theorem d_Wa_add_14 : decode prog_9_method_3_code 14 = .ok (.aload_n 0, 1) := by decide +kernel
theorem d_Wa_add_15 : decode prog_9_method_3_code 15 = .ok (.getfield 31, 3) := by decide +kernel
theorem d_Wa_add_18 : decode prog_9_method_3_code 18 = .ok (.iload_n 2, 1) := by decide +kernel
theorem d_Wa_add_19 : decode prog_9_method_3_code 19 = .ok (.iastore, 1) := by decide +kernel
theorem d_Wa_add_20 : decode prog_9_method_3_code 20 = .ok (.aload_n 0, 1) := by decide +kernel
theorem d_Wa_add_21 : decode prog_9_method_3_code 21 = .ok (.getfield 18, 3) := by decide +kernel
theorem d_Wa_add_24 : decode prog_9_method_3_code 24 = .ok (.aload_n 0, 1) := by decide +kernel
theorem d_Wa_add_25 : decode prog_9_method_3_code 25 = .ok (.getfield 31, 3) := by decide +kernel
theorem d_Wa_add_28 : decode prog_9_method_3_code 28 = .ok (.iload_n 3, 1) := by decide +kernel
theorem d_Wa_add_29 : decode prog_9_method_3_code 29 = .ok (.iastore, 1) := by decide +kernel
theorem d_Wa_add_30 : decode prog_9_method_3_code 30 = .ok (.aload_n 0, 1) := by decide +kernel
theorem d_Wa_add_31 : decode prog_9_method_3_code 31 = .ok (.dup, 1) := by decide +kernel
theorem d_Wa_add_32 : decode prog_9_method_3_code 32 = .ok (.getfield 31, 3) := by decide +kernel
theorem d_Wa_add_35 : decode prog_9_method_3_code 35 = .ok (.iconst 1, 1) := by decide +kernel
theorem d_Wa_add_36 : decode prog_9_method_3_code 36 = .ok (.iadd, 1) := by decide +kernel
theorem d_Wa_add_37 : decode prog_9_method_3_code 37 = .ok (.putfield 31, 3) := by decide +kernel
theorem d_Wa_add_40 : decode prog_9_method_3_code 40 = .ok (.return_, 1) := by decide +kernel
set_option maxHeartbeats 4000000 in
set_option maxRecDepth 100000 in
theorem K_Wa_add_e {F : FT} (hD : ∀ σ, va_D F.2.2.1 (GW F.2.1 σ)) (hm : F.2.2.2.2.2.2.2.2.2.2.2.2.2.2.1 = 4) (ok : OkF F prog_9_method_3_code "LastSeen$Walk" ({ frames := 0, cells := 0, slots := 0, locals := 0 } : Room)) {Q : SS → Prop} (hQ : RetV F Q) {x1 x2 x3 : Int} {s : SS} (h : Sp_Wa_add x1 x2 x3 s Q) : AtS F 0 [(0, .ref (F.2.1.1 5)), (1, vI x1), (2, vI x2), (3, vI x3)] [] s := by
  unfold Sp_Wa_add at h
  refine r_aload_n ok 0 d_Wa_add_0 rfl rfl ?_
  refine g_Wa_places ok d_Wa_add_1 ?_
  refine r_aload_n ok 0 d_Wa_add_4 rfl rfl ?_
  refine g_Wa_size ok d_Wa_add_5 ?_
  refine r_iload_n ok 1 d_Wa_add_8 rfl rfl ?_
  refine r_iast ok 28 d_Wa_add_9 (by decide) rfl h.1 ?_
  replace h := h.2 _ rfl
  generalize sA s 28 (s.1 8) x1 = s1 at h ⊢
  refine r_aload_n ok 0 d_Wa_add_10 rfl rfl ?_
  refine g_Wa_first ok d_Wa_add_11 ?_
  refine r_aload_n ok 0 d_Wa_add_14 rfl rfl ?_
  refine g_Wa_size ok d_Wa_add_15 ?_
  refine r_iload_n ok 2 d_Wa_add_18 rfl rfl ?_
  refine r_iast ok 29 d_Wa_add_19 (by decide) rfl h.1 ?_
  replace h := h.2 _ rfl
  generalize sA s1 29 (s1.1 8) x2 = s2 at h ⊢
  refine r_aload_n ok 0 d_Wa_add_20 rfl rfl ?_
  refine g_Wa_last ok d_Wa_add_21 ?_
  refine r_aload_n ok 0 d_Wa_add_24 rfl rfl ?_
  refine g_Wa_size ok d_Wa_add_25 ?_
  refine r_iload_n ok 3 d_Wa_add_28 rfl rfl ?_
  refine r_iast ok 30 d_Wa_add_29 (by decide) rfl h.1 ?_
  replace h := h.2 _ rfl
  generalize sA s2 30 (s2.1 8) x3 = s3 at h ⊢
  refine r_aload_n ok 0 d_Wa_add_30 rfl rfl ?_
  refine r_dup ok d_Wa_add_31 rfl ?_
  refine g_Wa_size ok d_Wa_add_32 ?_
  refine r_iconst ok 1 d_Wa_add_35 rfl ?_
  refine r_iadd ok d_Wa_add_36 ?_
  refine p_Wa_size ok d_Wa_add_37 ?_
  replace h := h _ rfl
  generalize sF s3 8 ((s3.1 8) + 1) = s4 at h ⊢
  exact hQ _ _ _ _ (ok_code ok) d_Wa_add_40 h
theorem L_Wa_add (l : Launch) (G : GE) (A : Nat → Prop) (hD : ∀ σ, va_D A (GW G σ)) {x1 x2 x3 : Int} {s : SS} {Q : SS → Prop} (h : Sp_Wa_add x1 x2 x3 s Q) : Met l y_Wa_add (Cond.code y_Wa_add prog_9_method_3_code 4 (none) :: lw_ok) ({ frames := 0, cells := 0, slots := 0, locals := 0 } : Room) (va_Pc [.ref (G.1 5), vI x1, vI x2, vI x3] (gB G s)) (va_Qv (fun (s2 : SS) => Q s2) (fun s2 t => gB G s2 t) A) 0 0 A := by
  refine met_v hD (by decide) ⟨rfl, rfl⟩ (Nat.le_of_ble_eq_true rfl) (lv := [(0, .ref (G.1 5)), (1, vI x1), (2, vI x2), (3, vI x3)]) rfl (fun F h1 h2 h3 hm ok hQ => ?_)
  subst h1 h2 h3
  have hDF := hD
  exact K_Wa_add_e hDF hm ok hQ h
theorem d_He_loadWalk_0 : decode prog_4_method_12_code 0 = .ok (.aload_n 0, 1) := by decide +kernel
theorem d_He_loadWalk_1 : decode prog_4_method_12_code 1 = .ok (.getfield 32, 3) := by decide +kernel
theorem d_He_loadWalk_4 : decode prog_4_method_12_code 4 = .ok (.invokevirtual 117, 3) := by decide +kernel
theorem d_He_loadWalk_7 : decode prog_4_method_12_code 7 = .ok (.iconst 0, 1) := by decide +kernel
theorem d_He_loadWalk_8 : decode prog_4_method_12_code 8 = .ok (.istore_n 1, 1) := by decide +kernel
theorem d_He_loadWalk_9 : decode prog_4_method_12_code 9 = .ok (.iload_n 1, 1) := by decide +kernel
theorem d_He_loadWalk_10 : decode prog_4_method_12_code 10 = .ok (.aload_n 0, 1) := by decide +kernel
theorem d_He_loadWalk_11 : decode prog_4_method_12_code 11 = .ok (.getfield 88, 3) := by decide +kernel
theorem d_He_loadWalk_14 : decode prog_4_method_12_code 14 = .ok (.if_icmp .ge 53, 3) := by decide +kernel
theorem d_He_loadWalk_17 : decode prog_4_method_12_code 17 = .ok (.iload_n 1, 1) := by decide +kernel
theorem d_He_loadWalk_18 : decode prog_4_method_12_code 18 = .ok (.bipush 8, 2) := by decide +kernel
theorem d_He_loadWalk_20 : decode prog_4_method_12_code 20 = .ok (.if_icmp .ge 47, 3) := by decide +kernel
theorem d_He_loadWalk_23 : decode prog_4_method_12_code 23 = .ok (.aload_n 0, 1) := by decide +kernel
theorem d_He_loadWalk_24 : decode prog_4_method_12_code 24 = .ok (.getfield 20, 3) := by decide +kernel
theorem d_He_loadWalk_27 : decode prog_4_method_12_code 27 = .ok (.iload_n 1, 1) := by decide +kernel
theorem d_He_loadWalk_28 : decode prog_4_method_12_code 28 = .ok (.iaload, 1) := by decide +kernel
theorem d_He_loadWalk_29 : decode prog_4_method_12_code 29 = .ok (.istore_n 2, 1) := by decide +kernel
theorem d_He_loadWalk_30 : decode prog_4_method_12_code 30 = .ok (.aload_n 0, 1) := by decide +kernel
theorem d_He_loadWalk_31 : decode prog_4_method_12_code 31 = .ok (.getfield 32, 3) := by decide +kernel
theorem d_He_loadWalk_34 : decode prog_4_method_12_code 34 = .ok (.aload_n 0, 1) := by decide +kernel
theorem d_He_loadWalk_35 : decode prog_4_method_12_code 35 = .ok (.getfield 28, 3) := by decide +kernel
theorem d_He_loadWalk_38 : decode prog_4_method_12_code 38 = .ok (.iload_n 2, 1) := by decide +kernel
theorem d_He_loadWalk_39 : decode prog_4_method_12_code 39 = .ok (.invokevirtual 114, 3) := by decide +kernel
theorem d_He_loadWalk_42 : decode prog_4_method_12_code 42 = .ok (.aload_n 0, 1) := by decide +kernel
theorem d_He_loadWalk_43 : decode prog_4_method_12_code 43 = .ok (.getfield 28, 3) := by decide +kernel
theorem d_He_loadWalk_46 : decode prog_4_method_12_code 46 = .ok (.iload_n 2, 1) := by decide +kernel
theorem d_He_loadWalk_47 : decode prog_4_method_12_code 47 = .ok (.invokevirtual 122, 3) := by decide +kernel
theorem d_He_loadWalk_50 : decode prog_4_method_12_code 50 = .ok (.aload_n 0, 1) := by decide +kernel
theorem d_He_loadWalk_51 : decode prog_4_method_12_code 51 = .ok (.getfield 28, 3) := by decide +kernel
theorem d_He_loadWalk_54 : decode prog_4_method_12_code 54 = .ok (.iload_n 2, 1) := by decide +kernel
theorem d_He_loadWalk_55 : decode prog_4_method_12_code 55 = .ok (.invokevirtual 111, 3) := by decide +kernel
theorem d_He_loadWalk_58 : decode prog_4_method_12_code 58 = .ok (.invokevirtual 125, 3) := by decide +kernel
theorem d_He_loadWalk_61 : decode prog_4_method_12_code 61 = .ok (.iinc 1 1, 3) := by decide +kernel
theorem d_He_loadWalk_64 : decode prog_4_method_12_code 64 = .ok (.goto (-55), 3) := by decide +kernel
theorem d_He_loadWalk_67 : decode prog_4_method_12_code 67 = .ok (.return_, 1) := by decide +kernel
set_option maxHeartbeats 4000000 in
set_option maxRecDepth 100000 in
theorem K_He_loadWalk_9 {F : FT} (hD : ∀ σ, va_D F.2.2.1 (GW F.2.1 σ)) (hm : F.2.2.2.2.2.2.2.2.2.2.2.2.2.2.1 = 3) (ok : OkF F prog_4_method_12_code "LastSeen$Hearing" ({ frames := 1, cells := 0, slots := 0, locals := 23 } : Room)) {Q : SS → Prop} (hQ : RetV F Q) {x1 : Int} {s : SS} (h : B_He_loadWalk_9 Q (fun x1 s => AtS F 9 [(0, .ref (F.2.1.1 6)), (1, vI x1)] [] s) x1 s) : AtS F 9 [(0, .ref (F.2.1.1 6)), (1, vI x1)] [] s := by
  unfold B_He_loadWalk_9 at h
  refine r_iload_n ok 1 d_He_loadWalk_9 rfl rfl ?_
  refine r_aload_n ok 0 d_He_loadWalk_10 rfl rfl ?_
  refine g_He_rootCount ok d_He_loadWalk_11 ?_
  refine r_icmp_ge ok 67 d_He_loadWalk_14 (by decide) h.1 h.2.1 (fun c => ?_) (fun c => ?_)
  · replace h := h.2.2.1 c
    exact hQ _ _ _ _ (ok_code ok) d_He_loadWalk_67 h
  · replace h := h.2.2.2 c
    refine r_iload_n ok 1 d_He_loadWalk_17 rfl rfl ?_
    refine r_bipush ok 8 d_He_loadWalk_18 (by decide) ?_
    refine r_icmp_ge ok 67 d_He_loadWalk_20 (by decide) h.1 (by decide) (fun c => ?_) (fun c => ?_)
    · replace h := h.2.1 c
      exact hQ _ _ _ _ (ok_code ok) d_He_loadWalk_67 h
    · replace h := h.2.2 c
      refine r_aload_n ok 0 d_He_loadWalk_23 rfl rfl ?_
      refine g_He_roots ok d_He_loadWalk_24 ?_
      refine r_iload_n ok 1 d_He_loadWalk_27 rfl rfl ?_
      refine r_iald ok 35 d_He_loadWalk_28 (by decide) rfl h.1 ?_
      replace h := h.2
      refine r_istore_n ok [(2, vI (s.2 35 x1)), (0, .ref (F.2.1.1 6)), (1, vI x1)] d_He_loadWalk_29 rfl hm (by decide) rfl ?_
      refine r_aload_n ok 1 d_He_loadWalk_30 rfl rfl ?_
      refine g_He_walk ok d_He_loadWalk_31 ?_
      refine r_aload_n ok 1 d_He_loadWalk_34 rfl rfl ?_
      refine g_He_words ok d_He_loadWalk_35 ?_
      refine r_iload_n ok 0 d_He_loadWalk_38 rfl rfl ?_
      refine r_callVi (As := [vI (s.2 35 x1)]) (rest := [.ref (F.2.1.1 5)]) ok 4 rfl rfl rfl wl_He_114 wi_y_Wo_placesOf ws_y_Wo_placesOf wn_Wo wc_y_Wo_placesOf (by decide) (by decide) hh_Wo_placesOf (Nat.le_of_ble_eq_true rfl) rfl d_He_loadWalk_39 (L_Wo_placesOf F.1 F.2.1 F.2.2.1 hD h) (fun r3 s2 h => ?_)
      refine r_aload_n ok 1 d_He_loadWalk_42 rfl rfl ?_
      refine g_He_words ok d_He_loadWalk_43 ?_
      refine r_iload_n ok 0 d_He_loadWalk_46 rfl rfl ?_
      refine r_callVi (As := [vI (s.2 35 x1)]) (rest := [vI r3, .ref (F.2.1.1 5)]) ok 4 rfl rfl rfl wl_He_122 wi_y_Wo_firstOf ws_y_Wo_firstOf wn_Wo wc_y_Wo_firstOf (by decide) (by decide) hh_Wo_firstOf (Nat.le_of_ble_eq_true rfl) rfl d_He_loadWalk_47 (L_Wo_firstOf F.1 F.2.1 F.2.2.1 hD h) (fun r5 s4 h => ?_)
      refine r_aload_n ok 1 d_He_loadWalk_50 rfl rfl ?_
      refine g_He_words ok d_He_loadWalk_51 ?_
      refine r_iload_n ok 0 d_He_loadWalk_54 rfl rfl ?_
      refine r_callVi (As := [vI (s.2 35 x1)]) (rest := [vI r5, vI r3, .ref (F.2.1.1 5)]) ok 4 rfl rfl rfl wl_He_111 wi_y_Wo_lastOf ws_y_Wo_lastOf wn_Wo wc_y_Wo_lastOf (by decide) (by decide) hh_Wo_lastOf (Nat.le_of_ble_eq_true rfl) rfl d_He_loadWalk_55 (L_Wo_lastOf F.1 F.2.1 F.2.2.1 hD h) (fun r7 s6 h => ?_)
      refine r_callVv (As := [vI r3, vI r5, vI r7]) (rest := []) ok 5 rfl rfl rfl wl_He_125 wi_y_Wa_add ws_y_Wa_add wn_Wa wc_y_Wa_add (by decide) (by decide) hh_Wa_add (Nat.le_of_ble_eq_true rfl) rfl d_He_loadWalk_58 (L_Wa_add F.1 F.2.1 F.2.2.1 hD h) (fun s8 h => ?_)
      refine r_iinc ok 2 (x1 + 1) [(1, vI (x1 + 1)), (2, vI (s.2 35 x1)), (0, .ref (F.2.1.1 6))] d_He_loadWalk_61 rfl rfl hm (by decide) rfl ?_
      refine r_goto ok 9 d_He_loadWalk_64 (by decide) ?_
      exact r_sub [2, 0] rfl h
set_option maxHeartbeats 4000000 in
set_option maxRecDepth 100000 in
theorem K_He_loadWalk_e {F : FT} (hD : ∀ σ, va_D F.2.2.1 (GW F.2.1 σ)) (hm : F.2.2.2.2.2.2.2.2.2.2.2.2.2.2.1 = 3) (ok : OkF F prog_4_method_12_code "LastSeen$Hearing" ({ frames := 1, cells := 0, slots := 0, locals := 23 } : Room)) {Q : SS → Prop} (hQ : RetV F Q) {s : SS} (h : B_He_loadWalk_e Q (fun x1 s => AtS F 9 [(0, .ref (F.2.1.1 6)), (1, vI x1)] [] s)  s) : AtS F 0 [(0, .ref (F.2.1.1 6))] [] s := by
  unfold B_He_loadWalk_e at h
  refine r_aload_n ok 0 d_He_loadWalk_0 rfl rfl ?_
  refine g_He_walk ok d_He_loadWalk_1 ?_
  refine r_callVv (As := []) (rest := []) ok 5 rfl rfl rfl wl_He_117 wi_y_Wa_empty ws_y_Wa_empty wn_Wa wc_y_Wa_empty (by decide) (by decide) hh_Wa_empty (Nat.le_of_ble_eq_true rfl) rfl d_He_loadWalk_4 (L_Wa_empty F.1 F.2.1 F.2.2.1 hD h) (fun s1 h => ?_)
  refine r_iconst ok 0 d_He_loadWalk_7 rfl ?_
  refine r_istore_n ok [(1, vI 0), (0, .ref (F.2.1.1 6))] d_He_loadWalk_8 rfl hm (by decide) rfl ?_
  exact r_sub [1, 0] rfl h
theorem L_He_loadWalk (l : Launch) (G : GE) (A : Nat → Prop) (hD : ∀ σ, va_D A (GW G σ)) {s : SS} {Q : SS → Prop} (h : Sp_He_loadWalk  s Q) : Met l y_He_loadWalk (Cond.code y_He_loadWalk prog_4_method_12_code 3 (none) :: lw_ok) ({ frames := 1, cells := 0, slots := 0, locals := 23 } : Room) (va_Pc [.ref (G.1 6)] (gB G s)) (va_Qv (fun (s2 : SS) => Q s2) (fun s2 t => gB G s2 t) A) 0 0 A := by
  refine met_v hD (by decide) ⟨rfl, rfl⟩ (Nat.le_of_ble_eq_true rfl) (lv := [(0, .ref (G.1 6))]) rfl (fun F h1 h2 h3 hm ok hQ => ?_)
  subst h1 h2 h3
  have hDF := hD
  exact K_He_loadWalk_e hDF hm ok hQ (h _ (fun _ _ hb => K_He_loadWalk_9 hDF hm ok hQ hb))
theorem d_Wa_all_0 : decode prog_9_method_4_code 0 = .ok (.iconst 1, 1) := by decide +kernel
theorem d_Wa_all_1 : decode prog_9_method_4_code 1 = .ok (.aload_n 0, 1) := by decide +kernel
theorem d_Wa_all_2 : decode prog_9_method_4_code 2 = .ok (.getfield 31, 3) := by decide +kernel
theorem d_Wa_all_5 : decode prog_9_method_4_code 5 = .ok (.ishl, 1) := by decide +kernel
theorem d_Wa_all_6 : decode prog_9_method_4_code 6 = .ok (.iconst 1, 1) := by decide +kernel
theorem d_Wa_all_7 : decode prog_9_method_4_code 7 = .ok (.isub, 1) := by decide +kernel
theorem d_Wa_all_8 : decode prog_9_method_4_code 8 = .ok (.ireturn, 1) := by decide +kernel
set_option maxHeartbeats 4000000 in
set_option maxRecDepth 100000 in
theorem K_Wa_all_e {F : FT} (hD : ∀ σ, va_D F.2.2.1 (GW F.2.1 σ)) (hm : F.2.2.2.2.2.2.2.2.2.2.2.2.2.2.1 = 1) (ok : OkF F prog_9_method_4_code "LastSeen$Walk" ({ frames := 0, cells := 0, slots := 0, locals := 0 } : Room)) {Q : Int → SS → Prop} (hQ : RetI F Q) {s : SS} (h : Sp_Wa_all  s Q) : AtS F 0 [(0, .ref (F.2.1.1 5))] [] s := by
  unfold Sp_Wa_all at h
  refine r_iconst ok 1 d_Wa_all_0 rfl ?_
  refine r_aload_n ok 0 d_Wa_all_1 rfl rfl ?_
  refine g_Wa_size ok d_Wa_all_2 ?_
  refine r_ishl ok d_Wa_all_5 ?_
  refine r_iconst ok 1 d_Wa_all_6 rfl ?_
  refine r_isub ok d_Wa_all_7 ?_
  exact hQ _ _ _ _ _ (ok_code ok) d_Wa_all_8 h
theorem L_Wa_all (l : Launch) (G : GE) (A : Nat → Prop) (hD : ∀ σ, va_D A (GW G σ)) {s : SS} {Q : Int → SS → Prop} (h : Sp_Wa_all  s Q) : Met l y_Wa_all (Cond.code y_Wa_all prog_9_method_4_code 1 (some .int) :: lw_ok) ({ frames := 0, cells := 0, slots := 0, locals := 0 } : Room) (va_Pc [.ref (G.1 5)] (gB G s)) (va_Qi (fun (r : Int32) (s2 : SS) => ∃ x : Int, r = iI x ∧ Q x s2) (fun s2 t => gB G s2 t) A) 0 0 A := by
  refine met_i hD (by decide) ⟨rfl, rfl⟩ (Nat.le_of_ble_eq_true rfl) (lv := [(0, .ref (G.1 5))]) rfl (fun F h1 h2 h3 hm ok hQ => ?_)
  subst h1 h2 h3
  have hDF := hD
  exact K_Wa_all_e hDF hm ok hQ h
theorem d_Wa_isWalkable_0 : decode prog_9_method_6_code 0 = .ok (.iload_n 1, 1) := by decide +kernel
theorem d_Wa_isWalkable_1 : decode prog_9_method_6_code 1 = .ok (.ifCond .ne 5, 3) := by decide +kernel
theorem d_Wa_isWalkable_4 : decode prog_9_method_6_code 4 = .ok (.iconst 1, 1) := by decide +kernel
theorem d_Wa_isWalkable_5 : decode prog_9_method_6_code 5 = .ok (.ireturn, 1) := by decide +kernel
theorem d_Wa_isWalkable_6 : decode prog_9_method_6_code 6 = .ok (.iconst 0, 1) := by decide +kernel
theorem d_Wa_isWalkable_7 : decode prog_9_method_6_code 7 = .ok (.istore_n 2, 1) := by decide +kernel
theorem d_Wa_isWalkable_8 : decode prog_9_method_6_code 8 = .ok (.iload_n 2, 1) := by decide +kernel
theorem d_Wa_isWalkable_9 : decode prog_9_method_6_code 9 = .ok (.bipush 10, 2) := by decide +kernel
theorem d_Wa_isWalkable_11 : decode prog_9_method_6_code 11 = .ok (.if_icmp .ge 27, 3) := by decide +kernel
theorem d_Wa_isWalkable_14 : decode prog_9_method_6_code 14 = .ok (.aload_n 0, 1) := by decide +kernel
theorem d_Wa_isWalkable_15 : decode prog_9_method_6_code 15 = .ok (.getfield 21, 3) := by decide +kernel
theorem d_Wa_isWalkable_18 : decode prog_9_method_6_code 18 = .ok (.iload_n 1, 1) := by decide +kernel
theorem d_Wa_isWalkable_19 : decode prog_9_method_6_code 19 = .ok (.bipush 10, 2) := by decide +kernel
theorem d_Wa_isWalkable_21 : decode prog_9_method_6_code 21 = .ok (.imul, 1) := by decide +kernel
theorem d_Wa_isWalkable_22 : decode prog_9_method_6_code 22 = .ok (.iload_n 2, 1) := by decide +kernel
theorem d_Wa_isWalkable_23 : decode prog_9_method_6_code 23 = .ok (.iadd, 1) := by decide +kernel
theorem d_Wa_isWalkable_24 : decode prog_9_method_6_code 24 = .ok (.iaload, 1) := by decide +kernel
theorem d_Wa_isWalkable_25 : decode prog_9_method_6_code 25 = .ok (.ldc 35, 2) := by decide +kernel
theorem d_Wa_isWalkable_27 : decode prog_9_method_6_code 27 = .ok (.if_icmp .ge 5, 3) := by decide +kernel
theorem d_Wa_isWalkable_30 : decode prog_9_method_6_code 30 = .ok (.iconst 1, 1) := by decide +kernel
theorem d_Wa_isWalkable_31 : decode prog_9_method_6_code 31 = .ok (.ireturn, 1) := by decide +kernel
theorem d_Wa_isWalkable_32 : decode prog_9_method_6_code 32 = .ok (.iinc 2 1, 3) := by decide +kernel
theorem d_Wa_isWalkable_35 : decode prog_9_method_6_code 35 = .ok (.goto (-27), 3) := by decide +kernel
theorem d_Wa_isWalkable_38 : decode prog_9_method_6_code 38 = .ok (.iconst 0, 1) := by decide +kernel
theorem d_Wa_isWalkable_39 : decode prog_9_method_6_code 39 = .ok (.ireturn, 1) := by decide +kernel
set_option maxHeartbeats 4000000 in
set_option maxRecDepth 100000 in
theorem K_Wa_isWalkable_8 {F : FT} (hD : ∀ σ, va_D F.2.2.1 (GW F.2.1 σ)) (hm : F.2.2.2.2.2.2.2.2.2.2.2.2.2.2.1 = 3) (ok : OkF F prog_9_method_6_code "LastSeen$Walk" ({ frames := 0, cells := 0, slots := 0, locals := 0 } : Room)) {Q : Int → SS → Prop} (hQ : RetZ F Q) {x1 x2 : Int} {s : SS} (h : B_Wa_isWalkable_8 Q (fun x1 x2 s => AtS F 8 [(0, .ref (F.2.1.1 5)), (1, vI x1), (2, vI x2)] [] s) x1 x2 s) : AtS F 8 [(0, .ref (F.2.1.1 5)), (1, vI x1), (2, vI x2)] [] s := by
  unfold B_Wa_isWalkable_8 at h
  refine r_iload_n ok 2 d_Wa_isWalkable_8 rfl rfl ?_
  refine r_bipush ok 10 d_Wa_isWalkable_9 (by decide) ?_
  refine r_icmp_ge ok 38 d_Wa_isWalkable_11 (by decide) h.1 (by decide) (fun c => ?_) (fun c => ?_)
  · replace h := h.2.1 c
    refine r_iconst ok 0 d_Wa_isWalkable_38 rfl ?_
    exact hQ _ _ _ _ _ (ok_code ok) d_Wa_isWalkable_39 (by decide) h
  · replace h := h.2.2 c
    refine r_aload_n ok 0 d_Wa_isWalkable_14 rfl rfl ?_
    refine g_Wa_soonest ok d_Wa_isWalkable_15 ?_
    refine r_iload_n ok 1 d_Wa_isWalkable_18 rfl rfl ?_
    refine r_bipush ok 10 d_Wa_isWalkable_19 (by decide) ?_
    refine r_imul ok d_Wa_isWalkable_21 ?_
    refine r_iload_n ok 2 d_Wa_isWalkable_22 rfl rfl ?_
    refine r_iadd ok d_Wa_isWalkable_23 ?_
    refine r_iald ok 31 d_Wa_isWalkable_24 (by decide) rfl h.1 ?_
    replace h := h.2
    refine r_ldc ok 1000000 wk_Wa_35 d_Wa_isWalkable_25 (by decide) ?_
    refine r_icmp_ge ok 32 d_Wa_isWalkable_27 (by decide) h.1 (by decide) (fun c => ?_) (fun c => ?_)
    · replace h := h.2.1 c
      refine r_iinc ok 2 (x2 + 1) [(2, vI (x2 + 1)), (0, .ref (F.2.1.1 5)), (1, vI x1)] d_Wa_isWalkable_32 rfl rfl hm (by decide) rfl ?_
      refine r_goto ok 8 d_Wa_isWalkable_35 (by decide) ?_
      exact r_sub [1, 2, 0] rfl h
    · replace h := h.2.2 c
      refine r_iconst ok 1 d_Wa_isWalkable_30 rfl ?_
      exact hQ _ _ _ _ _ (ok_code ok) d_Wa_isWalkable_31 (by decide) h
set_option maxHeartbeats 4000000 in
set_option maxRecDepth 100000 in
theorem K_Wa_isWalkable_e {F : FT} (hD : ∀ σ, va_D F.2.2.1 (GW F.2.1 σ)) (hm : F.2.2.2.2.2.2.2.2.2.2.2.2.2.2.1 = 3) (ok : OkF F prog_9_method_6_code "LastSeen$Walk" ({ frames := 0, cells := 0, slots := 0, locals := 0 } : Room)) {Q : Int → SS → Prop} (hQ : RetZ F Q) {x1 : Int} {s : SS} (h : B_Wa_isWalkable_e Q (fun x1 x2 s => AtS F 8 [(0, .ref (F.2.1.1 5)), (1, vI x1), (2, vI x2)] [] s) x1 s) : AtS F 0 [(0, .ref (F.2.1.1 5)), (1, vI x1)] [] s := by
  unfold B_Wa_isWalkable_e at h
  refine r_iload_n ok 1 d_Wa_isWalkable_0 rfl rfl ?_
  refine r_if_ne ok 6 d_Wa_isWalkable_1 (by decide) h.1 (fun c => ?_) (fun c => ?_)
  · replace h := h.2.1 c
    refine r_iconst ok 0 d_Wa_isWalkable_6 rfl ?_
    refine r_istore_n ok [(2, vI 0), (0, .ref (F.2.1.1 5)), (1, vI x1)] d_Wa_isWalkable_7 rfl hm (by decide) rfl ?_
    exact r_sub [1, 2, 0] rfl h
  · replace h := h.2.2 c
    refine r_iconst ok 1 d_Wa_isWalkable_4 rfl ?_
    exact hQ _ _ _ _ _ (ok_code ok) d_Wa_isWalkable_5 (by decide) h
theorem L_Wa_isWalkable (l : Launch) (G : GE) (A : Nat → Prop) (hD : ∀ σ, va_D A (GW G σ)) {x1 : Int} {s : SS} {Q : Int → SS → Prop} (h : Sp_Wa_isWalkable x1 s Q) : Met l y_Wa_isWalkable (Cond.code y_Wa_isWalkable prog_9_method_6_code 3 (some .boolean) :: lw_ok) ({ frames := 0, cells := 0, slots := 0, locals := 0 } : Room) (va_Pc [.ref (G.1 5), vI x1] (gB G s)) (va_Qi (fun (r : Int32) (s2 : SS) => ∃ x : Int, r = iI x ∧ Q x s2) (fun s2 t => gB G s2 t) A) 0 0 A := by
  refine met_z hD (by decide) ⟨rfl, rfl⟩ (Nat.le_of_ble_eq_true rfl) (lv := [(0, .ref (G.1 5)), (1, vI x1)]) rfl (fun F h1 h2 h3 hm ok hQ => ?_)
  subst h1 h2 h3
  have hDF := hD
  exact K_Wa_isWalkable_e hDF hm ok hQ (h _ (fun _ _ _ hb => K_Wa_isWalkable_8 hDF hm ok hQ hb))
theorem d_Wa_readReach_0 : decode prog_9_method_7_code 0 = .ok (.iconst 0, 1) := by decide +kernel
theorem d_Wa_readReach_1 : decode prog_9_method_7_code 1 = .ok (.istore_n 2, 1) := by decide +kernel
theorem d_Wa_readReach_2 : decode prog_9_method_7_code 2 = .ok (.iload_n 2, 1) := by decide +kernel
theorem d_Wa_readReach_3 : decode prog_9_method_7_code 3 = .ok (.bipush 10, 2) := by decide +kernel
theorem d_Wa_readReach_5 : decode prog_9_method_7_code 5 = .ok (.if_icmp .ge 25, 3) := by decide +kernel
theorem d_Wa_readReach_8 : decode prog_9_method_7_code 8 = .ok (.aload_n 0, 1) := by decide +kernel
theorem d_Wa_readReach_9 : decode prog_9_method_7_code 9 = .ok (.getfield 24, 3) := by decide +kernel
theorem d_Wa_readReach_12 : decode prog_9_method_7_code 12 = .ok (.iload_n 2, 1) := by decide +kernel
theorem d_Wa_readReach_13 : decode prog_9_method_7_code 13 = .ok (.iload_n 1, 1) := by decide +kernel
theorem d_Wa_readReach_14 : decode prog_9_method_7_code 14 = .ok (.ifCond .ne 7, 3) := by decide +kernel
theorem d_Wa_readReach_17 : decode prog_9_method_7_code 17 = .ok (.iconst 0, 1) := by decide +kernel
theorem d_Wa_readReach_18 : decode prog_9_method_7_code 18 = .ok (.goto 5, 3) := by decide +kernel
theorem d_Wa_readReach_21 : decode prog_9_method_7_code 21 = .ok (.ldc 35, 2) := by decide +kernel
theorem d_Wa_readReach_23 : decode prog_9_method_7_code 23 = .ok (.iastore, 1) := by decide +kernel
theorem d_Wa_readReach_24 : decode prog_9_method_7_code 24 = .ok (.iinc 2 1, 3) := by decide +kernel
theorem d_Wa_readReach_27 : decode prog_9_method_7_code 27 = .ok (.goto (-25), 3) := by decide +kernel
theorem d_Wa_readReach_30 : decode prog_9_method_7_code 30 = .ok (.iload_n 1, 1) := by decide +kernel
theorem d_Wa_readReach_31 : decode prog_9_method_7_code 31 = .ok (.ifCond .ne 4, 3) := by decide +kernel
theorem d_Wa_readReach_34 : decode prog_9_method_7_code 34 = .ok (.return_, 1) := by decide +kernel
theorem d_Wa_readReach_35 : decode prog_9_method_7_code 35 = .ok (.iconst 0, 1) := by decide +kernel
theorem d_Wa_readReach_36 : decode prog_9_method_7_code 36 = .ok (.istore_n 2, 1) := by decide +kernel
theorem d_Wa_readReach_37 : decode prog_9_method_7_code 37 = .ok (.iload_n 2, 1) := by decide +kernel
theorem d_Wa_readReach_38 : decode prog_9_method_7_code 38 = .ok (.bipush 10, 2) := by decide +kernel
theorem d_Wa_readReach_40 : decode prog_9_method_7_code 40 = .ok (.if_icmp .ge 75, 3) := by decide +kernel
theorem d_Wa_readReach_43 : decode prog_9_method_7_code 43 = .ok (.aload_n 0, 1) := by decide +kernel
theorem d_Wa_readReach_44 : decode prog_9_method_7_code 44 = .ok (.getfield 21, 3) := by decide +kernel
theorem d_Wa_readReach_47 : decode prog_9_method_7_code 47 = .ok (.iload_n 1, 1) := by decide +kernel
theorem d_Wa_readReach_48 : decode prog_9_method_7_code 48 = .ok (.bipush 10, 2) := by decide +kernel
theorem d_Wa_readReach_50 : decode prog_9_method_7_code 50 = .ok (.imul, 1) := by decide +kernel
theorem d_Wa_readReach_51 : decode prog_9_method_7_code 51 = .ok (.iload_n 2, 1) := by decide +kernel
theorem d_Wa_readReach_52 : decode prog_9_method_7_code 52 = .ok (.iadd, 1) := by decide +kernel
theorem d_Wa_readReach_53 : decode prog_9_method_7_code 53 = .ok (.iaload, 1) := by decide +kernel
theorem d_Wa_readReach_54 : decode prog_9_method_7_code 54 = .ok (.istore_n 3, 1) := by decide +kernel
theorem d_Wa_readReach_55 : decode prog_9_method_7_code 55 = .ok (.iload_n 3, 1) := by decide +kernel
theorem d_Wa_readReach_56 : decode prog_9_method_7_code 56 = .ok (.ldc 35, 2) := by decide +kernel
theorem d_Wa_readReach_58 : decode prog_9_method_7_code 58 = .ok (.if_icmp .lt 6, 3) := by decide +kernel
theorem d_Wa_readReach_61 : decode prog_9_method_7_code 61 = .ok (.goto 48, 3) := by decide +kernel
theorem d_Wa_readReach_64 : decode prog_9_method_7_code 64 = .ok (.iconst 0, 1) := by decide +kernel
theorem d_Wa_readReach_65 : decode prog_9_method_7_code 65 = .ok (.istore 4, 2) := by decide +kernel
theorem d_Wa_readReach_67 : decode prog_9_method_7_code 67 = .ok (.iload 4, 2) := by decide +kernel
theorem d_Wa_readReach_69 : decode prog_9_method_7_code 69 = .ok (.bipush 10, 2) := by decide +kernel
theorem d_Wa_readReach_71 : decode prog_9_method_7_code 71 = .ok (.if_icmp .ge 38, 3) := by decide +kernel
theorem d_Wa_readReach_74 : decode prog_9_method_7_code 74 = .ok (.aload_n 0, 1) := by decide +kernel
theorem d_Wa_readReach_75 : decode prog_9_method_7_code 75 = .ok (.getfield 24, 3) := by decide +kernel
theorem d_Wa_readReach_78 : decode prog_9_method_7_code 78 = .ok (.iload 4, 2) := by decide +kernel
theorem d_Wa_readReach_80 : decode prog_9_method_7_code 80 = .ok (.aload_n 0, 1) := by decide +kernel
theorem d_Wa_readReach_81 : decode prog_9_method_7_code 81 = .ok (.getfield 24, 3) := by decide +kernel
theorem d_Wa_readReach_84 : decode prog_9_method_7_code 84 = .ok (.iload 4, 2) := by decide +kernel
theorem d_Wa_readReach_86 : decode prog_9_method_7_code 86 = .ok (.iaload, 1) := by decide +kernel
theorem d_Wa_readReach_87 : decode prog_9_method_7_code 87 = .ok (.iload_n 3, 1) := by decide +kernel
theorem d_Wa_readReach_88 : decode prog_9_method_7_code 88 = .ok (.aload_n 0, 1) := by decide +kernel
theorem d_Wa_readReach_89 : decode prog_9_method_7_code 89 = .ok (.getfield 27, 3) := by decide +kernel
theorem d_Wa_readReach_92 : decode prog_9_method_7_code 92 = .ok (.iload_n 2, 1) := by decide +kernel
theorem d_Wa_readReach_93 : decode prog_9_method_7_code 93 = .ok (.iload 4, 2) := by decide +kernel
theorem d_Wa_readReach_95 : decode prog_9_method_7_code 95 = .ok (.invokevirtual 52, 3) := by decide +kernel
theorem d_Wa_readReach_98 : decode prog_9_method_7_code 98 = .ok (.iadd, 1) := by decide +kernel
theorem d_Wa_readReach_99 : decode prog_9_method_7_code 99 = .ok (.invokestatic 56, 3) := by decide +kernel
theorem d_Wa_readReach_102 : decode prog_9_method_7_code 102 = .ok (.iastore, 1) := by decide +kernel
theorem d_Wa_readReach_103 : decode prog_9_method_7_code 103 = .ok (.iinc 4 1, 3) := by decide +kernel
theorem d_Wa_readReach_106 : decode prog_9_method_7_code 106 = .ok (.goto (-39), 3) := by decide +kernel
theorem d_Wa_readReach_109 : decode prog_9_method_7_code 109 = .ok (.iinc 2 1, 3) := by decide +kernel
theorem d_Wa_readReach_112 : decode prog_9_method_7_code 112 = .ok (.goto (-75), 3) := by decide +kernel
theorem d_Wa_readReach_115 : decode prog_9_method_7_code 115 = .ok (.return_, 1) := by decide +kernel
set_option maxHeartbeats 4000000 in
set_option maxRecDepth 100000 in
theorem K_Wa_readReach_2 {F : FT} (hD : ∀ σ, va_D F.2.2.1 (GW F.2.1 σ)) (hm : F.2.2.2.2.2.2.2.2.2.2.2.2.2.2.1 = 5) (ok : OkF F prog_9_method_7_code "LastSeen$Walk" ({ frames := 1, cells := 0, slots := 0, locals := 22 } : Room)) {Q : SS → Prop} (hQ : RetV F Q) {x1 x2 : Int} {s : SS} (h : B_Wa_readReach_2 Q (fun x1 x2 s => AtS F 2 [(0, .ref (F.2.1.1 5)), (1, vI x1), (2, vI x2)] [] s) (fun x1 x2 s => AtS F 37 [(0, .ref (F.2.1.1 5)), (1, vI x1), (2, vI x2)] [] s) (fun x1 x2 x3 x4 s => AtS F 67 [(0, .ref (F.2.1.1 5)), (1, vI x1), (2, vI x2), (3, vI x3), (4, vI x4)] [] s) x1 x2 s) : AtS F 2 [(0, .ref (F.2.1.1 5)), (1, vI x1), (2, vI x2)] [] s := by
  unfold B_Wa_readReach_2 at h
  refine r_iload_n ok 2 d_Wa_readReach_2 rfl rfl ?_
  refine r_bipush ok 10 d_Wa_readReach_3 (by decide) ?_
  refine r_icmp_ge ok 30 d_Wa_readReach_5 (by decide) h.1 (by decide) (fun c => ?_) (fun c => ?_)
  · replace h := h.2.1 c
    refine r_iload_n ok 1 d_Wa_readReach_30 rfl rfl ?_
    refine r_if_ne ok 35 d_Wa_readReach_31 (by decide) h.1 (fun c => ?_) (fun c => ?_)
    · replace h := h.2.1 c
      refine r_iconst ok 0 d_Wa_readReach_35 rfl ?_
      refine r_istore_n ok [(2, vI 0), (0, .ref (F.2.1.1 5)), (1, vI x1)] d_Wa_readReach_36 rfl hm (by decide) rfl ?_
      exact r_sub [1, 2, 0] rfl h
    · replace h := h.2.2 c
      exact hQ _ _ _ _ (ok_code ok) d_Wa_readReach_34 h
  · replace h := h.2.2 c
    refine r_aload_n ok 0 d_Wa_readReach_8 rfl rfl ?_
    refine g_Wa_reach ok d_Wa_readReach_9 ?_
    refine r_iload_n ok 2 d_Wa_readReach_12 rfl rfl ?_
    refine r_iload_n ok 1 d_Wa_readReach_13 rfl rfl ?_
    refine r_if_ne ok 21 d_Wa_readReach_14 (by decide) h.1 (fun c => ?_) (fun c => ?_)
    · replace h := h.2.1 c
      refine r_ldc ok 1000000 wk_Wa_35 d_Wa_readReach_21 (by decide) ?_
      refine r_iast ok 32 d_Wa_readReach_23 (by decide) rfl h.1 ?_
      replace h := h.2 _ rfl
      generalize sA s 32 x2 1000000 = s1 at h ⊢
      refine r_iinc ok 2 (x2 + 1) [(2, vI (x2 + 1)), (0, .ref (F.2.1.1 5)), (1, vI x1)] d_Wa_readReach_24 rfl rfl hm (by decide) rfl ?_
      refine r_goto ok 2 d_Wa_readReach_27 (by decide) ?_
      exact r_sub [1, 2, 0] rfl h
    · replace h := h.2.2 c
      refine r_iconst ok 0 d_Wa_readReach_17 rfl ?_
      refine r_goto ok 23 d_Wa_readReach_18 (by decide) ?_
      refine r_iast ok 32 d_Wa_readReach_23 (by decide) rfl h.1 ?_
      replace h := h.2 _ rfl
      generalize sA s 32 x2 0 = s2 at h ⊢
      refine r_iinc ok 2 (x2 + 1) [(2, vI (x2 + 1)), (0, .ref (F.2.1.1 5)), (1, vI x1)] d_Wa_readReach_24 rfl rfl hm (by decide) rfl ?_
      refine r_goto ok 2 d_Wa_readReach_27 (by decide) ?_
      exact r_sub [1, 2, 0] rfl h
set_option maxHeartbeats 4000000 in
set_option maxRecDepth 100000 in
theorem K_Wa_readReach_37 {F : FT} (hD : ∀ σ, va_D F.2.2.1 (GW F.2.1 σ)) (hm : F.2.2.2.2.2.2.2.2.2.2.2.2.2.2.1 = 5) (ok : OkF F prog_9_method_7_code "LastSeen$Walk" ({ frames := 1, cells := 0, slots := 0, locals := 22 } : Room)) {Q : SS → Prop} (hQ : RetV F Q) {x1 x2 : Int} {s : SS} (h : B_Wa_readReach_37 Q (fun x1 x2 s => AtS F 2 [(0, .ref (F.2.1.1 5)), (1, vI x1), (2, vI x2)] [] s) (fun x1 x2 s => AtS F 37 [(0, .ref (F.2.1.1 5)), (1, vI x1), (2, vI x2)] [] s) (fun x1 x2 x3 x4 s => AtS F 67 [(0, .ref (F.2.1.1 5)), (1, vI x1), (2, vI x2), (3, vI x3), (4, vI x4)] [] s) x1 x2 s) : AtS F 37 [(0, .ref (F.2.1.1 5)), (1, vI x1), (2, vI x2)] [] s := by
  unfold B_Wa_readReach_37 at h
  refine r_iload_n ok 2 d_Wa_readReach_37 rfl rfl ?_
  refine r_bipush ok 10 d_Wa_readReach_38 (by decide) ?_
  refine r_icmp_ge ok 115 d_Wa_readReach_40 (by decide) h.1 (by decide) (fun c => ?_) (fun c => ?_)
  · replace h := h.2.1 c
    exact hQ _ _ _ _ (ok_code ok) d_Wa_readReach_115 h
  · replace h := h.2.2 c
    refine r_aload_n ok 0 d_Wa_readReach_43 rfl rfl ?_
    refine g_Wa_soonest ok d_Wa_readReach_44 ?_
    refine r_iload_n ok 1 d_Wa_readReach_47 rfl rfl ?_
    refine r_bipush ok 10 d_Wa_readReach_48 (by decide) ?_
    refine r_imul ok d_Wa_readReach_50 ?_
    refine r_iload_n ok 2 d_Wa_readReach_51 rfl rfl ?_
    refine r_iadd ok d_Wa_readReach_52 ?_
    refine r_iald ok 31 d_Wa_readReach_53 (by decide) rfl h.1 ?_
    replace h := h.2
    refine r_istore_n ok [(3, vI (s.2 31 ((x1 * 10) + x2))), (0, .ref (F.2.1.1 5)), (1, vI x1), (2, vI x2)] d_Wa_readReach_54 rfl hm (by decide) rfl ?_
    refine r_iload_n ok 0 d_Wa_readReach_55 rfl rfl ?_
    refine r_ldc ok 1000000 wk_Wa_35 d_Wa_readReach_56 (by decide) ?_
    refine r_icmp_lt ok 64 d_Wa_readReach_58 (by decide) h.1 (by decide) (fun c => ?_) (fun c => ?_)
    · replace h := h.2.1 c
      refine r_iconst ok 0 d_Wa_readReach_64 rfl ?_
      refine r_istore ok [(4, vI 0), (3, vI (s.2 31 ((x1 * 10) + x2))), (0, .ref (F.2.1.1 5)), (1, vI x1), (2, vI x2)] d_Wa_readReach_65 hm (by decide) rfl ?_
      exact r_sub [2, 3, 4, 1, 0] rfl h
    · replace h := h.2.2 c
      refine r_goto ok 109 d_Wa_readReach_61 (by decide) ?_
      refine r_iinc ok 3 (x2 + 1) [(2, vI (x2 + 1)), (3, vI (s.2 31 ((x1 * 10) + x2))), (0, .ref (F.2.1.1 5)), (1, vI x1)] d_Wa_readReach_109 rfl rfl hm (by decide) rfl ?_
      refine r_goto ok 37 d_Wa_readReach_112 (by decide) ?_
      exact r_sub [2, 3, 0] rfl h
set_option maxHeartbeats 4000000 in
set_option maxRecDepth 100000 in
theorem K_Wa_readReach_67 {F : FT} (hD : ∀ σ, va_D F.2.2.1 (GW F.2.1 σ)) (hm : F.2.2.2.2.2.2.2.2.2.2.2.2.2.2.1 = 5) (ok : OkF F prog_9_method_7_code "LastSeen$Walk" ({ frames := 1, cells := 0, slots := 0, locals := 22 } : Room)) {Q : SS → Prop} (hQ : RetV F Q) {x1 x2 x3 x4 : Int} {s : SS} (h : B_Wa_readReach_67 Q (fun x1 x2 s => AtS F 2 [(0, .ref (F.2.1.1 5)), (1, vI x1), (2, vI x2)] [] s) (fun x1 x2 s => AtS F 37 [(0, .ref (F.2.1.1 5)), (1, vI x1), (2, vI x2)] [] s) (fun x1 x2 x3 x4 s => AtS F 67 [(0, .ref (F.2.1.1 5)), (1, vI x1), (2, vI x2), (3, vI x3), (4, vI x4)] [] s) x1 x2 x3 x4 s) : AtS F 67 [(0, .ref (F.2.1.1 5)), (1, vI x1), (2, vI x2), (3, vI x3), (4, vI x4)] [] s := by
  unfold B_Wa_readReach_67 at h
  refine r_iload ok 4 d_Wa_readReach_67 rfl ?_
  refine r_bipush ok 10 d_Wa_readReach_69 (by decide) ?_
  refine r_icmp_ge ok 109 d_Wa_readReach_71 (by decide) h.1 (by decide) (fun c => ?_) (fun c => ?_)
  · replace h := h.2.1 c
    refine r_iinc ok 2 (x2 + 1) [(2, vI (x2 + 1)), (0, .ref (F.2.1.1 5)), (1, vI x1), (3, vI x3), (4, vI x4)] d_Wa_readReach_109 rfl rfl hm (by decide) rfl ?_
    refine r_goto ok 37 d_Wa_readReach_112 (by decide) ?_
    exact r_sub [1, 2, 0] rfl h
  · replace h := h.2.2 c
    refine r_aload_n ok 0 d_Wa_readReach_74 rfl rfl ?_
    refine g_Wa_reach ok d_Wa_readReach_75 ?_
    refine r_iload ok 4 d_Wa_readReach_78 rfl ?_
    refine r_aload_n ok 0 d_Wa_readReach_80 rfl rfl ?_
    refine g_Wa_reach ok d_Wa_readReach_81 ?_
    refine r_iload ok 4 d_Wa_readReach_84 rfl ?_
    refine r_iald ok 32 d_Wa_readReach_86 (by decide) rfl h.1 ?_
    replace h := h.2
    refine r_iload_n ok 3 d_Wa_readReach_87 rfl rfl ?_
    refine r_aload_n ok 0 d_Wa_readReach_88 rfl rfl ?_
    refine g_Wa_land ok d_Wa_readReach_89 ?_
    refine r_iload_n ok 2 d_Wa_readReach_92 rfl rfl ?_
    refine r_iload ok 4 d_Wa_readReach_93 rfl ?_
    refine r_callVi (As := [vI x2, vI x4]) (rest := [vI x3, vI (s.2 32 x4), vI x4, .ref (F.2.1.1 43)]) ok 1 rfl rfl rfl wl_Wa_52 wi_y_La_distance ws_y_La_distance wn_La wc_y_La_distance (by decide) (by decide) hh_La_distance (Nat.le_of_ble_eq_true rfl) rfl d_Wa_readReach_95 (L_La_distance F.1 F.2.1 F.2.2.1 hD h) (fun r4 s3 h => ?_)
    refine r_iadd ok d_Wa_readReach_98 ?_
    refine r_min ok wl_Wa_56 (by decide) (Nat.le_of_ble_eq_true rfl) d_Wa_readReach_99 h.1 h.2.1 ?_
    replace h := h.2.2
    refine r_iast ok 32 d_Wa_readReach_102 (by decide) rfl h.1 ?_
    replace h := h.2 _ rfl
    generalize sA s3 32 x4 (min (s.2 32 x4) (x3 + r4)) = s5 at h ⊢
    refine r_iinc ok 4 (x4 + 1) [(4, vI (x4 + 1)), (0, .ref (F.2.1.1 5)), (1, vI x1), (2, vI x2), (3, vI x3)] d_Wa_readReach_103 rfl rfl hm (by decide) rfl ?_
    refine r_goto ok 67 d_Wa_readReach_106 (by decide) ?_
    exact r_sub [1, 2, 3, 4, 0] rfl h
set_option maxHeartbeats 4000000 in
set_option maxRecDepth 100000 in
theorem K_Wa_readReach_e {F : FT} (hD : ∀ σ, va_D F.2.2.1 (GW F.2.1 σ)) (hm : F.2.2.2.2.2.2.2.2.2.2.2.2.2.2.1 = 5) (ok : OkF F prog_9_method_7_code "LastSeen$Walk" ({ frames := 1, cells := 0, slots := 0, locals := 22 } : Room)) {Q : SS → Prop} (hQ : RetV F Q) {x1 : Int} {s : SS} (h : B_Wa_readReach_e Q (fun x1 x2 s => AtS F 2 [(0, .ref (F.2.1.1 5)), (1, vI x1), (2, vI x2)] [] s) (fun x1 x2 s => AtS F 37 [(0, .ref (F.2.1.1 5)), (1, vI x1), (2, vI x2)] [] s) (fun x1 x2 x3 x4 s => AtS F 67 [(0, .ref (F.2.1.1 5)), (1, vI x1), (2, vI x2), (3, vI x3), (4, vI x4)] [] s) x1 s) : AtS F 0 [(0, .ref (F.2.1.1 5)), (1, vI x1)] [] s := by
  unfold B_Wa_readReach_e at h
  refine r_iconst ok 0 d_Wa_readReach_0 rfl ?_
  refine r_istore_n ok [(2, vI 0), (0, .ref (F.2.1.1 5)), (1, vI x1)] d_Wa_readReach_1 rfl hm (by decide) rfl ?_
  exact r_sub [1, 2, 0] rfl h
theorem L_Wa_readReach (l : Launch) (G : GE) (A : Nat → Prop) (hD : ∀ σ, va_D A (GW G σ)) {x1 : Int} {s : SS} {Q : SS → Prop} (h : Sp_Wa_readReach x1 s Q) : Met l y_Wa_readReach (Cond.code y_Wa_readReach prog_9_method_7_code 5 (none) :: lw_ok) ({ frames := 1, cells := 0, slots := 0, locals := 22 } : Room) (va_Pc [.ref (G.1 5), vI x1] (gB G s)) (va_Qv (fun (s2 : SS) => Q s2) (fun s2 t => gB G s2 t) A) 0 0 A := by
  refine met_v hD (by decide) ⟨rfl, rfl⟩ (Nat.le_of_ble_eq_true rfl) (lv := [(0, .ref (G.1 5)), (1, vI x1)]) rfl (fun F h1 h2 h3 hm ok hQ => ?_)
  subst h1 h2 h3
  have hDF := hD
  exact K_Wa_readReach_e hDF hm ok hQ (h _ _ _ (fun _ _ _ hb => K_Wa_readReach_2 hDF hm ok hQ hb) (fun _ _ _ hb => K_Wa_readReach_37 hDF hm ok hQ hb) (fun _ _ _ _ _ hb => K_Wa_readReach_67 hDF hm ok hQ hb))
theorem d_Wa_stayAt_0 : decode prog_9_method_8_code 0 = .ok (.iconst 0, 1) := by decide +kernel
theorem d_Wa_stayAt_1 : decode prog_9_method_8_code 1 = .ok (.istore_n 3, 1) := by decide +kernel
theorem d_Wa_stayAt_2 : decode prog_9_method_8_code 2 = .ok (.iload_n 3, 1) := by decide +kernel
theorem d_Wa_stayAt_3 : decode prog_9_method_8_code 3 = .ok (.bipush 10, 2) := by decide +kernel
theorem d_Wa_stayAt_5 : decode prog_9_method_8_code 5 = .ok (.if_icmp .ge 76, 3) := by decide +kernel
theorem d_Wa_stayAt_8 : decode prog_9_method_8_code 8 = .ok (.aload_n 0, 1) := by decide +kernel
theorem d_Wa_stayAt_9 : decode prog_9_method_8_code 9 = .ok (.getfield 11, 3) := by decide +kernel
theorem d_Wa_stayAt_12 : decode prog_9_method_8_code 12 = .ok (.iload_n 1, 1) := by decide +kernel
theorem d_Wa_stayAt_13 : decode prog_9_method_8_code 13 = .ok (.iaload, 1) := by decide +kernel
theorem d_Wa_stayAt_14 : decode prog_9_method_8_code 14 = .ok (.iload_n 3, 1) := by decide +kernel
theorem d_Wa_stayAt_15 : decode prog_9_method_8_code 15 = .ok (.ishr, 1) := by decide +kernel
theorem d_Wa_stayAt_16 : decode prog_9_method_8_code 16 = .ok (.iconst 1, 1) := by decide +kernel
theorem d_Wa_stayAt_17 : decode prog_9_method_8_code 17 = .ok (.iand, 1) := by decide +kernel
theorem d_Wa_stayAt_18 : decode prog_9_method_8_code 18 = .ok (.ifCond .ne 6, 3) := by decide +kernel
theorem d_Wa_stayAt_21 : decode prog_9_method_8_code 21 = .ok (.goto 54, 3) := by decide +kernel
theorem d_Wa_stayAt_24 : decode prog_9_method_8_code 24 = .ok (.aload_n 0, 1) := by decide +kernel
theorem d_Wa_stayAt_25 : decode prog_9_method_8_code 25 = .ok (.getfield 15, 3) := by decide +kernel
theorem d_Wa_stayAt_28 : decode prog_9_method_8_code 28 = .ok (.iload_n 1, 1) := by decide +kernel
theorem d_Wa_stayAt_29 : decode prog_9_method_8_code 29 = .ok (.iaload, 1) := by decide +kernel
theorem d_Wa_stayAt_30 : decode prog_9_method_8_code 30 = .ok (.aload_n 0, 1) := by decide +kernel
theorem d_Wa_stayAt_31 : decode prog_9_method_8_code 31 = .ok (.getfield 24, 3) := by decide +kernel
theorem d_Wa_stayAt_34 : decode prog_9_method_8_code 34 = .ok (.iload_n 3, 1) := by decide +kernel
theorem d_Wa_stayAt_35 : decode prog_9_method_8_code 35 = .ok (.iaload, 1) := by decide +kernel
theorem d_Wa_stayAt_36 : decode prog_9_method_8_code 36 = .ok (.invokestatic 61, 3) := by decide +kernel
theorem d_Wa_stayAt_39 : decode prog_9_method_8_code 39 = .ok (.istore 4, 2) := by decide +kernel
theorem d_Wa_stayAt_41 : decode prog_9_method_8_code 41 = .ok (.iload 4, 2) := by decide +kernel
theorem d_Wa_stayAt_43 : decode prog_9_method_8_code 43 = .ok (.aload_n 0, 1) := by decide +kernel
theorem d_Wa_stayAt_44 : decode prog_9_method_8_code 44 = .ok (.getfield 18, 3) := by decide +kernel
theorem d_Wa_stayAt_47 : decode prog_9_method_8_code 47 = .ok (.iload_n 1, 1) := by decide +kernel
theorem d_Wa_stayAt_48 : decode prog_9_method_8_code 48 = .ok (.iaload, 1) := by decide +kernel
theorem d_Wa_stayAt_49 : decode prog_9_method_8_code 49 = .ok (.if_icmp .gt 26, 3) := by decide +kernel
theorem d_Wa_stayAt_52 : decode prog_9_method_8_code 52 = .ok (.iload 4, 2) := by decide +kernel
theorem d_Wa_stayAt_54 : decode prog_9_method_8_code 54 = .ok (.aload_n 0, 1) := by decide +kernel
theorem d_Wa_stayAt_55 : decode prog_9_method_8_code 55 = .ok (.getfield 21, 3) := by decide +kernel
theorem d_Wa_stayAt_58 : decode prog_9_method_8_code 58 = .ok (.iload_n 2, 1) := by decide +kernel
theorem d_Wa_stayAt_59 : decode prog_9_method_8_code 59 = .ok (.iload_n 3, 1) := by decide +kernel
theorem d_Wa_stayAt_60 : decode prog_9_method_8_code 60 = .ok (.iadd, 1) := by decide +kernel
theorem d_Wa_stayAt_61 : decode prog_9_method_8_code 61 = .ok (.iaload, 1) := by decide +kernel
theorem d_Wa_stayAt_62 : decode prog_9_method_8_code 62 = .ok (.if_icmp .ge 13, 3) := by decide +kernel
theorem d_Wa_stayAt_65 : decode prog_9_method_8_code 65 = .ok (.aload_n 0, 1) := by decide +kernel
theorem d_Wa_stayAt_66 : decode prog_9_method_8_code 66 = .ok (.getfield 21, 3) := by decide +kernel
theorem d_Wa_stayAt_69 : decode prog_9_method_8_code 69 = .ok (.iload_n 2, 1) := by decide +kernel
theorem d_Wa_stayAt_70 : decode prog_9_method_8_code 70 = .ok (.iload_n 3, 1) := by decide +kernel
theorem d_Wa_stayAt_71 : decode prog_9_method_8_code 71 = .ok (.iadd, 1) := by decide +kernel
theorem d_Wa_stayAt_72 : decode prog_9_method_8_code 72 = .ok (.iload 4, 2) := by decide +kernel
theorem d_Wa_stayAt_74 : decode prog_9_method_8_code 74 = .ok (.iastore, 1) := by decide +kernel
theorem d_Wa_stayAt_75 : decode prog_9_method_8_code 75 = .ok (.iinc 3 1, 3) := by decide +kernel
theorem d_Wa_stayAt_78 : decode prog_9_method_8_code 78 = .ok (.goto (-76), 3) := by decide +kernel
theorem d_Wa_stayAt_81 : decode prog_9_method_8_code 81 = .ok (.return_, 1) := by decide +kernel
set_option maxHeartbeats 4000000 in
set_option maxRecDepth 100000 in
theorem K_Wa_stayAt_2 {F : FT} (hD : ∀ σ, va_D F.2.2.1 (GW F.2.1 σ)) (hm : F.2.2.2.2.2.2.2.2.2.2.2.2.2.2.1 = 5) (ok : OkF F prog_9_method_8_code "LastSeen$Walk" ({ frames := 1, cells := 0, slots := 0, locals := 21 } : Room)) {Q : SS → Prop} (hQ : RetV F Q) {x1 x2 x3 : Int} {s : SS} (h : B_Wa_stayAt_2 Q (fun x1 x2 x3 s => AtS F 2 [(0, .ref (F.2.1.1 5)), (1, vI x1), (2, vI x2), (3, vI x3)] [] s) x1 x2 x3 s) : AtS F 2 [(0, .ref (F.2.1.1 5)), (1, vI x1), (2, vI x2), (3, vI x3)] [] s := by
  unfold B_Wa_stayAt_2 at h
  refine r_iload_n ok 3 d_Wa_stayAt_2 rfl rfl ?_
  refine r_bipush ok 10 d_Wa_stayAt_3 (by decide) ?_
  refine r_icmp_ge ok 81 d_Wa_stayAt_5 (by decide) h.1 (by decide) (fun c => ?_) (fun c => ?_)
  · replace h := h.2.1 c
    exact hQ _ _ _ _ (ok_code ok) d_Wa_stayAt_81 h
  · replace h := h.2.2 c
    refine r_aload_n ok 0 d_Wa_stayAt_8 rfl rfl ?_
    refine g_Wa_places ok d_Wa_stayAt_9 ?_
    refine r_iload_n ok 1 d_Wa_stayAt_12 rfl rfl ?_
    refine r_iald ok 28 d_Wa_stayAt_13 (by decide) rfl h.1 ?_
    replace h := h.2
    refine r_iload_n ok 3 d_Wa_stayAt_14 rfl rfl ?_
    refine r_ishr ok d_Wa_stayAt_15 ?_
    refine r_iconst ok 1 d_Wa_stayAt_16 rfl ?_
    refine r_iand ok d_Wa_stayAt_17 ?_
    refine r_if_ne ok 24 d_Wa_stayAt_18 (by decide) h.1 (fun c => ?_) (fun c => ?_)
    · replace h := h.2.1 c
      refine r_aload_n ok 0 d_Wa_stayAt_24 rfl rfl ?_
      refine g_Wa_first ok d_Wa_stayAt_25 ?_
      refine r_iload_n ok 1 d_Wa_stayAt_28 rfl rfl ?_
      refine r_iald ok 29 d_Wa_stayAt_29 (by decide) rfl h.1 ?_
      replace h := h.2
      refine r_aload_n ok 0 d_Wa_stayAt_30 rfl rfl ?_
      refine g_Wa_reach ok d_Wa_stayAt_31 ?_
      refine r_iload_n ok 3 d_Wa_stayAt_34 rfl rfl ?_
      refine r_iald ok 32 d_Wa_stayAt_35 (by decide) rfl h.1 ?_
      replace h := h.2
      refine r_max ok wl_Wa_61 (by decide) (Nat.le_of_ble_eq_true rfl) d_Wa_stayAt_36 h.1 h.2.1 ?_
      replace h := h.2.2
      refine r_istore ok [(4, vI (max (s.2 29 x1) (s.2 32 x3))), (0, .ref (F.2.1.1 5)), (1, vI x1), (2, vI x2), (3, vI x3)] d_Wa_stayAt_39 hm (by decide) rfl ?_
      refine r_iload ok 0 d_Wa_stayAt_41 rfl ?_
      refine r_aload_n ok 1 d_Wa_stayAt_43 rfl rfl ?_
      refine g_Wa_last ok d_Wa_stayAt_44 ?_
      refine r_iload_n ok 2 d_Wa_stayAt_47 rfl rfl ?_
      refine r_iald ok 30 d_Wa_stayAt_48 (by decide) rfl h.1 ?_
      replace h := h.2
      refine r_icmp_gt ok 75 d_Wa_stayAt_49 (by decide) h.1 h.2.1 (fun c => ?_) (fun c => ?_)
      · replace h := h.2.2.1 c
        refine r_iinc ok 4 (x3 + 1) [(3, vI (x3 + 1)), (4, vI (max (s.2 29 x1) (s.2 32 x3))), (0, .ref (F.2.1.1 5)), (1, vI x1), (2, vI x2)] d_Wa_stayAt_75 rfl rfl hm (by decide) rfl ?_
        refine r_goto ok 2 d_Wa_stayAt_78 (by decide) ?_
        exact r_sub [2, 3, 4, 0] rfl h
      · replace h := h.2.2.2 c
        refine r_iload ok 0 d_Wa_stayAt_52 rfl ?_
        refine r_aload_n ok 1 d_Wa_stayAt_54 rfl rfl ?_
        refine g_Wa_soonest ok d_Wa_stayAt_55 ?_
        refine r_iload_n ok 3 d_Wa_stayAt_58 rfl rfl ?_
        refine r_iload_n ok 4 d_Wa_stayAt_59 rfl rfl ?_
        refine r_iadd ok d_Wa_stayAt_60 ?_
        refine r_iald ok 31 d_Wa_stayAt_61 (by decide) rfl h.1 ?_
        replace h := h.2
        refine r_icmp_ge ok 75 d_Wa_stayAt_62 (by decide) h.1 h.2.1 (fun c => ?_) (fun c => ?_)
        · replace h := h.2.2.1 c
          refine r_iinc ok 4 (x3 + 1) [(3, vI (x3 + 1)), (4, vI (max (s.2 29 x1) (s.2 32 x3))), (0, .ref (F.2.1.1 5)), (1, vI x1), (2, vI x2)] d_Wa_stayAt_75 rfl rfl hm (by decide) rfl ?_
          refine r_goto ok 2 d_Wa_stayAt_78 (by decide) ?_
          exact r_sub [2, 3, 4, 0] rfl h
        · replace h := h.2.2.2 c
          refine r_aload_n ok 1 d_Wa_stayAt_65 rfl rfl ?_
          refine g_Wa_soonest ok d_Wa_stayAt_66 ?_
          refine r_iload_n ok 3 d_Wa_stayAt_69 rfl rfl ?_
          refine r_iload_n ok 4 d_Wa_stayAt_70 rfl rfl ?_
          refine r_iadd ok d_Wa_stayAt_71 ?_
          refine r_iload ok 0 d_Wa_stayAt_72 rfl ?_
          refine r_iast ok 31 d_Wa_stayAt_74 (by decide) rfl h.1 ?_
          replace h := h.2 _ rfl
          generalize sA s 31 (x2 + x3) (max (s.2 29 x1) (s.2 32 x3)) = s1 at h ⊢
          refine r_iinc ok 4 (x3 + 1) [(3, vI (x3 + 1)), (4, vI (max (s.2 29 x1) (s.2 32 x3))), (0, .ref (F.2.1.1 5)), (1, vI x1), (2, vI x2)] d_Wa_stayAt_75 rfl rfl hm (by decide) rfl ?_
          refine r_goto ok 2 d_Wa_stayAt_78 (by decide) ?_
          exact r_sub [2, 3, 4, 0] rfl h
    · replace h := h.2.2 c
      refine r_goto ok 75 d_Wa_stayAt_21 (by decide) ?_
      refine r_iinc ok 3 (x3 + 1) [(3, vI (x3 + 1)), (0, .ref (F.2.1.1 5)), (1, vI x1), (2, vI x2)] d_Wa_stayAt_75 rfl rfl hm (by decide) rfl ?_
      refine r_goto ok 2 d_Wa_stayAt_78 (by decide) ?_
      exact r_sub [1, 2, 3, 0] rfl h
set_option maxHeartbeats 4000000 in
set_option maxRecDepth 100000 in
theorem K_Wa_stayAt_e {F : FT} (hD : ∀ σ, va_D F.2.2.1 (GW F.2.1 σ)) (hm : F.2.2.2.2.2.2.2.2.2.2.2.2.2.2.1 = 5) (ok : OkF F prog_9_method_8_code "LastSeen$Walk" ({ frames := 1, cells := 0, slots := 0, locals := 21 } : Room)) {Q : SS → Prop} (hQ : RetV F Q) {x1 x2 : Int} {s : SS} (h : B_Wa_stayAt_e Q (fun x1 x2 x3 s => AtS F 2 [(0, .ref (F.2.1.1 5)), (1, vI x1), (2, vI x2), (3, vI x3)] [] s) x1 x2 s) : AtS F 0 [(0, .ref (F.2.1.1 5)), (1, vI x1), (2, vI x2)] [] s := by
  unfold B_Wa_stayAt_e at h
  refine r_iconst ok 0 d_Wa_stayAt_0 rfl ?_
  refine r_istore_n ok [(3, vI 0), (0, .ref (F.2.1.1 5)), (1, vI x1), (2, vI x2)] d_Wa_stayAt_1 rfl hm (by decide) rfl ?_
  exact r_sub [1, 2, 3, 0] rfl h
theorem L_Wa_stayAt (l : Launch) (G : GE) (A : Nat → Prop) (hD : ∀ σ, va_D A (GW G σ)) {x1 x2 : Int} {s : SS} {Q : SS → Prop} (h : Sp_Wa_stayAt x1 x2 s Q) : Met l y_Wa_stayAt (Cond.code y_Wa_stayAt prog_9_method_8_code 5 (none) :: lw_ok) ({ frames := 1, cells := 0, slots := 0, locals := 21 } : Room) (va_Pc [.ref (G.1 5), vI x1, vI x2] (gB G s)) (va_Qv (fun (s2 : SS) => Q s2) (fun s2 t => gB G s2 t) A) 0 0 A := by
  refine met_v hD (by decide) ⟨rfl, rfl⟩ (Nat.le_of_ble_eq_true rfl) (lv := [(0, .ref (G.1 5)), (1, vI x1), (2, vI x2)]) rfl (fun F h1 h2 h3 hm ok hQ => ?_)
  subst h1 h2 h3
  have hDF := hD
  exact K_Wa_stayAt_e hDF hm ok hQ (h _ (fun _ _ _ _ hb => K_Wa_stayAt_2 hDF hm ok hQ hb))
theorem d_Wa_go_0 : decode prog_9_method_5_code 0 = .ok (.iconst 0, 1) := by decide +kernel
theorem d_Wa_go_1 : decode prog_9_method_5_code 1 = .ok (.istore_n 1, 1) := by decide +kernel
theorem d_Wa_go_2 : decode prog_9_method_5_code 2 = .ok (.iload_n 1, 1) := by decide +kernel
theorem d_Wa_go_3 : decode prog_9_method_5_code 3 = .ok (.iconst 1, 1) := by decide +kernel
theorem d_Wa_go_4 : decode prog_9_method_5_code 4 = .ok (.aload_n 0, 1) := by decide +kernel
theorem d_Wa_go_5 : decode prog_9_method_5_code 5 = .ok (.getfield 31, 3) := by decide +kernel
theorem d_Wa_go_8 : decode prog_9_method_5_code 8 = .ok (.ishl, 1) := by decide +kernel
theorem d_Wa_go_9 : decode prog_9_method_5_code 9 = .ok (.bipush 10, 2) := by decide +kernel
theorem d_Wa_go_11 : decode prog_9_method_5_code 11 = .ok (.imul, 1) := by decide +kernel
theorem d_Wa_go_12 : decode prog_9_method_5_code 12 = .ok (.if_icmp .ge 17, 3) := by decide +kernel
theorem d_Wa_go_15 : decode prog_9_method_5_code 15 = .ok (.aload_n 0, 1) := by decide +kernel
theorem d_Wa_go_16 : decode prog_9_method_5_code 16 = .ok (.getfield 21, 3) := by decide +kernel
theorem d_Wa_go_19 : decode prog_9_method_5_code 19 = .ok (.iload_n 1, 1) := by decide +kernel
theorem d_Wa_go_20 : decode prog_9_method_5_code 20 = .ok (.ldc 35, 2) := by decide +kernel
theorem d_Wa_go_22 : decode prog_9_method_5_code 22 = .ok (.iastore, 1) := by decide +kernel
theorem d_Wa_go_23 : decode prog_9_method_5_code 23 = .ok (.iinc 1 1, 3) := by decide +kernel
theorem d_Wa_go_26 : decode prog_9_method_5_code 26 = .ok (.goto (-24), 3) := by decide +kernel
theorem d_Wa_go_29 : decode prog_9_method_5_code 29 = .ok (.iconst 0, 1) := by decide +kernel
theorem d_Wa_go_30 : decode prog_9_method_5_code 30 = .ok (.istore_n 1, 1) := by decide +kernel
theorem d_Wa_go_31 : decode prog_9_method_5_code 31 = .ok (.iload_n 1, 1) := by decide +kernel
theorem d_Wa_go_32 : decode prog_9_method_5_code 32 = .ok (.aload_n 0, 1) := by decide +kernel
theorem d_Wa_go_33 : decode prog_9_method_5_code 33 = .ok (.invokevirtual 36, 3) := by decide +kernel
theorem d_Wa_go_36 : decode prog_9_method_5_code 36 = .ok (.if_icmp .ge 62, 3) := by decide +kernel
theorem d_Wa_go_39 : decode prog_9_method_5_code 39 = .ok (.aload_n 0, 1) := by decide +kernel
theorem d_Wa_go_40 : decode prog_9_method_5_code 40 = .ok (.iload_n 1, 1) := by decide +kernel
theorem d_Wa_go_41 : decode prog_9_method_5_code 41 = .ok (.invokevirtual 40, 3) := by decide +kernel
theorem d_Wa_go_44 : decode prog_9_method_5_code 44 = .ok (.ifCond .ne 6, 3) := by decide +kernel
theorem d_Wa_go_47 : decode prog_9_method_5_code 47 = .ok (.goto 45, 3) := by decide +kernel
theorem d_Wa_go_50 : decode prog_9_method_5_code 50 = .ok (.aload_n 0, 1) := by decide +kernel
theorem d_Wa_go_51 : decode prog_9_method_5_code 51 = .ok (.iload_n 1, 1) := by decide +kernel
theorem d_Wa_go_52 : decode prog_9_method_5_code 52 = .ok (.invokevirtual 44, 3) := by decide +kernel
theorem d_Wa_go_55 : decode prog_9_method_5_code 55 = .ok (.iconst 0, 1) := by decide +kernel
theorem d_Wa_go_56 : decode prog_9_method_5_code 56 = .ok (.istore_n 2, 1) := by decide +kernel
theorem d_Wa_go_57 : decode prog_9_method_5_code 57 = .ok (.iload_n 2, 1) := by decide +kernel
theorem d_Wa_go_58 : decode prog_9_method_5_code 58 = .ok (.aload_n 0, 1) := by decide +kernel
theorem d_Wa_go_59 : decode prog_9_method_5_code 59 = .ok (.getfield 31, 3) := by decide +kernel
theorem d_Wa_go_62 : decode prog_9_method_5_code 62 = .ok (.if_icmp .ge 30, 3) := by decide +kernel
theorem d_Wa_go_65 : decode prog_9_method_5_code 65 = .ok (.iload_n 1, 1) := by decide +kernel
theorem d_Wa_go_66 : decode prog_9_method_5_code 66 = .ok (.iload_n 2, 1) := by decide +kernel
theorem d_Wa_go_67 : decode prog_9_method_5_code 67 = .ok (.ishr, 1) := by decide +kernel
theorem d_Wa_go_68 : decode prog_9_method_5_code 68 = .ok (.iconst 1, 1) := by decide +kernel
theorem d_Wa_go_69 : decode prog_9_method_5_code 69 = .ok (.iand, 1) := by decide +kernel
theorem d_Wa_go_70 : decode prog_9_method_5_code 70 = .ok (.ifCond .ne 16, 3) := by decide +kernel
theorem d_Wa_go_73 : decode prog_9_method_5_code 73 = .ok (.aload_n 0, 1) := by decide +kernel
theorem d_Wa_go_74 : decode prog_9_method_5_code 74 = .ok (.iload_n 2, 1) := by decide +kernel
theorem d_Wa_go_75 : decode prog_9_method_5_code 75 = .ok (.iload_n 1, 1) := by decide +kernel
theorem d_Wa_go_76 : decode prog_9_method_5_code 76 = .ok (.iconst 1, 1) := by decide +kernel
theorem d_Wa_go_77 : decode prog_9_method_5_code 77 = .ok (.iload_n 2, 1) := by decide +kernel
theorem d_Wa_go_78 : decode prog_9_method_5_code 78 = .ok (.ishl, 1) := by decide +kernel
theorem d_Wa_go_79 : decode prog_9_method_5_code 79 = .ok (.ior, 1) := by decide +kernel
theorem d_Wa_go_80 : decode prog_9_method_5_code 80 = .ok (.bipush 10, 2) := by decide +kernel
theorem d_Wa_go_82 : decode prog_9_method_5_code 82 = .ok (.imul, 1) := by decide +kernel
theorem d_Wa_go_83 : decode prog_9_method_5_code 83 = .ok (.invokevirtual 48, 3) := by decide +kernel
theorem d_Wa_go_86 : decode prog_9_method_5_code 86 = .ok (.iinc 2 1, 3) := by decide +kernel
theorem d_Wa_go_89 : decode prog_9_method_5_code 89 = .ok (.goto (-32), 3) := by decide +kernel
theorem d_Wa_go_92 : decode prog_9_method_5_code 92 = .ok (.iinc 1 1, 3) := by decide +kernel
theorem d_Wa_go_95 : decode prog_9_method_5_code 95 = .ok (.goto (-64), 3) := by decide +kernel
theorem d_Wa_go_98 : decode prog_9_method_5_code 98 = .ok (.return_, 1) := by decide +kernel
set_option maxHeartbeats 4000000 in
set_option maxRecDepth 100000 in
theorem K_Wa_go_2 {F : FT} (hD : ∀ σ, va_D F.2.2.1 (GW F.2.1 σ)) (hm : F.2.2.2.2.2.2.2.2.2.2.2.2.2.2.1 = 3) (ok : OkF F prog_9_method_5_code "LastSeen$Walk" ({ frames := 2, cells := 0, slots := 0, locals := 46 } : Room)) {Q : SS → Prop} (hQ : RetV F Q) {x1 : Int} {s : SS} (h : B_Wa_go_2 Q (fun x1 s => AtS F 2 [(0, .ref (F.2.1.1 5)), (1, vI x1)] [] s) (fun x1 s => AtS F 31 [(0, .ref (F.2.1.1 5)), (1, vI x1)] [] s) (fun x1 x2 s => AtS F 57 [(0, .ref (F.2.1.1 5)), (1, vI x1), (2, vI x2)] [] s) x1 s) : AtS F 2 [(0, .ref (F.2.1.1 5)), (1, vI x1)] [] s := by
  unfold B_Wa_go_2 at h
  refine r_iload_n ok 1 d_Wa_go_2 rfl rfl ?_
  refine r_iconst ok 1 d_Wa_go_3 rfl ?_
  refine r_aload_n ok 0 d_Wa_go_4 rfl rfl ?_
  refine g_Wa_size ok d_Wa_go_5 ?_
  refine r_ishl ok d_Wa_go_8 ?_
  refine r_bipush ok 10 d_Wa_go_9 (by decide) ?_
  refine r_imul ok d_Wa_go_11 ?_
  refine r_icmp_ge ok 29 d_Wa_go_12 (by decide) h.1 h.2.1 (fun c => ?_) (fun c => ?_)
  · replace h := h.2.2.1 c
    refine r_iconst ok 0 d_Wa_go_29 rfl ?_
    refine r_istore_n ok [(1, vI 0), (0, .ref (F.2.1.1 5))] d_Wa_go_30 rfl hm (by decide) rfl ?_
    exact r_sub [1, 0] rfl h
  · replace h := h.2.2.2 c
    refine r_aload_n ok 0 d_Wa_go_15 rfl rfl ?_
    refine g_Wa_soonest ok d_Wa_go_16 ?_
    refine r_iload_n ok 1 d_Wa_go_19 rfl rfl ?_
    refine r_ldc ok 1000000 wk_Wa_35 d_Wa_go_20 (by decide) ?_
    refine r_iast ok 31 d_Wa_go_22 (by decide) rfl h.1 ?_
    replace h := h.2 _ rfl
    generalize sA s 31 x1 1000000 = s1 at h ⊢
    refine r_iinc ok 1 (x1 + 1) [(1, vI (x1 + 1)), (0, .ref (F.2.1.1 5))] d_Wa_go_23 rfl rfl hm (by decide) rfl ?_
    refine r_goto ok 2 d_Wa_go_26 (by decide) ?_
    exact r_sub [1, 0] rfl h
set_option maxHeartbeats 4000000 in
set_option maxRecDepth 100000 in
theorem K_Wa_go_31 {F : FT} (hD : ∀ σ, va_D F.2.2.1 (GW F.2.1 σ)) (hm : F.2.2.2.2.2.2.2.2.2.2.2.2.2.2.1 = 3) (ok : OkF F prog_9_method_5_code "LastSeen$Walk" ({ frames := 2, cells := 0, slots := 0, locals := 46 } : Room)) {Q : SS → Prop} (hQ : RetV F Q) {x1 : Int} {s : SS} (h : B_Wa_go_31 Q (fun x1 s => AtS F 2 [(0, .ref (F.2.1.1 5)), (1, vI x1)] [] s) (fun x1 s => AtS F 31 [(0, .ref (F.2.1.1 5)), (1, vI x1)] [] s) (fun x1 x2 s => AtS F 57 [(0, .ref (F.2.1.1 5)), (1, vI x1), (2, vI x2)] [] s) x1 s) : AtS F 31 [(0, .ref (F.2.1.1 5)), (1, vI x1)] [] s := by
  unfold B_Wa_go_31 at h
  refine r_iload_n ok 1 d_Wa_go_31 rfl rfl ?_
  refine r_aload_n ok 0 d_Wa_go_32 rfl rfl ?_
  refine r_callVi (As := []) (rest := [vI x1]) ok 5 rfl rfl rfl wl_Wa_36 wi_y_Wa_all ws_y_Wa_all wn_Wa wc_y_Wa_all (by decide) (by decide) hh_Wa_all (Nat.le_of_ble_eq_true rfl) rfl d_Wa_go_33 (L_Wa_all F.1 F.2.1 F.2.2.1 hD h) (fun r3 s2 h => ?_)
  refine r_icmp_ge ok 98 d_Wa_go_36 (by decide) h.1 h.2.1 (fun c => ?_) (fun c => ?_)
  · replace h := h.2.2.1 c
    exact hQ _ _ _ _ (ok_code ok) d_Wa_go_98 h
  · replace h := h.2.2.2 c
    refine r_aload_n ok 0 d_Wa_go_39 rfl rfl ?_
    refine r_iload_n ok 1 d_Wa_go_40 rfl rfl ?_
    refine r_callVi (As := [vI x1]) (rest := []) ok 5 rfl rfl rfl wl_Wa_40 wi_y_Wa_isWalkable ws_y_Wa_isWalkable wn_Wa wc_y_Wa_isWalkable (by decide) (by decide) hh_Wa_isWalkable (Nat.le_of_ble_eq_true rfl) rfl d_Wa_go_41 (L_Wa_isWalkable F.1 F.2.1 F.2.2.1 hD h) (fun r5 s4 h => ?_)
    refine r_if_ne ok 50 d_Wa_go_44 (by decide) h.1 (fun c => ?_) (fun c => ?_)
    · replace h := h.2.1 c
      refine r_aload_n ok 0 d_Wa_go_50 rfl rfl ?_
      refine r_iload_n ok 1 d_Wa_go_51 rfl rfl ?_
      refine r_callVv (As := [vI x1]) (rest := []) ok 5 rfl rfl rfl wl_Wa_44 wi_y_Wa_readReach ws_y_Wa_readReach wn_Wa wc_y_Wa_readReach (by decide) (by decide) hh_Wa_readReach (Nat.le_of_ble_eq_true rfl) rfl d_Wa_go_52 (L_Wa_readReach F.1 F.2.1 F.2.2.1 hD h) (fun s6 h => ?_)
      refine r_iconst ok 0 d_Wa_go_55 rfl ?_
      refine r_istore_n ok [(2, vI 0), (0, .ref (F.2.1.1 5)), (1, vI x1)] d_Wa_go_56 rfl hm (by decide) rfl ?_
      exact r_sub [1, 2, 0] rfl h
    · replace h := h.2.2 c
      refine r_goto ok 92 d_Wa_go_47 (by decide) ?_
      refine r_iinc ok 1 (x1 + 1) [(1, vI (x1 + 1)), (0, .ref (F.2.1.1 5))] d_Wa_go_92 rfl rfl hm (by decide) rfl ?_
      refine r_goto ok 31 d_Wa_go_95 (by decide) ?_
      exact r_sub [1, 0] rfl h
set_option maxHeartbeats 4000000 in
set_option maxRecDepth 100000 in
theorem K_Wa_go_57 {F : FT} (hD : ∀ σ, va_D F.2.2.1 (GW F.2.1 σ)) (hm : F.2.2.2.2.2.2.2.2.2.2.2.2.2.2.1 = 3) (ok : OkF F prog_9_method_5_code "LastSeen$Walk" ({ frames := 2, cells := 0, slots := 0, locals := 46 } : Room)) {Q : SS → Prop} (hQ : RetV F Q) {x1 x2 : Int} {s : SS} (h : B_Wa_go_57 Q (fun x1 s => AtS F 2 [(0, .ref (F.2.1.1 5)), (1, vI x1)] [] s) (fun x1 s => AtS F 31 [(0, .ref (F.2.1.1 5)), (1, vI x1)] [] s) (fun x1 x2 s => AtS F 57 [(0, .ref (F.2.1.1 5)), (1, vI x1), (2, vI x2)] [] s) x1 x2 s) : AtS F 57 [(0, .ref (F.2.1.1 5)), (1, vI x1), (2, vI x2)] [] s := by
  unfold B_Wa_go_57 at h
  refine r_iload_n ok 2 d_Wa_go_57 rfl rfl ?_
  refine r_aload_n ok 0 d_Wa_go_58 rfl rfl ?_
  refine g_Wa_size ok d_Wa_go_59 ?_
  refine r_icmp_ge ok 92 d_Wa_go_62 (by decide) h.1 h.2.1 (fun c => ?_) (fun c => ?_)
  · replace h := h.2.2.1 c
    refine r_iinc ok 1 (x1 + 1) [(1, vI (x1 + 1)), (0, .ref (F.2.1.1 5)), (2, vI x2)] d_Wa_go_92 rfl rfl hm (by decide) rfl ?_
    refine r_goto ok 31 d_Wa_go_95 (by decide) ?_
    exact r_sub [1, 0] rfl h
  · replace h := h.2.2.2 c
    refine r_iload_n ok 1 d_Wa_go_65 rfl rfl ?_
    refine r_iload_n ok 2 d_Wa_go_66 rfl rfl ?_
    refine r_ishr ok d_Wa_go_67 ?_
    refine r_iconst ok 1 d_Wa_go_68 rfl ?_
    refine r_iand ok d_Wa_go_69 ?_
    refine r_if_ne ok 86 d_Wa_go_70 (by decide) h.1 (fun c => ?_) (fun c => ?_)
    · replace h := h.2.1 c
      refine r_iinc ok 2 (x2 + 1) [(2, vI (x2 + 1)), (0, .ref (F.2.1.1 5)), (1, vI x1)] d_Wa_go_86 rfl rfl hm (by decide) rfl ?_
      refine r_goto ok 57 d_Wa_go_89 (by decide) ?_
      exact r_sub [1, 2, 0] rfl h
    · replace h := h.2.2 c
      refine r_aload_n ok 0 d_Wa_go_73 rfl rfl ?_
      refine r_iload_n ok 2 d_Wa_go_74 rfl rfl ?_
      refine r_iload_n ok 1 d_Wa_go_75 rfl rfl ?_
      refine r_iconst ok 1 d_Wa_go_76 rfl ?_
      refine r_iload_n ok 2 d_Wa_go_77 rfl rfl ?_
      refine r_ishl ok d_Wa_go_78 ?_
      refine r_ior ok d_Wa_go_79 ?_
      refine r_bipush ok 10 d_Wa_go_80 (by decide) ?_
      refine r_imul ok d_Wa_go_82 ?_
      refine r_callVv (As := [vI x2, vI ((bor x1 (shl 1 x2)) * 10)]) (rest := []) ok 5 rfl rfl rfl wl_Wa_48 wi_y_Wa_stayAt ws_y_Wa_stayAt wn_Wa wc_y_Wa_stayAt (by decide) (by decide) hh_Wa_stayAt (Nat.le_of_ble_eq_true rfl) rfl d_Wa_go_83 (L_Wa_stayAt F.1 F.2.1 F.2.2.1 hD h) (fun s7 h => ?_)
      refine r_iinc ok 2 (x2 + 1) [(2, vI (x2 + 1)), (0, .ref (F.2.1.1 5)), (1, vI x1)] d_Wa_go_86 rfl rfl hm (by decide) rfl ?_
      refine r_goto ok 57 d_Wa_go_89 (by decide) ?_
      exact r_sub [1, 2, 0] rfl h
set_option maxHeartbeats 4000000 in
set_option maxRecDepth 100000 in
theorem K_Wa_go_e {F : FT} (hD : ∀ σ, va_D F.2.2.1 (GW F.2.1 σ)) (hm : F.2.2.2.2.2.2.2.2.2.2.2.2.2.2.1 = 3) (ok : OkF F prog_9_method_5_code "LastSeen$Walk" ({ frames := 2, cells := 0, slots := 0, locals := 46 } : Room)) {Q : SS → Prop} (hQ : RetV F Q) {s : SS} (h : B_Wa_go_e Q (fun x1 s => AtS F 2 [(0, .ref (F.2.1.1 5)), (1, vI x1)] [] s) (fun x1 s => AtS F 31 [(0, .ref (F.2.1.1 5)), (1, vI x1)] [] s) (fun x1 x2 s => AtS F 57 [(0, .ref (F.2.1.1 5)), (1, vI x1), (2, vI x2)] [] s)  s) : AtS F 0 [(0, .ref (F.2.1.1 5))] [] s := by
  unfold B_Wa_go_e at h
  refine r_iconst ok 0 d_Wa_go_0 rfl ?_
  refine r_istore_n ok [(1, vI 0), (0, .ref (F.2.1.1 5))] d_Wa_go_1 rfl hm (by decide) rfl ?_
  exact r_sub [1, 0] rfl h
theorem L_Wa_go (l : Launch) (G : GE) (A : Nat → Prop) (hD : ∀ σ, va_D A (GW G σ)) {s : SS} {Q : SS → Prop} (h : Sp_Wa_go  s Q) : Met l y_Wa_go (Cond.code y_Wa_go prog_9_method_5_code 3 (none) :: lw_ok) ({ frames := 2, cells := 0, slots := 0, locals := 46 } : Room) (va_Pc [.ref (G.1 5)] (gB G s)) (va_Qv (fun (s2 : SS) => Q s2) (fun s2 t => gB G s2 t) A) 0 0 A := by
  refine met_v hD (by decide) ⟨rfl, rfl⟩ (Nat.le_of_ble_eq_true rfl) (lv := [(0, .ref (G.1 5))]) rfl (fun F h1 h2 h3 hm ok hQ => ?_)
  subst h1 h2 h3
  have hDF := hD
  exact K_Wa_go_e hDF hm ok hQ (h _ _ _ (fun _ _ hb => K_Wa_go_2 hDF hm ok hQ hb) (fun _ _ hb => K_Wa_go_31 hDF hm ok hQ hb) (fun _ _ _ hb => K_Wa_go_57 hDF hm ok hQ hb))
theorem d_He_weigh_0 : decode prog_4_method_13_code 0 = .ok (.aload_n 0, 1) := by decide +kernel
theorem d_He_weigh_1 : decode prog_4_method_13_code 1 = .ok (.invokevirtual 129, 3) := by decide +kernel
theorem d_He_weigh_4 : decode prog_4_method_13_code 4 = .ok (.aload_n 0, 1) := by decide +kernel
theorem d_He_weigh_5 : decode prog_4_method_13_code 5 = .ok (.getfield 32, 3) := by decide +kernel
theorem d_He_weigh_8 : decode prog_4_method_13_code 8 = .ok (.invokevirtual 132, 3) := by decide +kernel
theorem d_He_weigh_11 : decode prog_4_method_13_code 11 = .ok (.aload_n 0, 1) := by decide +kernel
theorem d_He_weigh_12 : decode prog_4_method_13_code 12 = .ok (.aload_n 0, 1) := by decide +kernel
theorem d_He_weigh_13 : decode prog_4_method_13_code 13 = .ok (.getfield 32, 3) := by decide +kernel
theorem d_He_weigh_16 : decode prog_4_method_13_code 16 = .ok (.aload_n 0, 1) := by decide +kernel
theorem d_He_weigh_17 : decode prog_4_method_13_code 17 = .ok (.getfield 32, 3) := by decide +kernel
theorem d_He_weigh_20 : decode prog_4_method_13_code 20 = .ok (.invokevirtual 135, 3) := by decide +kernel
theorem d_He_weigh_23 : decode prog_4_method_13_code 23 = .ok (.invokevirtual 138, 3) := by decide +kernel
theorem d_He_weigh_26 : decode prog_4_method_13_code 26 = .ok (.putfield 141, 3) := by decide +kernel
theorem d_He_weigh_29 : decode prog_4_method_13_code 29 = .ok (.return_, 1) := by decide +kernel
set_option maxHeartbeats 4000000 in
set_option maxRecDepth 100000 in
theorem K_He_weigh_e {F : FT} (hD : ∀ σ, va_D F.2.2.1 (GW F.2.1 σ)) (hm : F.2.2.2.2.2.2.2.2.2.2.2.2.2.2.1 = 1) (ok : OkF F prog_4_method_13_code "LastSeen$Hearing" ({ frames := 3, cells := 0, slots := 0, locals := 68 } : Room)) {Q : SS → Prop} (hQ : RetV F Q) {s : SS} (h : Sp_He_weigh  s Q) : AtS F 0 [(0, .ref (F.2.1.1 6))] [] s := by
  unfold Sp_He_weigh at h
  refine r_aload_n ok 0 d_He_weigh_0 rfl rfl ?_
  refine r_callVv (As := []) (rest := []) ok 6 rfl rfl rfl wl_He_129 wi_y_He_loadWalk ws_y_He_loadWalk wn_He wc_y_He_loadWalk (by decide) (by decide) hh_He_loadWalk (Nat.le_of_ble_eq_true rfl) rfl d_He_weigh_1 (L_He_loadWalk F.1 F.2.1 F.2.2.1 hD h) (fun s1 h => ?_)
  refine r_aload_n ok 0 d_He_weigh_4 rfl rfl ?_
  refine g_He_walk ok d_He_weigh_5 ?_
  refine r_callVv (As := []) (rest := []) ok 5 rfl rfl rfl wl_He_132 wi_y_Wa_go ws_y_Wa_go wn_Wa wc_y_Wa_go (by decide) (by decide) hh_Wa_go (Nat.le_of_ble_eq_true rfl) rfl d_He_weigh_8 (L_Wa_go F.1 F.2.1 F.2.2.1 hD h) (fun s2 h => ?_)
  refine r_aload_n ok 0 d_He_weigh_11 rfl rfl ?_
  refine r_aload_n ok 0 d_He_weigh_12 rfl rfl ?_
  refine g_He_walk ok d_He_weigh_13 ?_
  refine r_aload_n ok 0 d_He_weigh_16 rfl rfl ?_
  refine g_He_walk ok d_He_weigh_17 ?_
  refine r_callVi (As := []) (rest := [.ref (F.2.1.1 5), .ref (F.2.1.1 6)]) ok 5 rfl rfl rfl wl_He_135 wi_y_Wa_all ws_y_Wa_all wn_Wa wc_y_Wa_all (by decide) (by decide) hh_Wa_all (Nat.le_of_ble_eq_true rfl) rfl d_He_weigh_20 (L_Wa_all F.1 F.2.1 F.2.2.1 hD h) (fun r4 s3 h => ?_)
  refine r_callVi (As := [vI r4]) (rest := [.ref (F.2.1.1 6)]) ok 5 rfl rfl rfl wl_He_138 wi_y_Wa_isWalkable ws_y_Wa_isWalkable wn_Wa wc_y_Wa_isWalkable (by decide) (by decide) hh_Wa_isWalkable (Nat.le_of_ble_eq_true rfl) rfl d_He_weigh_23 (L_Wa_isWalkable F.1 F.2.1 F.2.2.1 hD h) (fun r6 s5 h => ?_)
  refine p_He_agreement ok h.1 d_He_weigh_26 ?_
  replace h := h.2
  replace h := h _ rfl
  generalize sF s5 17 r6 = s7 at h ⊢
  exact hQ _ _ _ _ (ok_code ok) d_He_weigh_29 h
theorem L_He_weigh (l : Launch) (G : GE) (A : Nat → Prop) (hD : ∀ σ, va_D A (GW G σ)) {s : SS} {Q : SS → Prop} (h : Sp_He_weigh  s Q) : Met l y_He_weigh (Cond.code y_He_weigh prog_4_method_13_code 1 (none) :: lw_ok) ({ frames := 3, cells := 0, slots := 0, locals := 68 } : Room) (va_Pc [.ref (G.1 6)] (gB G s)) (va_Qv (fun (s2 : SS) => Q s2) (fun s2 t => gB G s2 t) A) 0 0 A := by
  refine met_v hD (by decide) ⟨rfl, rfl⟩ (Nat.le_of_ble_eq_true rfl) (lv := [(0, .ref (G.1 6))]) rfl (fun F h1 h2 h3 hm ok hQ => ?_)
  subst h1 h2 h3
  have hDF := hD
  exact K_He_weigh_e hDF hm ok hQ h
theorem d_He_agrees_0 : decode prog_4_method_14_code 0 = .ok (.aload_n 0, 1) := by decide +kernel
theorem d_He_agrees_1 : decode prog_4_method_14_code 1 = .ok (.getfield 141, 3) := by decide +kernel
theorem d_He_agrees_4 : decode prog_4_method_14_code 4 = .ok (.ireturn, 1) := by decide +kernel
set_option maxHeartbeats 4000000 in
set_option maxRecDepth 100000 in
theorem K_He_agrees_e {F : FT} (hD : ∀ σ, va_D F.2.2.1 (GW F.2.1 σ)) (hm : F.2.2.2.2.2.2.2.2.2.2.2.2.2.2.1 = 1) (ok : OkF F prog_4_method_14_code "LastSeen$Hearing" ({ frames := 0, cells := 0, slots := 0, locals := 0 } : Room)) {Q : Int → SS → Prop} (hQ : RetZ F Q) {s : SS} (h : Sp_He_agrees  s Q) : AtS F 0 [(0, .ref (F.2.1.1 6))] [] s := by
  unfold Sp_He_agrees at h
  refine r_aload_n ok 0 d_He_agrees_0 rfl rfl ?_
  refine g_He_agreement ok d_He_agrees_1 ?_
  exact hQ _ _ _ _ _ (ok_code ok) d_He_agrees_4 h.1 h.2
theorem L_He_agrees (l : Launch) (G : GE) (A : Nat → Prop) (hD : ∀ σ, va_D A (GW G σ)) {s : SS} {Q : Int → SS → Prop} (h : Sp_He_agrees  s Q) : Met l y_He_agrees (Cond.code y_He_agrees prog_4_method_14_code 1 (some .boolean) :: lw_ok) ({ frames := 0, cells := 0, slots := 0, locals := 0 } : Room) (va_Pc [.ref (G.1 6)] (gB G s)) (va_Qi (fun (r : Int32) (s2 : SS) => ∃ x : Int, r = iI x ∧ Q x s2) (fun s2 t => gB G s2 t) A) 0 0 A := by
  refine met_z hD (by decide) ⟨rfl, rfl⟩ (Nat.le_of_ble_eq_true rfl) (lv := [(0, .ref (G.1 6))]) rfl (fun F h1 h2 h3 hm ok hQ => ?_)
  subst h1 h2 h3
  have hDF := hD
  exact K_He_agrees_e hDF hm ok hQ h
theorem d_LS_can_0 : decode prog_1_method_17_code 0 = .ok (.aload_n 0, 1) := by decide +kernel
theorem d_LS_can_1 : decode prog_1_method_17_code 1 = .ok (.iload_n 2, 1) := by decide +kernel
theorem d_LS_can_2 : decode prog_1_method_17_code 2 = .ok (.invokevirtual 146, 3) := by decide +kernel
theorem d_LS_can_5 : decode prog_1_method_17_code 5 = .ok (.istore_n 3, 1) := by decide +kernel
theorem d_LS_can_6 : decode prog_1_method_17_code 6 = .ok (.aload_n 0, 1) := by decide +kernel
theorem d_LS_can_7 : decode prog_1_method_17_code 7 = .ok (.iload_n 1, 1) := by decide +kernel
theorem d_LS_can_8 : decode prog_1_method_17_code 8 = .ok (.iload_n 3, 1) := by decide +kernel
theorem d_LS_can_9 : decode prog_1_method_17_code 9 = .ok (.invokevirtual 149, 3) := by decide +kernel
theorem d_LS_can_12 : decode prog_1_method_17_code 12 = .ok (.ifCond .ne 5, 3) := by decide +kernel
theorem d_LS_can_15 : decode prog_1_method_17_code 15 = .ok (.iconst (-1), 1) := by decide +kernel
theorem d_LS_can_16 : decode prog_1_method_17_code 16 = .ok (.ireturn, 1) := by decide +kernel
theorem d_LS_can_17 : decode prog_1_method_17_code 17 = .ok (.aload_n 0, 1) := by decide +kernel
theorem d_LS_can_18 : decode prog_1_method_17_code 18 = .ok (.getfield 47, 3) := by decide +kernel
theorem d_LS_can_21 : decode prog_1_method_17_code 21 = .ok (.iload_n 1, 1) := by decide +kernel
theorem d_LS_can_22 : decode prog_1_method_17_code 22 = .ok (.iload_n 3, 1) := by decide +kernel
theorem d_LS_can_23 : decode prog_1_method_17_code 23 = .ok (.iload_n 3, 1) := by decide +kernel
theorem d_LS_can_24 : decode prog_1_method_17_code 24 = .ok (.invokevirtual 219, 3) := by decide +kernel
theorem d_LS_can_27 : decode prog_1_method_17_code 27 = .ok (.aload_n 0, 1) := by decide +kernel
theorem d_LS_can_28 : decode prog_1_method_17_code 28 = .ok (.getfield 47, 3) := by decide +kernel
theorem d_LS_can_31 : decode prog_1_method_17_code 31 = .ok (.invokevirtual 232, 3) := by decide +kernel
theorem d_LS_can_34 : decode prog_1_method_17_code 34 = .ok (.aload_n 0, 1) := by decide +kernel
theorem d_LS_can_35 : decode prog_1_method_17_code 35 = .ok (.getfield 47, 3) := by decide +kernel
theorem d_LS_can_38 : decode prog_1_method_17_code 38 = .ok (.invokevirtual 235, 3) := by decide +kernel
theorem d_LS_can_41 : decode prog_1_method_17_code 41 = .ok (.invokestatic 160, 3) := by decide +kernel
theorem d_LS_can_44 : decode prog_1_method_17_code 44 = .ok (.ireturn, 1) := by decide +kernel
set_option maxHeartbeats 4000000 in
set_option maxRecDepth 100000 in
theorem K_LS_can_e {F : FT} (hD : ∀ σ, va_D F.2.2.1 (GW F.2.1 σ)) (hm : F.2.2.2.2.2.2.2.2.2.2.2.2.2.2.1 = 4) (ok : OkF F prog_1_method_17_code "LastSeen" ({ frames := 4, cells := 0, slots := 0, locals := 90 } : Room)) {Q : Int → SS → Prop} (hQ : RetI F Q) {x1 x2 : Int} {s : SS} (h : Sp_LS_can x1 x2 s Q) : AtS F 0 [(0, .ref (F.2.1.1 0)), (1, vI x1), (2, vI x2)] [] s := by
  unfold Sp_LS_can at h
  refine r_aload_n ok 0 d_LS_can_0 rfl rfl ?_
  refine r_iload_n ok 2 d_LS_can_1 rfl rfl ?_
  refine r_callVi (As := [vI x2]) (rest := []) ok 0 rfl rfl rfl wl_LS_146 wi_y_LS_upTo ws_y_LS_upTo wn_LS wc_y_LS_upTo (by decide) (by decide) hh_LS_upTo (Nat.le_of_ble_eq_true rfl) rfl d_LS_can_2 (L_LS_upTo F.1 F.2.1 F.2.2.1 hD h) (fun r2 s1 h => ?_)
  refine r_istore_n ok [(3, vI r2), (0, .ref (F.2.1.1 0)), (1, vI x1), (2, vI x2)] d_LS_can_5 rfl hm (by decide) rfl ?_
  refine r_aload_n ok 1 d_LS_can_6 rfl rfl ?_
  refine r_iload_n ok 2 d_LS_can_7 rfl rfl ?_
  refine r_iload_n ok 0 d_LS_can_8 rfl rfl ?_
  refine r_callVi (As := [vI x1, vI r2]) (rest := []) ok 0 rfl rfl rfl wl_LS_149 wi_y_LS_isNameBy ws_y_LS_isNameBy wn_LS wc_y_LS_isNameBy (by decide) (by decide) hh_LS_isNameBy (Nat.le_of_ble_eq_true rfl) rfl d_LS_can_9 (L_LS_isNameBy F.1 F.2.1 F.2.2.1 hD h) (fun r4 s3 h => ?_)
  refine r_if_ne ok 17 d_LS_can_12 (by decide) h.1 (fun c => ?_) (fun c => ?_)
  · replace h := h.2.1 c
    refine r_aload_n ok 1 d_LS_can_17 rfl rfl ?_
    refine g_LS_hearing ok d_LS_can_18 ?_
    refine r_iload_n ok 2 d_LS_can_21 rfl rfl ?_
    refine r_iload_n ok 0 d_LS_can_22 rfl rfl ?_
    refine r_iload_n ok 0 d_LS_can_23 rfl rfl ?_
    refine r_callVv (As := [vI x1, vI r2, vI r2]) (rest := []) ok 6 rfl rfl rfl wl_LS_219 wi_y_He_open ws_y_He_open wn_He wc_y_He_open (by decide) (by decide) hh_He_open (Nat.le_of_ble_eq_true rfl) rfl d_LS_can_24 (L_He_open F.1 F.2.1 F.2.2.1 hD h) (fun s5 h => ?_)
    refine r_aload_n ok 1 d_LS_can_27 rfl rfl ?_
    refine g_LS_hearing ok d_LS_can_28 ?_
    refine r_callVv (As := []) (rest := []) ok 6 rfl rfl rfl wl_LS_232 wi_y_He_weigh ws_y_He_weigh wn_He wc_y_He_weigh (by decide) (by decide) hh_He_weigh (Nat.le_of_ble_eq_true rfl) rfl d_LS_can_31 (L_He_weigh F.1 F.2.1 F.2.2.1 hD h) (fun s6 h => ?_)
    refine r_aload_n ok 1 d_LS_can_34 rfl rfl ?_
    refine g_LS_hearing ok d_LS_can_35 ?_
    refine r_callVi (As := []) (rest := []) ok 6 rfl rfl rfl wl_LS_235 wi_y_He_agrees ws_y_He_agrees wn_He wc_y_He_agrees (by decide) (by decide) hh_He_agrees (Nat.le_of_ble_eq_true rfl) rfl d_LS_can_38 (L_He_agrees F.1 F.2.1 F.2.2.1 hD h) (fun r8 s7 h => ?_)
    refine r_callSi (As := [vI r8]) (rest := []) ok wl_LS_160 wt_y_LS_bit wn_LS wc_y_LS_bit (by decide) (by decide) hh_LS_bit (Nat.le_of_ble_eq_true rfl) rfl d_LS_can_41 (L_LS_bit F.1 F.2.1 F.2.2.1 hD h) (fun r10 s9 h => ?_)
    exact hQ _ _ _ _ _ (ok_code ok) d_LS_can_44 h
  · replace h := h.2.2 c
    refine r_iconst ok (-1) d_LS_can_15 rfl ?_
    exact hQ _ _ _ _ _ (ok_code ok) d_LS_can_16 h
theorem L_LS_can (l : Launch) (G : GE) (A : Nat → Prop) (hD : ∀ σ, va_D A (GW G σ)) {x1 x2 : Int} {s : SS} {Q : Int → SS → Prop} (h : Sp_LS_can x1 x2 s Q) : Met l y_LS_can (Cond.code y_LS_can prog_1_method_17_code 4 (some .int) :: lw_ok) ({ frames := 4, cells := 0, slots := 0, locals := 90 } : Room) (va_Pc [.ref (G.1 0), vI x1, vI x2] (gB G s)) (va_Qi (fun (r : Int32) (s2 : SS) => ∃ x : Int, r = iI x ∧ Q x s2) (fun s2 t => gB G s2 t) A) 0 0 A := by
  refine met_i hD (by decide) ⟨rfl, rfl⟩ (Nat.le_of_ble_eq_true rfl) (lv := [(0, .ref (G.1 0)), (1, vI x1), (2, vI x2)]) rfl (fun F h1 h2 h3 hm ok hQ => ?_)
  subst h1 h2 h3
  have hDF := hD
  exact K_LS_can_e hDF hm ok hQ h
theorem d_Wa_leastQuarrel_0 : decode prog_9_method_9_code 0 = .ok (.iconst 0, 1) := by decide +kernel
theorem d_Wa_leastQuarrel_1 : decode prog_9_method_9_code 1 = .ok (.istore_n 1, 1) := by decide +kernel
theorem d_Wa_leastQuarrel_2 : decode prog_9_method_9_code 2 = .ok (.iconst 1, 1) := by decide +kernel
theorem d_Wa_leastQuarrel_3 : decode prog_9_method_9_code 3 = .ok (.istore_n 2, 1) := by decide +kernel
theorem d_Wa_leastQuarrel_4 : decode prog_9_method_9_code 4 = .ok (.iload_n 2, 1) := by decide +kernel
theorem d_Wa_leastQuarrel_5 : decode prog_9_method_9_code 5 = .ok (.aload_n 0, 1) := by decide +kernel
theorem d_Wa_leastQuarrel_6 : decode prog_9_method_9_code 6 = .ok (.invokevirtual 36, 3) := by decide +kernel
theorem d_Wa_leastQuarrel_9 : decode prog_9_method_9_code 9 = .ok (.if_icmp .gt 44, 3) := by decide +kernel
theorem d_Wa_leastQuarrel_12 : decode prog_9_method_9_code 12 = .ok (.iload_n 1, 1) := by decide +kernel
theorem d_Wa_leastQuarrel_13 : decode prog_9_method_9_code 13 = .ok (.ifCond .eq 14, 3) := by decide +kernel
theorem d_Wa_leastQuarrel_16 : decode prog_9_method_9_code 16 = .ok (.iload_n 2, 1) := by decide +kernel
theorem d_Wa_leastQuarrel_17 : decode prog_9_method_9_code 17 = .ok (.invokestatic 64, 3) := by decide +kernel
theorem d_Wa_leastQuarrel_20 : decode prog_9_method_9_code 20 = .ok (.iload_n 1, 1) := by decide +kernel
theorem d_Wa_leastQuarrel_21 : decode prog_9_method_9_code 21 = .ok (.invokestatic 64, 3) := by decide +kernel
theorem d_Wa_leastQuarrel_24 : decode prog_9_method_9_code 24 = .ok (.if_icmp .ge 7, 3) := by decide +kernel
theorem d_Wa_leastQuarrel_27 : decode prog_9_method_9_code 27 = .ok (.iconst 1, 1) := by decide +kernel
theorem d_Wa_leastQuarrel_28 : decode prog_9_method_9_code 28 = .ok (.goto 4, 3) := by decide +kernel
theorem d_Wa_leastQuarrel_31 : decode prog_9_method_9_code 31 = .ok (.iconst 0, 1) := by decide +kernel
theorem d_Wa_leastQuarrel_32 : decode prog_9_method_9_code 32 = .ok (.istore_n 3, 1) := by decide +kernel
theorem d_Wa_leastQuarrel_33 : decode prog_9_method_9_code 33 = .ok (.iload_n 3, 1) := by decide +kernel
theorem d_Wa_leastQuarrel_34 : decode prog_9_method_9_code 34 = .ok (.ifCond .eq 13, 3) := by decide +kernel
theorem d_Wa_leastQuarrel_37 : decode prog_9_method_9_code 37 = .ok (.aload_n 0, 1) := by decide +kernel
theorem d_Wa_leastQuarrel_38 : decode prog_9_method_9_code 38 = .ok (.iload_n 2, 1) := by decide +kernel
theorem d_Wa_leastQuarrel_39 : decode prog_9_method_9_code 39 = .ok (.invokevirtual 40, 3) := by decide +kernel
theorem d_Wa_leastQuarrel_42 : decode prog_9_method_9_code 42 = .ok (.ifCond .ne 5, 3) := by decide +kernel
theorem d_Wa_leastQuarrel_45 : decode prog_9_method_9_code 45 = .ok (.iload_n 2, 1) := by decide +kernel
theorem d_Wa_leastQuarrel_46 : decode prog_9_method_9_code 46 = .ok (.istore_n 1, 1) := by decide +kernel
theorem d_Wa_leastQuarrel_47 : decode prog_9_method_9_code 47 = .ok (.iinc 2 1, 3) := by decide +kernel
theorem d_Wa_leastQuarrel_50 : decode prog_9_method_9_code 50 = .ok (.goto (-46), 3) := by decide +kernel
theorem d_Wa_leastQuarrel_53 : decode prog_9_method_9_code 53 = .ok (.iload_n 1, 1) := by decide +kernel
theorem d_Wa_leastQuarrel_54 : decode prog_9_method_9_code 54 = .ok (.ireturn, 1) := by decide +kernel
set_option maxHeartbeats 4000000 in
set_option maxRecDepth 100000 in
theorem K_Wa_leastQuarrel_4 {F : FT} (hD : ∀ σ, va_D F.2.2.1 (GW F.2.1 σ)) (hm : F.2.2.2.2.2.2.2.2.2.2.2.2.2.2.1 = 4) (ok : OkF F prog_9_method_9_code "LastSeen$Walk" ({ frames := 1, cells := 0, slots := 0, locals := 22 } : Room)) {Q : Int → SS → Prop} (hQ : RetI F Q) {x1 x2 : Int} {s : SS} (h : B_Wa_leastQuarrel_4 Q (fun x1 x2 s => AtS F 4 [(0, .ref (F.2.1.1 5)), (1, vI x1), (2, vI x2)] [] s) (fun x1 x2 y0 s => AtS F 32 [(0, .ref (F.2.1.1 5)), (1, vI x1), (2, vI x2)] [vI y0] s) x1 x2 s) : AtS F 4 [(0, .ref (F.2.1.1 5)), (1, vI x1), (2, vI x2)] [] s := by
  unfold B_Wa_leastQuarrel_4 at h
  refine r_iload_n ok 2 d_Wa_leastQuarrel_4 rfl rfl ?_
  refine r_aload_n ok 0 d_Wa_leastQuarrel_5 rfl rfl ?_
  refine r_callVi (As := []) (rest := [vI x2]) ok 5 rfl rfl rfl wl_Wa_36 wi_y_Wa_all ws_y_Wa_all wn_Wa wc_y_Wa_all (by decide) (by decide) hh_Wa_all (Nat.le_of_ble_eq_true rfl) rfl d_Wa_leastQuarrel_6 (L_Wa_all F.1 F.2.1 F.2.2.1 hD h) (fun r2 s1 h => ?_)
  refine r_icmp_gt ok 53 d_Wa_leastQuarrel_9 (by decide) h.1 h.2.1 (fun c => ?_) (fun c => ?_)
  · replace h := h.2.2.1 c
    refine r_iload_n ok 1 d_Wa_leastQuarrel_53 rfl rfl ?_
    exact hQ _ _ _ _ _ (ok_code ok) d_Wa_leastQuarrel_54 h
  · replace h := h.2.2.2 c
    refine r_iload_n ok 1 d_Wa_leastQuarrel_12 rfl rfl ?_
    refine r_if_eq ok 27 d_Wa_leastQuarrel_13 (by decide) h.1 (fun c => ?_) (fun c => ?_)
    · replace h := h.2.1 c
      refine r_iconst ok 1 d_Wa_leastQuarrel_27 rfl ?_
      refine r_goto ok 32 d_Wa_leastQuarrel_28 (by decide) ?_
      exact r_sub [0, 1, 2] rfl h
    · replace h := h.2.2 c
      refine r_iload_n ok 2 d_Wa_leastQuarrel_16 rfl rfl ?_
      refine r_callSi (As := [vI x2]) (rest := []) ok wl_Wa_64 wt_y_Jl_bitCount wn_Jl wc_y_Jl_bitCount (by decide) (by decide) hh_Jl_bitCount (Nat.le_of_ble_eq_true rfl) rfl d_Wa_leastQuarrel_17 (L_Jl_bitCount F.1 F.2.1 F.2.2.1 hD h) (fun r4 s3 h => ?_)
      refine r_iload_n ok 1 d_Wa_leastQuarrel_20 rfl rfl ?_
      refine r_callSi (As := [vI x1]) (rest := [vI r4]) ok wl_Wa_64 wt_y_Jl_bitCount wn_Jl wc_y_Jl_bitCount (by decide) (by decide) hh_Jl_bitCount (Nat.le_of_ble_eq_true rfl) rfl d_Wa_leastQuarrel_21 (L_Jl_bitCount F.1 F.2.1 F.2.2.1 hD h) (fun r6 s5 h => ?_)
      refine r_icmp_ge ok 31 d_Wa_leastQuarrel_24 (by decide) h.1 h.2.1 (fun c => ?_) (fun c => ?_)
      · replace h := h.2.2.1 c
        refine r_iconst ok 0 d_Wa_leastQuarrel_31 rfl ?_
        exact r_sub [0, 1, 2] rfl h
      · replace h := h.2.2.2 c
        refine r_iconst ok 1 d_Wa_leastQuarrel_27 rfl ?_
        refine r_goto ok 32 d_Wa_leastQuarrel_28 (by decide) ?_
        exact r_sub [0, 1, 2] rfl h
set_option maxHeartbeats 4000000 in
set_option maxRecDepth 100000 in
theorem K_Wa_leastQuarrel_32 {F : FT} (hD : ∀ σ, va_D F.2.2.1 (GW F.2.1 σ)) (hm : F.2.2.2.2.2.2.2.2.2.2.2.2.2.2.1 = 4) (ok : OkF F prog_9_method_9_code "LastSeen$Walk" ({ frames := 1, cells := 0, slots := 0, locals := 22 } : Room)) {Q : Int → SS → Prop} (hQ : RetI F Q) {x1 x2 y0 : Int} {s : SS} (h : B_Wa_leastQuarrel_32 Q (fun x1 x2 s => AtS F 4 [(0, .ref (F.2.1.1 5)), (1, vI x1), (2, vI x2)] [] s) (fun x1 x2 y0 s => AtS F 32 [(0, .ref (F.2.1.1 5)), (1, vI x1), (2, vI x2)] [vI y0] s) x1 x2 y0 s) : AtS F 32 [(0, .ref (F.2.1.1 5)), (1, vI x1), (2, vI x2)] [vI y0] s := by
  unfold B_Wa_leastQuarrel_32 at h
  refine r_istore_n ok [(3, vI y0), (0, .ref (F.2.1.1 5)), (1, vI x1), (2, vI x2)] d_Wa_leastQuarrel_32 rfl hm (by decide) rfl ?_
  refine r_iload_n ok 0 d_Wa_leastQuarrel_33 rfl rfl ?_
  refine r_if_eq ok 47 d_Wa_leastQuarrel_34 (by decide) h.1 (fun c => ?_) (fun c => ?_)
  · replace h := h.2.1 c
    refine r_iinc ok 3 (x2 + 1) [(2, vI (x2 + 1)), (3, vI y0), (0, .ref (F.2.1.1 5)), (1, vI x1)] d_Wa_leastQuarrel_47 rfl rfl hm (by decide) rfl ?_
    refine r_goto ok 4 d_Wa_leastQuarrel_50 (by decide) ?_
    exact r_sub [2, 3, 0] rfl h
  · replace h := h.2.2 c
    refine r_aload_n ok 1 d_Wa_leastQuarrel_37 rfl rfl ?_
    refine r_iload_n ok 3 d_Wa_leastQuarrel_38 rfl rfl ?_
    refine r_callVi (As := [vI x2]) (rest := []) ok 5 rfl rfl rfl wl_Wa_40 wi_y_Wa_isWalkable ws_y_Wa_isWalkable wn_Wa wc_y_Wa_isWalkable (by decide) (by decide) hh_Wa_isWalkable (Nat.le_of_ble_eq_true rfl) rfl d_Wa_leastQuarrel_39 (L_Wa_isWalkable F.1 F.2.1 F.2.2.1 hD h) (fun r8 s7 h => ?_)
    refine r_if_ne ok 47 d_Wa_leastQuarrel_42 (by decide) h.1 (fun c => ?_) (fun c => ?_)
    · replace h := h.2.1 c
      refine r_iinc ok 3 (x2 + 1) [(2, vI (x2 + 1)), (3, vI y0), (0, .ref (F.2.1.1 5)), (1, vI x1)] d_Wa_leastQuarrel_47 rfl rfl hm (by decide) rfl ?_
      refine r_goto ok 4 d_Wa_leastQuarrel_50 (by decide) ?_
      exact r_sub [2, 3, 0] rfl h
    · replace h := h.2.2 c
      refine r_iload_n ok 3 d_Wa_leastQuarrel_45 rfl rfl ?_
      refine r_istore_n ok [(1, vI x2), (3, vI y0), (0, .ref (F.2.1.1 5)), (2, vI x2)] d_Wa_leastQuarrel_46 rfl hm (by decide) rfl ?_
      refine r_iinc ok 3 (x2 + 1) [(2, vI (x2 + 1)), (1, vI x2), (3, vI y0), (0, .ref (F.2.1.1 5))] d_Wa_leastQuarrel_47 rfl rfl hm (by decide) rfl ?_
      refine r_goto ok 4 d_Wa_leastQuarrel_50 (by decide) ?_
      exact r_sub [3, 1, 0] rfl h
set_option maxHeartbeats 4000000 in
set_option maxRecDepth 100000 in
theorem K_Wa_leastQuarrel_e {F : FT} (hD : ∀ σ, va_D F.2.2.1 (GW F.2.1 σ)) (hm : F.2.2.2.2.2.2.2.2.2.2.2.2.2.2.1 = 4) (ok : OkF F prog_9_method_9_code "LastSeen$Walk" ({ frames := 1, cells := 0, slots := 0, locals := 22 } : Room)) {Q : Int → SS → Prop} (hQ : RetI F Q) {s : SS} (h : B_Wa_leastQuarrel_e Q (fun x1 x2 s => AtS F 4 [(0, .ref (F.2.1.1 5)), (1, vI x1), (2, vI x2)] [] s) (fun x1 x2 y0 s => AtS F 32 [(0, .ref (F.2.1.1 5)), (1, vI x1), (2, vI x2)] [vI y0] s)  s) : AtS F 0 [(0, .ref (F.2.1.1 5))] [] s := by
  unfold B_Wa_leastQuarrel_e at h
  refine r_iconst ok 0 d_Wa_leastQuarrel_0 rfl ?_
  refine r_istore_n ok [(1, vI 0), (0, .ref (F.2.1.1 5))] d_Wa_leastQuarrel_1 rfl hm (by decide) rfl ?_
  refine r_iconst ok 1 d_Wa_leastQuarrel_2 rfl ?_
  refine r_istore_n ok [(2, vI 1), (1, vI 0), (0, .ref (F.2.1.1 5))] d_Wa_leastQuarrel_3 rfl hm (by decide) rfl ?_
  exact r_sub [2, 1, 0] rfl h
theorem L_Wa_leastQuarrel (l : Launch) (G : GE) (A : Nat → Prop) (hD : ∀ σ, va_D A (GW G σ)) {s : SS} {Q : Int → SS → Prop} (h : Sp_Wa_leastQuarrel  s Q) : Met l y_Wa_leastQuarrel (Cond.code y_Wa_leastQuarrel prog_9_method_9_code 4 (some .int) :: lw_ok) ({ frames := 1, cells := 0, slots := 0, locals := 22 } : Room) (va_Pc [.ref (G.1 5)] (gB G s)) (va_Qi (fun (r : Int32) (s2 : SS) => ∃ x : Int, r = iI x ∧ Q x s2) (fun s2 t => gB G s2 t) A) 0 0 A := by
  refine met_i hD (by decide) ⟨rfl, rfl⟩ (Nat.le_of_ble_eq_true rfl) (lv := [(0, .ref (G.1 5))]) rfl (fun F h1 h2 h3 hm ok hQ => ?_)
  subst h1 h2 h3
  have hDF := hD
  exact K_Wa_leastQuarrel_e hDF hm ok hQ (h _ _ (fun _ _ _ hb => K_Wa_leastQuarrel_4 hDF hm ok hQ hb) (fun _ _ _ _ hb => K_Wa_leastQuarrel_32 hDF hm ok hQ hb))
theorem d_He_leastQuarrel_0 : decode prog_4_method_16_code 0 = .ok (.aload_n 0, 1) := by decide +kernel
theorem d_He_leastQuarrel_1 : decode prog_4_method_16_code 1 = .ok (.getfield 32, 3) := by decide +kernel
theorem d_He_leastQuarrel_4 : decode prog_4_method_16_code 4 = .ok (.invokevirtual 145, 3) := by decide +kernel
theorem d_He_leastQuarrel_7 : decode prog_4_method_16_code 7 = .ok (.ireturn, 1) := by decide +kernel
set_option maxHeartbeats 4000000 in
set_option maxRecDepth 100000 in
theorem K_He_leastQuarrel_e {F : FT} (hD : ∀ σ, va_D F.2.2.1 (GW F.2.1 σ)) (hm : F.2.2.2.2.2.2.2.2.2.2.2.2.2.2.1 = 1) (ok : OkF F prog_4_method_16_code "LastSeen$Hearing" ({ frames := 2, cells := 0, slots := 0, locals := 45 } : Room)) {Q : Int → SS → Prop} (hQ : RetI F Q) {s : SS} (h : Sp_He_leastQuarrel  s Q) : AtS F 0 [(0, .ref (F.2.1.1 6))] [] s := by
  unfold Sp_He_leastQuarrel at h
  refine r_aload_n ok 0 d_He_leastQuarrel_0 rfl rfl ?_
  refine g_He_walk ok d_He_leastQuarrel_1 ?_
  refine r_callVi (As := []) (rest := []) ok 5 rfl rfl rfl wl_He_145 wi_y_Wa_leastQuarrel ws_y_Wa_leastQuarrel wn_Wa wc_y_Wa_leastQuarrel (by decide) (by decide) hh_Wa_leastQuarrel (Nat.le_of_ble_eq_true rfl) rfl d_He_leastQuarrel_4 (L_Wa_leastQuarrel F.1 F.2.1 F.2.2.1 hD h) (fun r2 s1 h => ?_)
  exact hQ _ _ _ _ _ (ok_code ok) d_He_leastQuarrel_7 h
theorem L_He_leastQuarrel (l : Launch) (G : GE) (A : Nat → Prop) (hD : ∀ σ, va_D A (GW G σ)) {s : SS} {Q : Int → SS → Prop} (h : Sp_He_leastQuarrel  s Q) : Met l y_He_leastQuarrel (Cond.code y_He_leastQuarrel prog_4_method_16_code 1 (some .int) :: lw_ok) ({ frames := 2, cells := 0, slots := 0, locals := 45 } : Room) (va_Pc [.ref (G.1 6)] (gB G s)) (va_Qi (fun (r : Int32) (s2 : SS) => ∃ x : Int, r = iI x ∧ Q x s2) (fun s2 t => gB G s2 t) A) 0 0 A := by
  refine met_i hD (by decide) ⟨rfl, rfl⟩ (Nat.le_of_ble_eq_true rfl) (lv := [(0, .ref (G.1 6))]) rfl (fun F h1 h2 h3 hm ok hQ => ?_)
  subst h1 h2 h3
  have hDF := hD
  exact K_He_leastQuarrel_e hDF hm ok hQ h
theorem d_LS_bitAt_0 : decode prog_1_method_39_code 0 = .ok (.iconst 0, 1) := by decide +kernel
theorem d_LS_bitAt_1 : decode prog_1_method_39_code 1 = .ok (.istore_n 2, 1) := by decide +kernel
theorem d_LS_bitAt_2 : decode prog_1_method_39_code 2 = .ok (.iconst 0, 1) := by decide +kernel
theorem d_LS_bitAt_3 : decode prog_1_method_39_code 3 = .ok (.istore_n 3, 1) := by decide +kernel
theorem d_LS_bitAt_4 : decode prog_1_method_39_code 4 = .ok (.iload_n 3, 1) := by decide +kernel
theorem d_LS_bitAt_5 : decode prog_1_method_39_code 5 = .ok (.bipush 32, 2) := by decide +kernel
theorem d_LS_bitAt_7 : decode prog_1_method_39_code 7 = .ok (.if_icmp .ge 30, 3) := by decide +kernel
theorem d_LS_bitAt_10 : decode prog_1_method_39_code 10 = .ok (.iload_n 0, 1) := by decide +kernel
theorem d_LS_bitAt_11 : decode prog_1_method_39_code 11 = .ok (.iload_n 3, 1) := by decide +kernel
theorem d_LS_bitAt_12 : decode prog_1_method_39_code 12 = .ok (.ishr, 1) := by decide +kernel
theorem d_LS_bitAt_13 : decode prog_1_method_39_code 13 = .ok (.iconst 1, 1) := by decide +kernel
theorem d_LS_bitAt_14 : decode prog_1_method_39_code 14 = .ok (.iand, 1) := by decide +kernel
theorem d_LS_bitAt_15 : decode prog_1_method_39_code 15 = .ok (.ifCond .ne 6, 3) := by decide +kernel
theorem d_LS_bitAt_18 : decode prog_1_method_39_code 18 = .ok (.goto 13, 3) := by decide +kernel
theorem d_LS_bitAt_21 : decode prog_1_method_39_code 21 = .ok (.iload_n 2, 1) := by decide +kernel
theorem d_LS_bitAt_22 : decode prog_1_method_39_code 22 = .ok (.iload_n 1, 1) := by decide +kernel
theorem d_LS_bitAt_23 : decode prog_1_method_39_code 23 = .ok (.if_icmp .ne 5, 3) := by decide +kernel
theorem d_LS_bitAt_26 : decode prog_1_method_39_code 26 = .ok (.iload_n 3, 1) := by decide +kernel
theorem d_LS_bitAt_27 : decode prog_1_method_39_code 27 = .ok (.ireturn, 1) := by decide +kernel
theorem d_LS_bitAt_28 : decode prog_1_method_39_code 28 = .ok (.iinc 2 1, 3) := by decide +kernel
theorem d_LS_bitAt_31 : decode prog_1_method_39_code 31 = .ok (.iinc 3 1, 3) := by decide +kernel
theorem d_LS_bitAt_34 : decode prog_1_method_39_code 34 = .ok (.goto (-30), 3) := by decide +kernel
theorem d_LS_bitAt_37 : decode prog_1_method_39_code 37 = .ok (.iconst (-1), 1) := by decide +kernel
theorem d_LS_bitAt_38 : decode prog_1_method_39_code 38 = .ok (.ireturn, 1) := by decide +kernel
set_option maxHeartbeats 4000000 in
set_option maxRecDepth 100000 in
theorem K_LS_bitAt_4 {F : FT} (hD : ∀ σ, va_D F.2.2.1 (GW F.2.1 σ)) (hm : F.2.2.2.2.2.2.2.2.2.2.2.2.2.2.1 = 4) (ok : OkF F prog_1_method_39_code "LastSeen" ({ frames := 0, cells := 0, slots := 0, locals := 0 } : Room)) {Q : Int → SS → Prop} (hQ : RetI F Q) {x0 x1 x2 x3 : Int} {s : SS} (h : B_LS_bitAt_4 Q (fun x0 x1 x2 x3 s => AtS F 4 [(0, vI x0), (1, vI x1), (2, vI x2), (3, vI x3)] [] s) x0 x1 x2 x3 s) : AtS F 4 [(0, vI x0), (1, vI x1), (2, vI x2), (3, vI x3)] [] s := by
  unfold B_LS_bitAt_4 at h
  refine r_iload_n ok 3 d_LS_bitAt_4 rfl rfl ?_
  refine r_bipush ok 32 d_LS_bitAt_5 (by decide) ?_
  refine r_icmp_ge ok 37 d_LS_bitAt_7 (by decide) h.1 (by decide) (fun c => ?_) (fun c => ?_)
  · replace h := h.2.1 c
    refine r_iconst ok (-1) d_LS_bitAt_37 rfl ?_
    exact hQ _ _ _ _ _ (ok_code ok) d_LS_bitAt_38 h
  · replace h := h.2.2 c
    refine r_iload_n ok 0 d_LS_bitAt_10 rfl rfl ?_
    refine r_iload_n ok 3 d_LS_bitAt_11 rfl rfl ?_
    refine r_ishr ok d_LS_bitAt_12 ?_
    refine r_iconst ok 1 d_LS_bitAt_13 rfl ?_
    refine r_iand ok d_LS_bitAt_14 ?_
    refine r_if_ne ok 21 d_LS_bitAt_15 (by decide) h.1 (fun c => ?_) (fun c => ?_)
    · replace h := h.2.1 c
      refine r_iload_n ok 2 d_LS_bitAt_21 rfl rfl ?_
      refine r_iload_n ok 1 d_LS_bitAt_22 rfl rfl ?_
      refine r_icmp_ne ok 28 d_LS_bitAt_23 (by decide) h.1 h.2.1 (fun c => ?_) (fun c => ?_)
      · replace h := h.2.2.1 c
        refine r_iinc ok 2 (x2 + 1) [(2, vI (x2 + 1)), (0, vI x0), (1, vI x1), (3, vI x3)] d_LS_bitAt_28 rfl rfl hm (by decide) rfl ?_
        refine r_iinc ok 3 (x3 + 1) [(3, vI (x3 + 1)), (2, vI (x2 + 1)), (0, vI x0), (1, vI x1)] d_LS_bitAt_31 rfl rfl hm (by decide) rfl ?_
        refine r_goto ok 4 d_LS_bitAt_34 (by decide) ?_
        exact r_sub [2, 3, 1, 0] rfl h
      · replace h := h.2.2.2 c
        refine r_iload_n ok 3 d_LS_bitAt_26 rfl rfl ?_
        exact hQ _ _ _ _ _ (ok_code ok) d_LS_bitAt_27 h
    · replace h := h.2.2 c
      refine r_goto ok 31 d_LS_bitAt_18 (by decide) ?_
      refine r_iinc ok 3 (x3 + 1) [(3, vI (x3 + 1)), (0, vI x0), (1, vI x1), (2, vI x2)] d_LS_bitAt_31 rfl rfl hm (by decide) rfl ?_
      refine r_goto ok 4 d_LS_bitAt_34 (by decide) ?_
      exact r_sub [1, 2, 3, 0] rfl h
set_option maxHeartbeats 4000000 in
set_option maxRecDepth 100000 in
theorem K_LS_bitAt_e {F : FT} (hD : ∀ σ, va_D F.2.2.1 (GW F.2.1 σ)) (hm : F.2.2.2.2.2.2.2.2.2.2.2.2.2.2.1 = 4) (ok : OkF F prog_1_method_39_code "LastSeen" ({ frames := 0, cells := 0, slots := 0, locals := 0 } : Room)) {Q : Int → SS → Prop} (hQ : RetI F Q) {x0 x1 : Int} {s : SS} (h : B_LS_bitAt_e Q (fun x0 x1 x2 x3 s => AtS F 4 [(0, vI x0), (1, vI x1), (2, vI x2), (3, vI x3)] [] s) x0 x1 s) : AtS F 0 [(0, vI x0), (1, vI x1)] [] s := by
  unfold B_LS_bitAt_e at h
  refine r_iconst ok 0 d_LS_bitAt_0 rfl ?_
  refine r_istore_n ok [(2, vI 0), (0, vI x0), (1, vI x1)] d_LS_bitAt_1 rfl hm (by decide) rfl ?_
  refine r_iconst ok 0 d_LS_bitAt_2 rfl ?_
  refine r_istore_n ok [(3, vI 0), (2, vI 0), (0, vI x0), (1, vI x1)] d_LS_bitAt_3 rfl hm (by decide) rfl ?_
  exact r_sub [2, 3, 1, 0] rfl h
theorem L_LS_bitAt (l : Launch) (G : GE) (A : Nat → Prop) (hD : ∀ σ, va_D A (GW G σ)) {x0 x1 : Int} {s : SS} {Q : Int → SS → Prop} (h : Sp_LS_bitAt x0 x1 s Q) : Met l y_LS_bitAt (Cond.code y_LS_bitAt prog_1_method_39_code 4 (some .int) :: lw_ok) ({ frames := 0, cells := 0, slots := 0, locals := 0 } : Room) (va_Pc [vI x0, vI x1] (gB G s)) (va_Qi (fun (r : Int32) (s2 : SS) => ∃ x : Int, r = iI x ∧ Q x s2) (fun s2 t => gB G s2 t) A) 0 0 A := by
  refine met_i hD (by decide) ⟨rfl, rfl⟩ (Nat.le_of_ble_eq_true rfl) (lv := [(0, vI x0), (1, vI x1)]) rfl (fun F h1 h2 h3 hm ok hQ => ?_)
  subst h1 h2 h3
  have hDF := hD
  exact K_LS_bitAt_e hDF hm ok hQ (h _ (fun _ _ _ _ _ hb => K_LS_bitAt_4 hDF hm ok hQ hb))
theorem d_LS_quarrel_0 : decode prog_1_method_18_code 0 = .ok (.aload_n 0, 1) := by decide +kernel
theorem d_LS_quarrel_1 : decode prog_1_method_18_code 1 = .ok (.iload_n 2, 1) := by decide +kernel
theorem d_LS_quarrel_2 : decode prog_1_method_18_code 2 = .ok (.invokevirtual 146, 3) := by decide +kernel
theorem d_LS_quarrel_5 : decode prog_1_method_18_code 5 = .ok (.istore 4, 2) := by decide +kernel
theorem d_LS_quarrel_7 : decode prog_1_method_18_code 7 = .ok (.aload_n 0, 1) := by decide +kernel
theorem d_LS_quarrel_8 : decode prog_1_method_18_code 8 = .ok (.iload_n 1, 1) := by decide +kernel
theorem d_LS_quarrel_9 : decode prog_1_method_18_code 9 = .ok (.iload 4, 2) := by decide +kernel
theorem d_LS_quarrel_11 : decode prog_1_method_18_code 11 = .ok (.invokevirtual 149, 3) := by decide +kernel
theorem d_LS_quarrel_14 : decode prog_1_method_18_code 14 = .ok (.ifCond .eq 8, 3) := by decide +kernel
theorem d_LS_quarrel_17 : decode prog_1_method_18_code 17 = .ok (.iload_n 3, 1) := by decide +kernel
theorem d_LS_quarrel_18 : decode prog_1_method_18_code 18 = .ok (.iconst (-1), 1) := by decide +kernel
theorem d_LS_quarrel_19 : decode prog_1_method_18_code 19 = .ok (.if_icmp .ge 5, 3) := by decide +kernel
theorem d_LS_quarrel_22 : decode prog_1_method_18_code 22 = .ok (.iconst (-1), 1) := by decide +kernel
theorem d_LS_quarrel_23 : decode prog_1_method_18_code 23 = .ok (.ireturn, 1) := by decide +kernel
theorem d_LS_quarrel_24 : decode prog_1_method_18_code 24 = .ok (.aload_n 0, 1) := by decide +kernel
theorem d_LS_quarrel_25 : decode prog_1_method_18_code 25 = .ok (.getfield 47, 3) := by decide +kernel
theorem d_LS_quarrel_28 : decode prog_1_method_18_code 28 = .ok (.iload_n 1, 1) := by decide +kernel
theorem d_LS_quarrel_29 : decode prog_1_method_18_code 29 = .ok (.iload 4, 2) := by decide +kernel
theorem d_LS_quarrel_31 : decode prog_1_method_18_code 31 = .ok (.iload 4, 2) := by decide +kernel
theorem d_LS_quarrel_33 : decode prog_1_method_18_code 33 = .ok (.invokevirtual 219, 3) := by decide +kernel
theorem d_LS_quarrel_36 : decode prog_1_method_18_code 36 = .ok (.aload_n 0, 1) := by decide +kernel
theorem d_LS_quarrel_37 : decode prog_1_method_18_code 37 = .ok (.getfield 47, 3) := by decide +kernel
theorem d_LS_quarrel_40 : decode prog_1_method_18_code 40 = .ok (.invokevirtual 232, 3) := by decide +kernel
theorem d_LS_quarrel_43 : decode prog_1_method_18_code 43 = .ok (.aload_n 0, 1) := by decide +kernel
theorem d_LS_quarrel_44 : decode prog_1_method_18_code 44 = .ok (.getfield 47, 3) := by decide +kernel
theorem d_LS_quarrel_47 : decode prog_1_method_18_code 47 = .ok (.invokevirtual 235, 3) := by decide +kernel
theorem d_LS_quarrel_50 : decode prog_1_method_18_code 50 = .ok (.ifCond .eq 6, 3) := by decide +kernel
theorem d_LS_quarrel_53 : decode prog_1_method_18_code 53 = .ok (.bipush (-3), 2) := by decide +kernel
theorem d_LS_quarrel_55 : decode prog_1_method_18_code 55 = .ok (.ireturn, 1) := by decide +kernel
theorem d_LS_quarrel_56 : decode prog_1_method_18_code 56 = .ok (.aload_n 0, 1) := by decide +kernel
theorem d_LS_quarrel_57 : decode prog_1_method_18_code 57 = .ok (.getfield 47, 3) := by decide +kernel
theorem d_LS_quarrel_60 : decode prog_1_method_18_code 60 = .ok (.invokevirtual 238, 3) := by decide +kernel
theorem d_LS_quarrel_63 : decode prog_1_method_18_code 63 = .ok (.istore 5, 2) := by decide +kernel
theorem d_LS_quarrel_65 : decode prog_1_method_18_code 65 = .ok (.iload_n 3, 1) := by decide +kernel
theorem d_LS_quarrel_66 : decode prog_1_method_18_code 66 = .ok (.iconst (-1), 1) := by decide +kernel
theorem d_LS_quarrel_67 : decode prog_1_method_18_code 67 = .ok (.if_icmp .ne 9, 3) := by decide +kernel
theorem d_LS_quarrel_70 : decode prog_1_method_18_code 70 = .ok (.iload 5, 2) := by decide +kernel
theorem d_LS_quarrel_72 : decode prog_1_method_18_code 72 = .ok (.invokestatic 241, 3) := by decide +kernel
theorem d_LS_quarrel_75 : decode prog_1_method_18_code 75 = .ok (.ireturn, 1) := by decide +kernel
theorem d_LS_quarrel_76 : decode prog_1_method_18_code 76 = .ok (.iload 5, 2) := by decide +kernel
theorem d_LS_quarrel_78 : decode prog_1_method_18_code 78 = .ok (.iload_n 3, 1) := by decide +kernel
theorem d_LS_quarrel_79 : decode prog_1_method_18_code 79 = .ok (.invokestatic 246, 3) := by decide +kernel
theorem d_LS_quarrel_82 : decode prog_1_method_18_code 82 = .ok (.istore 6, 2) := by decide +kernel
theorem d_LS_quarrel_84 : decode prog_1_method_18_code 84 = .ok (.iload 6, 2) := by decide +kernel
theorem d_LS_quarrel_86 : decode prog_1_method_18_code 86 = .ok (.ifCond .ge 5, 3) := by decide +kernel
theorem d_LS_quarrel_89 : decode prog_1_method_18_code 89 = .ok (.iconst (-1), 1) := by decide +kernel
theorem d_LS_quarrel_90 : decode prog_1_method_18_code 90 = .ok (.ireturn, 1) := by decide +kernel
theorem d_LS_quarrel_91 : decode prog_1_method_18_code 91 = .ok (.aload_n 0, 1) := by decide +kernel
theorem d_LS_quarrel_92 : decode prog_1_method_18_code 92 = .ok (.getfield 47, 3) := by decide +kernel
theorem d_LS_quarrel_95 : decode prog_1_method_18_code 95 = .ok (.iload 6, 2) := by decide +kernel
theorem d_LS_quarrel_97 : decode prog_1_method_18_code 97 = .ok (.invokevirtual 226, 3) := by decide +kernel
theorem d_LS_quarrel_100 : decode prog_1_method_18_code 100 = .ok (.ireturn, 1) := by decide +kernel
set_option maxHeartbeats 4000000 in
set_option maxRecDepth 100000 in
theorem K_LS_quarrel_e {F : FT} (hD : ∀ σ, va_D F.2.2.1 (GW F.2.1 σ)) (hm : F.2.2.2.2.2.2.2.2.2.2.2.2.2.2.1 = 7) (ok : OkF F prog_1_method_18_code "LastSeen" ({ frames := 4, cells := 0, slots := 0, locals := 90 } : Room)) {Q : Int → SS → Prop} (hQ : RetI F Q) {x1 x2 x3 : Int} {s : SS} (h : Sp_LS_quarrel x1 x2 x3 s Q) : AtS F 0 [(0, .ref (F.2.1.1 0)), (1, vI x1), (2, vI x2), (3, vI x3)] [] s := by
  unfold Sp_LS_quarrel at h
  refine r_aload_n ok 0 d_LS_quarrel_0 rfl rfl ?_
  refine r_iload_n ok 2 d_LS_quarrel_1 rfl rfl ?_
  refine r_callVi (As := [vI x2]) (rest := []) ok 0 rfl rfl rfl wl_LS_146 wi_y_LS_upTo ws_y_LS_upTo wn_LS wc_y_LS_upTo (by decide) (by decide) hh_LS_upTo (Nat.le_of_ble_eq_true rfl) rfl d_LS_quarrel_2 (L_LS_upTo F.1 F.2.1 F.2.2.1 hD h) (fun r2 s1 h => ?_)
  refine r_istore ok [(4, vI r2), (0, .ref (F.2.1.1 0)), (1, vI x1), (2, vI x2), (3, vI x3)] d_LS_quarrel_5 hm (by decide) rfl ?_
  refine r_aload_n ok 1 d_LS_quarrel_7 rfl rfl ?_
  refine r_iload_n ok 2 d_LS_quarrel_8 rfl rfl ?_
  refine r_iload ok 0 d_LS_quarrel_9 rfl ?_
  refine r_callVi (As := [vI x1, vI r2]) (rest := []) ok 0 rfl rfl rfl wl_LS_149 wi_y_LS_isNameBy ws_y_LS_isNameBy wn_LS wc_y_LS_isNameBy (by decide) (by decide) hh_LS_isNameBy (Nat.le_of_ble_eq_true rfl) rfl d_LS_quarrel_11 (L_LS_isNameBy F.1 F.2.1 F.2.2.1 hD h) (fun r4 s3 h => ?_)
  refine r_if_eq ok 22 d_LS_quarrel_14 (by decide) h.1 (fun c => ?_) (fun c => ?_)
  · replace h := h.2.1 c
    refine r_iconst ok (-1) d_LS_quarrel_22 rfl ?_
    exact hQ _ _ _ _ _ (ok_code ok) d_LS_quarrel_23 h
  · replace h := h.2.2 c
    refine r_iload_n ok 4 d_LS_quarrel_17 rfl rfl ?_
    refine r_iconst ok (-1) d_LS_quarrel_18 rfl ?_
    refine r_icmp_ge ok 24 d_LS_quarrel_19 (by decide) h.1 (by decide) (fun c => ?_) (fun c => ?_)
    · replace h := h.2.1 c
      refine r_aload_n ok 1 d_LS_quarrel_24 rfl rfl ?_
      refine g_LS_hearing ok d_LS_quarrel_25 ?_
      refine r_iload_n ok 2 d_LS_quarrel_28 rfl rfl ?_
      refine r_iload ok 0 d_LS_quarrel_29 rfl ?_
      refine r_iload ok 0 d_LS_quarrel_31 rfl ?_
      refine r_callVv (As := [vI x1, vI r2, vI r2]) (rest := []) ok 6 rfl rfl rfl wl_LS_219 wi_y_He_open ws_y_He_open wn_He wc_y_He_open (by decide) (by decide) hh_He_open (Nat.le_of_ble_eq_true rfl) rfl d_LS_quarrel_33 (L_He_open F.1 F.2.1 F.2.2.1 hD h) (fun s5 h => ?_)
      refine r_aload_n ok 1 d_LS_quarrel_36 rfl rfl ?_
      refine g_LS_hearing ok d_LS_quarrel_37 ?_
      refine r_callVv (As := []) (rest := []) ok 6 rfl rfl rfl wl_LS_232 wi_y_He_weigh ws_y_He_weigh wn_He wc_y_He_weigh (by decide) (by decide) hh_He_weigh (Nat.le_of_ble_eq_true rfl) rfl d_LS_quarrel_40 (L_He_weigh F.1 F.2.1 F.2.2.1 hD h) (fun s6 h => ?_)
      refine r_aload_n ok 1 d_LS_quarrel_43 rfl rfl ?_
      refine g_LS_hearing ok d_LS_quarrel_44 ?_
      refine r_callVi (As := []) (rest := []) ok 6 rfl rfl rfl wl_LS_235 wi_y_He_agrees ws_y_He_agrees wn_He wc_y_He_agrees (by decide) (by decide) hh_He_agrees (Nat.le_of_ble_eq_true rfl) rfl d_LS_quarrel_47 (L_He_agrees F.1 F.2.1 F.2.2.1 hD h) (fun r8 s7 h => ?_)
      refine r_if_eq ok 56 d_LS_quarrel_50 (by decide) h.1 (fun c => ?_) (fun c => ?_)
      · replace h := h.2.1 c
        refine r_aload_n ok 1 d_LS_quarrel_56 rfl rfl ?_
        refine g_LS_hearing ok d_LS_quarrel_57 ?_
        refine r_callVi (As := []) (rest := []) ok 6 rfl rfl rfl wl_LS_238 wi_y_He_leastQuarrel ws_y_He_leastQuarrel wn_He wc_y_He_leastQuarrel (by decide) (by decide) hh_He_leastQuarrel (Nat.le_of_ble_eq_true rfl) rfl d_LS_quarrel_60 (L_He_leastQuarrel F.1 F.2.1 F.2.2.1 hD h) (fun r10 s9 h => ?_)
        refine r_istore ok [(5, vI r10), (4, vI r2), (0, .ref (F.2.1.1 0)), (1, vI x1), (2, vI x2), (3, vI x3)] d_LS_quarrel_63 hm (by decide) rfl ?_
        refine r_iload_n ok 5 d_LS_quarrel_65 rfl rfl ?_
        refine r_iconst ok (-1) d_LS_quarrel_66 rfl ?_
        refine r_icmp_ne ok 76 d_LS_quarrel_67 (by decide) h.1 (by decide) (fun c => ?_) (fun c => ?_)
        · replace h := h.2.1 c
          refine r_iload ok 0 d_LS_quarrel_76 rfl ?_
          refine r_iload_n ok 5 d_LS_quarrel_78 rfl rfl ?_
          refine r_callSi (As := [vI r10, vI x3]) (rest := []) ok wl_LS_246 wt_y_LS_bitAt wn_LS wc_y_LS_bitAt (by decide) (by decide) hh_LS_bitAt (Nat.le_of_ble_eq_true rfl) rfl d_LS_quarrel_79 (L_LS_bitAt F.1 F.2.1 F.2.2.1 hD h) (fun r12 s11 h => ?_)
          refine r_istore ok [(6, vI r12), (5, vI r10), (4, vI r2), (0, .ref (F.2.1.1 0)), (1, vI x1), (2, vI x2), (3, vI x3)] d_LS_quarrel_82 hm (by decide) rfl ?_
          refine r_iload ok 0 d_LS_quarrel_84 rfl ?_
          refine r_if_ge ok 91 d_LS_quarrel_86 (by decide) h.1 (fun c => ?_) (fun c => ?_)
          · replace h := h.2.1 c
            refine r_aload_n ok 3 d_LS_quarrel_91 rfl rfl ?_
            refine g_LS_hearing ok d_LS_quarrel_92 ?_
            refine r_iload ok 0 d_LS_quarrel_95 rfl ?_
            refine r_callVi (As := [vI r12]) (rest := []) ok 6 rfl rfl rfl wl_LS_226 wi_y_He_rootAt ws_y_He_rootAt wn_He wc_y_He_rootAt (by decide) (by decide) hh_He_rootAt (Nat.le_of_ble_eq_true rfl) rfl d_LS_quarrel_97 (L_He_rootAt F.1 F.2.1 F.2.2.1 hD h) (fun r14 s13 h => ?_)
            exact hQ _ _ _ _ _ (ok_code ok) d_LS_quarrel_100 h
          · replace h := h.2.2 c
            refine r_iconst ok (-1) d_LS_quarrel_89 rfl ?_
            exact hQ _ _ _ _ _ (ok_code ok) d_LS_quarrel_90 h
        · replace h := h.2.2 c
          refine r_iload ok 0 d_LS_quarrel_70 rfl ?_
          refine r_callSi (As := [vI r10]) (rest := []) ok wl_LS_241 wt_y_Jl_bitCount wn_Jl wc_y_Jl_bitCount (by decide) (by decide) hh_Jl_bitCount (Nat.le_of_ble_eq_true rfl) rfl d_LS_quarrel_72 (L_Jl_bitCount F.1 F.2.1 F.2.2.1 hD h) (fun r16 s15 h => ?_)
          exact hQ _ _ _ _ _ (ok_code ok) d_LS_quarrel_75 h
      · replace h := h.2.2 c
        refine r_bipush ok (-3) d_LS_quarrel_53 (by decide) ?_
        exact hQ _ _ _ _ _ (ok_code ok) d_LS_quarrel_55 h
    · replace h := h.2.2 c
      refine r_iconst ok (-1) d_LS_quarrel_22 rfl ?_
      exact hQ _ _ _ _ _ (ok_code ok) d_LS_quarrel_23 h
theorem L_LS_quarrel (l : Launch) (G : GE) (A : Nat → Prop) (hD : ∀ σ, va_D A (GW G σ)) {x1 x2 x3 : Int} {s : SS} {Q : Int → SS → Prop} (h : Sp_LS_quarrel x1 x2 x3 s Q) : Met l y_LS_quarrel (Cond.code y_LS_quarrel prog_1_method_18_code 7 (some .int) :: lw_ok) ({ frames := 4, cells := 0, slots := 0, locals := 90 } : Room) (va_Pc [.ref (G.1 0), vI x1, vI x2, vI x3] (gB G s)) (va_Qi (fun (r : Int32) (s2 : SS) => ∃ x : Int, r = iI x ∧ Q x s2) (fun s2 t => gB G s2 t) A) 0 0 A := by
  refine met_i hD (by decide) ⟨rfl, rfl⟩ (Nat.le_of_ble_eq_true rfl) (lv := [(0, .ref (G.1 0)), (1, vI x1), (2, vI x2), (3, vI x3)]) rfl (fun F h1 h2 h3 hm ok hQ => ?_)
  subst h1 h2 h3
  have hDF := hD
  exact K_LS_quarrel_e hDF hm ok hQ h
theorem d_He_agreesWith_0 : decode prog_4_method_15_code 0 = .ok (.aload_n 0, 1) := by decide +kernel
theorem d_He_agreesWith_1 : decode prog_4_method_15_code 1 = .ok (.invokevirtual 129, 3) := by decide +kernel
theorem d_He_agreesWith_4 : decode prog_4_method_15_code 4 = .ok (.aload_n 0, 1) := by decide +kernel
theorem d_He_agreesWith_5 : decode prog_4_method_15_code 5 = .ok (.getfield 32, 3) := by decide +kernel
theorem d_He_agreesWith_8 : decode prog_4_method_15_code 8 = .ok (.iconst 1, 1) := by decide +kernel
theorem d_He_agreesWith_9 : decode prog_4_method_15_code 9 = .ok (.iload_n 1, 1) := by decide +kernel
theorem d_He_agreesWith_10 : decode prog_4_method_15_code 10 = .ok (.ishl, 1) := by decide +kernel
theorem d_He_agreesWith_11 : decode prog_4_method_15_code 11 = .ok (.iload_n 2, 1) := by decide +kernel
theorem d_He_agreesWith_12 : decode prog_4_method_15_code 12 = .ok (.iload_n 2, 1) := by decide +kernel
theorem d_He_agreesWith_13 : decode prog_4_method_15_code 13 = .ok (.invokevirtual 125, 3) := by decide +kernel
theorem d_He_agreesWith_16 : decode prog_4_method_15_code 16 = .ok (.aload_n 0, 1) := by decide +kernel
theorem d_He_agreesWith_17 : decode prog_4_method_15_code 17 = .ok (.getfield 32, 3) := by decide +kernel
theorem d_He_agreesWith_20 : decode prog_4_method_15_code 20 = .ok (.invokevirtual 132, 3) := by decide +kernel
theorem d_He_agreesWith_23 : decode prog_4_method_15_code 23 = .ok (.aload_n 0, 1) := by decide +kernel
theorem d_He_agreesWith_24 : decode prog_4_method_15_code 24 = .ok (.getfield 32, 3) := by decide +kernel
theorem d_He_agreesWith_27 : decode prog_4_method_15_code 27 = .ok (.aload_n 0, 1) := by decide +kernel
theorem d_He_agreesWith_28 : decode prog_4_method_15_code 28 = .ok (.getfield 32, 3) := by decide +kernel
theorem d_He_agreesWith_31 : decode prog_4_method_15_code 31 = .ok (.invokevirtual 135, 3) := by decide +kernel
theorem d_He_agreesWith_34 : decode prog_4_method_15_code 34 = .ok (.invokevirtual 138, 3) := by decide +kernel
theorem d_He_agreesWith_37 : decode prog_4_method_15_code 37 = .ok (.ireturn, 1) := by decide +kernel
set_option maxHeartbeats 4000000 in
set_option maxRecDepth 100000 in
theorem K_He_agreesWith_e {F : FT} (hD : ∀ σ, va_D F.2.2.1 (GW F.2.1 σ)) (hm : F.2.2.2.2.2.2.2.2.2.2.2.2.2.2.1 = 3) (ok : OkF F prog_4_method_15_code "LastSeen$Hearing" ({ frames := 3, cells := 0, slots := 0, locals := 68 } : Room)) {Q : Int → SS → Prop} (hQ : RetZ F Q) {x1 x2 : Int} {s : SS} (h : Sp_He_agreesWith x1 x2 s Q) : AtS F 0 [(0, .ref (F.2.1.1 6)), (1, vI x1), (2, vI x2)] [] s := by
  unfold Sp_He_agreesWith at h
  refine r_aload_n ok 0 d_He_agreesWith_0 rfl rfl ?_
  refine r_callVv (As := []) (rest := []) ok 6 rfl rfl rfl wl_He_129 wi_y_He_loadWalk ws_y_He_loadWalk wn_He wc_y_He_loadWalk (by decide) (by decide) hh_He_loadWalk (Nat.le_of_ble_eq_true rfl) rfl d_He_agreesWith_1 (L_He_loadWalk F.1 F.2.1 F.2.2.1 hD h) (fun s1 h => ?_)
  refine r_aload_n ok 0 d_He_agreesWith_4 rfl rfl ?_
  refine g_He_walk ok d_He_agreesWith_5 ?_
  refine r_iconst ok 1 d_He_agreesWith_8 rfl ?_
  refine r_iload_n ok 1 d_He_agreesWith_9 rfl rfl ?_
  refine r_ishl ok d_He_agreesWith_10 ?_
  refine r_iload_n ok 2 d_He_agreesWith_11 rfl rfl ?_
  refine r_iload_n ok 2 d_He_agreesWith_12 rfl rfl ?_
  refine r_callVv (As := [vI (shl 1 x1), vI x2, vI x2]) (rest := []) ok 5 rfl rfl rfl wl_He_125 wi_y_Wa_add ws_y_Wa_add wn_Wa wc_y_Wa_add (by decide) (by decide) hh_Wa_add (Nat.le_of_ble_eq_true rfl) rfl d_He_agreesWith_13 (L_Wa_add F.1 F.2.1 F.2.2.1 hD h) (fun s2 h => ?_)
  refine r_aload_n ok 0 d_He_agreesWith_16 rfl rfl ?_
  refine g_He_walk ok d_He_agreesWith_17 ?_
  refine r_callVv (As := []) (rest := []) ok 5 rfl rfl rfl wl_He_132 wi_y_Wa_go ws_y_Wa_go wn_Wa wc_y_Wa_go (by decide) (by decide) hh_Wa_go (Nat.le_of_ble_eq_true rfl) rfl d_He_agreesWith_20 (L_Wa_go F.1 F.2.1 F.2.2.1 hD h) (fun s3 h => ?_)
  refine r_aload_n ok 0 d_He_agreesWith_23 rfl rfl ?_
  refine g_He_walk ok d_He_agreesWith_24 ?_
  refine r_aload_n ok 0 d_He_agreesWith_27 rfl rfl ?_
  refine g_He_walk ok d_He_agreesWith_28 ?_
  refine r_callVi (As := []) (rest := [.ref (F.2.1.1 5)]) ok 5 rfl rfl rfl wl_He_135 wi_y_Wa_all ws_y_Wa_all wn_Wa wc_y_Wa_all (by decide) (by decide) hh_Wa_all (Nat.le_of_ble_eq_true rfl) rfl d_He_agreesWith_31 (L_Wa_all F.1 F.2.1 F.2.2.1 hD h) (fun r5 s4 h => ?_)
  refine r_callVi (As := [vI r5]) (rest := []) ok 5 rfl rfl rfl wl_He_138 wi_y_Wa_isWalkable ws_y_Wa_isWalkable wn_Wa wc_y_Wa_isWalkable (by decide) (by decide) hh_Wa_isWalkable (Nat.le_of_ble_eq_true rfl) rfl d_He_agreesWith_34 (L_Wa_isWalkable F.1 F.2.1 F.2.2.1 hD h) (fun r7 s6 h => ?_)
  exact hQ _ _ _ _ _ (ok_code ok) d_He_agreesWith_37 h.1 h.2
theorem L_He_agreesWith (l : Launch) (G : GE) (A : Nat → Prop) (hD : ∀ σ, va_D A (GW G σ)) {x1 x2 : Int} {s : SS} {Q : Int → SS → Prop} (h : Sp_He_agreesWith x1 x2 s Q) : Met l y_He_agreesWith (Cond.code y_He_agreesWith prog_4_method_15_code 3 (some .boolean) :: lw_ok) ({ frames := 3, cells := 0, slots := 0, locals := 68 } : Room) (va_Pc [.ref (G.1 6), vI x1, vI x2] (gB G s)) (va_Qi (fun (r : Int32) (s2 : SS) => ∃ x : Int, r = iI x ∧ Q x s2) (fun s2 t => gB G s2 t) A) 0 0 A := by
  refine met_z hD (by decide) ⟨rfl, rfl⟩ (Nat.le_of_ble_eq_true rfl) (lv := [(0, .ref (G.1 6)), (1, vI x1), (2, vI x2)]) rfl (fun F h1 h2 h3 hm ok hQ => ?_)
  subst h1 h2 h3
  have hDF := hD
  exact K_He_agreesWith_e hDF hm ok hQ h
theorem d_LS_could_0 : decode prog_1_method_19_code 0 = .ok (.aload_n 0, 1) := by decide +kernel
theorem d_LS_could_1 : decode prog_1_method_19_code 1 = .ok (.iload_n 2, 1) := by decide +kernel
theorem d_LS_could_2 : decode prog_1_method_19_code 2 = .ok (.invokevirtual 146, 3) := by decide +kernel
theorem d_LS_could_5 : decode prog_1_method_19_code 5 = .ok (.istore 5, 2) := by decide +kernel
theorem d_LS_could_7 : decode prog_1_method_19_code 7 = .ok (.aload_n 0, 1) := by decide +kernel
theorem d_LS_could_8 : decode prog_1_method_19_code 8 = .ok (.iload_n 1, 1) := by decide +kernel
theorem d_LS_could_9 : decode prog_1_method_19_code 9 = .ok (.iload 5, 2) := by decide +kernel
theorem d_LS_could_11 : decode prog_1_method_19_code 11 = .ok (.invokevirtual 149, 3) := by decide +kernel
theorem d_LS_could_14 : decode prog_1_method_19_code 14 = .ok (.ifCond .eq 10, 3) := by decide +kernel
theorem d_LS_could_17 : decode prog_1_method_19_code 17 = .ok (.iload_n 3, 1) := by decide +kernel
theorem d_LS_could_18 : decode prog_1_method_19_code 18 = .ok (.invokestatic 87, 3) := by decide +kernel
theorem d_LS_could_21 : decode prog_1_method_19_code 21 = .ok (.ifCond .ne 5, 3) := by decide +kernel
theorem d_LS_could_24 : decode prog_1_method_19_code 24 = .ok (.iconst (-1), 1) := by decide +kernel
theorem d_LS_could_25 : decode prog_1_method_19_code 25 = .ok (.ireturn, 1) := by decide +kernel
theorem d_LS_could_26 : decode prog_1_method_19_code 26 = .ok (.iload 4, 2) := by decide +kernel
theorem d_LS_could_28 : decode prog_1_method_19_code 28 = .ok (.invokestatic 185, 3) := by decide +kernel
theorem d_LS_could_31 : decode prog_1_method_19_code 31 = .ok (.ifCond .ne 6, 3) := by decide +kernel
theorem d_LS_could_34 : decode prog_1_method_19_code 34 = .ok (.bipush (-2), 2) := by decide +kernel
theorem d_LS_could_36 : decode prog_1_method_19_code 36 = .ok (.ireturn, 1) := by decide +kernel
theorem d_LS_could_37 : decode prog_1_method_19_code 37 = .ok (.aload_n 0, 1) := by decide +kernel
theorem d_LS_could_38 : decode prog_1_method_19_code 38 = .ok (.getfield 47, 3) := by decide +kernel
theorem d_LS_could_41 : decode prog_1_method_19_code 41 = .ok (.iload_n 1, 1) := by decide +kernel
theorem d_LS_could_42 : decode prog_1_method_19_code 42 = .ok (.iload 5, 2) := by decide +kernel
theorem d_LS_could_44 : decode prog_1_method_19_code 44 = .ok (.iload 5, 2) := by decide +kernel
theorem d_LS_could_46 : decode prog_1_method_19_code 46 = .ok (.invokevirtual 219, 3) := by decide +kernel
theorem d_LS_could_49 : decode prog_1_method_19_code 49 = .ok (.aload_n 0, 1) := by decide +kernel
theorem d_LS_could_50 : decode prog_1_method_19_code 50 = .ok (.getfield 47, 3) := by decide +kernel
theorem d_LS_could_53 : decode prog_1_method_19_code 53 = .ok (.iload_n 3, 1) := by decide +kernel
theorem d_LS_could_54 : decode prog_1_method_19_code 54 = .ok (.iload 4, 2) := by decide +kernel
theorem d_LS_could_56 : decode prog_1_method_19_code 56 = .ok (.invokevirtual 249, 3) := by decide +kernel
theorem d_LS_could_59 : decode prog_1_method_19_code 59 = .ok (.invokestatic 160, 3) := by decide +kernel
theorem d_LS_could_62 : decode prog_1_method_19_code 62 = .ok (.ireturn, 1) := by decide +kernel
set_option maxHeartbeats 4000000 in
set_option maxRecDepth 100000 in
theorem K_LS_could_e {F : FT} (hD : ∀ σ, va_D F.2.2.1 (GW F.2.1 σ)) (hm : F.2.2.2.2.2.2.2.2.2.2.2.2.2.2.1 = 6) (ok : OkF F prog_1_method_19_code "LastSeen" ({ frames := 4, cells := 0, slots := 0, locals := 90 } : Room)) {Q : Int → SS → Prop} (hQ : RetI F Q) {x1 x2 x3 x4 : Int} {s : SS} (h : Sp_LS_could x1 x2 x3 x4 s Q) : AtS F 0 [(0, .ref (F.2.1.1 0)), (1, vI x1), (2, vI x2), (3, vI x3), (4, vI x4)] [] s := by
  unfold Sp_LS_could at h
  refine r_aload_n ok 0 d_LS_could_0 rfl rfl ?_
  refine r_iload_n ok 2 d_LS_could_1 rfl rfl ?_
  refine r_callVi (As := [vI x2]) (rest := []) ok 0 rfl rfl rfl wl_LS_146 wi_y_LS_upTo ws_y_LS_upTo wn_LS wc_y_LS_upTo (by decide) (by decide) hh_LS_upTo (Nat.le_of_ble_eq_true rfl) rfl d_LS_could_2 (L_LS_upTo F.1 F.2.1 F.2.2.1 hD h) (fun r2 s1 h => ?_)
  refine r_istore ok [(5, vI r2), (0, .ref (F.2.1.1 0)), (1, vI x1), (2, vI x2), (3, vI x3), (4, vI x4)] d_LS_could_5 hm (by decide) rfl ?_
  refine r_aload_n ok 1 d_LS_could_7 rfl rfl ?_
  refine r_iload_n ok 2 d_LS_could_8 rfl rfl ?_
  refine r_iload ok 0 d_LS_could_9 rfl ?_
  refine r_callVi (As := [vI x1, vI r2]) (rest := []) ok 0 rfl rfl rfl wl_LS_149 wi_y_LS_isNameBy ws_y_LS_isNameBy wn_LS wc_y_LS_isNameBy (by decide) (by decide) hh_LS_isNameBy (Nat.le_of_ble_eq_true rfl) rfl d_LS_could_11 (L_LS_isNameBy F.1 F.2.1 F.2.2.1 hD h) (fun r4 s3 h => ?_)
  refine r_if_eq ok 24 d_LS_could_14 (by decide) h.1 (fun c => ?_) (fun c => ?_)
  · replace h := h.2.1 c
    refine r_iconst ok (-1) d_LS_could_24 rfl ?_
    exact hQ _ _ _ _ _ (ok_code ok) d_LS_could_25 h
  · replace h := h.2.2 c
    refine r_iload_n ok 4 d_LS_could_17 rfl rfl ?_
    refine r_callSi (As := [vI x3]) (rest := []) ok wl_LS_87 wt_y_La_isPlace wn_La wc_y_La_isPlace (by decide) (by decide) hh_La_isPlace (Nat.le_of_ble_eq_true rfl) rfl d_LS_could_18 (L_La_isPlace F.1 F.2.1 F.2.2.1 hD h) (fun r6 s5 h => ?_)
    refine r_if_ne ok 26 d_LS_could_21 (by decide) h.1 (fun c => ?_) (fun c => ?_)
    · replace h := h.2.1 c
      refine r_iload ok 5 d_LS_could_26 rfl ?_
      refine r_callSi (As := [vI x4]) (rest := []) ok wl_LS_185 wt_y_LS_isWatch wn_LS wc_y_LS_isWatch (by decide) (by decide) hh_LS_isWatch (Nat.le_of_ble_eq_true rfl) rfl d_LS_could_28 (L_LS_isWatch F.1 F.2.1 F.2.2.1 hD h) (fun r8 s7 h => ?_)
      refine r_if_ne ok 37 d_LS_could_31 (by decide) h.1 (fun c => ?_) (fun c => ?_)
      · replace h := h.2.1 c
        refine r_aload_n ok 1 d_LS_could_37 rfl rfl ?_
        refine g_LS_hearing ok d_LS_could_38 ?_
        refine r_iload_n ok 2 d_LS_could_41 rfl rfl ?_
        refine r_iload ok 0 d_LS_could_42 rfl ?_
        refine r_iload ok 0 d_LS_could_44 rfl ?_
        refine r_callVv (As := [vI x1, vI r2, vI r2]) (rest := []) ok 6 rfl rfl rfl wl_LS_219 wi_y_He_open ws_y_He_open wn_He wc_y_He_open (by decide) (by decide) hh_He_open (Nat.le_of_ble_eq_true rfl) rfl d_LS_could_46 (L_He_open F.1 F.2.1 F.2.2.1 hD h) (fun s9 h => ?_)
        refine r_aload_n ok 1 d_LS_could_49 rfl rfl ?_
        refine g_LS_hearing ok d_LS_could_50 ?_
        refine r_iload_n ok 4 d_LS_could_53 rfl rfl ?_
        refine r_iload ok 5 d_LS_could_54 rfl ?_
        refine r_callVi (As := [vI x3, vI x4]) (rest := []) ok 6 rfl rfl rfl wl_LS_249 wi_y_He_agreesWith ws_y_He_agreesWith wn_He wc_y_He_agreesWith (by decide) (by decide) hh_He_agreesWith (Nat.le_of_ble_eq_true rfl) rfl d_LS_could_56 (L_He_agreesWith F.1 F.2.1 F.2.2.1 hD h) (fun r11 s10 h => ?_)
        refine r_callSi (As := [vI r11]) (rest := []) ok wl_LS_160 wt_y_LS_bit wn_LS wc_y_LS_bit (by decide) (by decide) hh_LS_bit (Nat.le_of_ble_eq_true rfl) rfl d_LS_could_59 (L_LS_bit F.1 F.2.1 F.2.2.1 hD h) (fun r13 s12 h => ?_)
        exact hQ _ _ _ _ _ (ok_code ok) d_LS_could_62 h
      · replace h := h.2.2 c
        refine r_bipush ok (-2) d_LS_could_34 (by decide) ?_
        exact hQ _ _ _ _ _ (ok_code ok) d_LS_could_36 h
    · replace h := h.2.2 c
      refine r_iconst ok (-1) d_LS_could_24 rfl ?_
      exact hQ _ _ _ _ _ (ok_code ok) d_LS_could_25 h
theorem L_LS_could (l : Launch) (G : GE) (A : Nat → Prop) (hD : ∀ σ, va_D A (GW G σ)) {x1 x2 x3 x4 : Int} {s : SS} {Q : Int → SS → Prop} (h : Sp_LS_could x1 x2 x3 x4 s Q) : Met l y_LS_could (Cond.code y_LS_could prog_1_method_19_code 6 (some .int) :: lw_ok) ({ frames := 4, cells := 0, slots := 0, locals := 90 } : Room) (va_Pc [.ref (G.1 0), vI x1, vI x2, vI x3, vI x4] (gB G s)) (va_Qi (fun (r : Int32) (s2 : SS) => ∃ x : Int, r = iI x ∧ Q x s2) (fun s2 t => gB G s2 t) A) 0 0 A := by
  refine met_i hD (by decide) ⟨rfl, rfl⟩ (Nat.le_of_ble_eq_true rfl) (lv := [(0, .ref (G.1 0)), (1, vI x1), (2, vI x2), (3, vI x3), (4, vI x4)]) rfl (fun F h1 h2 h3 hm ok hQ => ?_)
  subst h1 h2 h3
  have hDF := hD
  exact K_LS_could_e hDF hm ok hQ h
theorem d_He_latestRoot_0 : decode prog_4_method_9_code 0 = .ok (.aload_n 0, 1) := by decide +kernel
theorem d_He_latestRoot_1 : decode prog_4_method_9_code 1 = .ok (.getfield 102, 3) := by decide +kernel
theorem d_He_latestRoot_4 : decode prog_4_method_9_code 4 = .ok (.ireturn, 1) := by decide +kernel
set_option maxHeartbeats 4000000 in
set_option maxRecDepth 100000 in
theorem K_He_latestRoot_e {F : FT} (hD : ∀ σ, va_D F.2.2.1 (GW F.2.1 σ)) (hm : F.2.2.2.2.2.2.2.2.2.2.2.2.2.2.1 = 1) (ok : OkF F prog_4_method_9_code "LastSeen$Hearing" ({ frames := 0, cells := 0, slots := 0, locals := 0 } : Room)) {Q : Int → SS → Prop} (hQ : RetI F Q) {s : SS} (h : Sp_He_latestRoot  s Q) : AtS F 0 [(0, .ref (F.2.1.1 6))] [] s := by
  unfold Sp_He_latestRoot at h
  refine r_aload_n ok 0 d_He_latestRoot_0 rfl rfl ?_
  refine g_He_latest ok d_He_latestRoot_1 ?_
  exact hQ _ _ _ _ _ (ok_code ok) d_He_latestRoot_4 h
theorem L_He_latestRoot (l : Launch) (G : GE) (A : Nat → Prop) (hD : ∀ σ, va_D A (GW G σ)) {s : SS} {Q : Int → SS → Prop} (h : Sp_He_latestRoot  s Q) : Met l y_He_latestRoot (Cond.code y_He_latestRoot prog_4_method_9_code 1 (some .int) :: lw_ok) ({ frames := 0, cells := 0, slots := 0, locals := 0 } : Room) (va_Pc [.ref (G.1 6)] (gB G s)) (va_Qi (fun (r : Int32) (s2 : SS) => ∃ x : Int, r = iI x ∧ Q x s2) (fun s2 t => gB G s2 t) A) 0 0 A := by
  refine met_i hD (by decide) ⟨rfl, rfl⟩ (Nat.le_of_ble_eq_true rfl) (lv := [(0, .ref (G.1 6))]) rfl (fun F h1 h2 h3 hm ok hQ => ?_)
  subst h1 h2 h3
  have hDF := hD
  exact K_He_latestRoot_e hDF hm ok hQ h
theorem d_LS_last_0 : decode prog_1_method_20_code 0 = .ok (.aload_n 0, 1) := by decide +kernel
theorem d_LS_last_1 : decode prog_1_method_20_code 1 = .ok (.iload_n 2, 1) := by decide +kernel
theorem d_LS_last_2 : decode prog_1_method_20_code 2 = .ok (.invokevirtual 146, 3) := by decide +kernel
theorem d_LS_last_5 : decode prog_1_method_20_code 5 = .ok (.istore_n 3, 1) := by decide +kernel
theorem d_LS_last_6 : decode prog_1_method_20_code 6 = .ok (.aload_n 0, 1) := by decide +kernel
theorem d_LS_last_7 : decode prog_1_method_20_code 7 = .ok (.iload_n 1, 1) := by decide +kernel
theorem d_LS_last_8 : decode prog_1_method_20_code 8 = .ok (.iload_n 3, 1) := by decide +kernel
theorem d_LS_last_9 : decode prog_1_method_20_code 9 = .ok (.invokevirtual 149, 3) := by decide +kernel
theorem d_LS_last_12 : decode prog_1_method_20_code 12 = .ok (.ifCond .ne 5, 3) := by decide +kernel
theorem d_LS_last_15 : decode prog_1_method_20_code 15 = .ok (.iconst (-1), 1) := by decide +kernel
theorem d_LS_last_16 : decode prog_1_method_20_code 16 = .ok (.ireturn, 1) := by decide +kernel
theorem d_LS_last_17 : decode prog_1_method_20_code 17 = .ok (.aload_n 0, 1) := by decide +kernel
theorem d_LS_last_18 : decode prog_1_method_20_code 18 = .ok (.getfield 47, 3) := by decide +kernel
theorem d_LS_last_21 : decode prog_1_method_20_code 21 = .ok (.iload_n 1, 1) := by decide +kernel
theorem d_LS_last_22 : decode prog_1_method_20_code 22 = .ok (.iload_n 3, 1) := by decide +kernel
theorem d_LS_last_23 : decode prog_1_method_20_code 23 = .ok (.iload_n 3, 1) := by decide +kernel
theorem d_LS_last_24 : decode prog_1_method_20_code 24 = .ok (.invokevirtual 219, 3) := by decide +kernel
theorem d_LS_last_27 : decode prog_1_method_20_code 27 = .ok (.aload_n 0, 1) := by decide +kernel
theorem d_LS_last_28 : decode prog_1_method_20_code 28 = .ok (.getfield 47, 3) := by decide +kernel
theorem d_LS_last_31 : decode prog_1_method_20_code 31 = .ok (.invokevirtual 252, 3) := by decide +kernel
theorem d_LS_last_34 : decode prog_1_method_20_code 34 = .ok (.istore 4, 2) := by decide +kernel
theorem d_LS_last_36 : decode prog_1_method_20_code 36 = .ok (.iload 4, 2) := by decide +kernel
theorem d_LS_last_38 : decode prog_1_method_20_code 38 = .ok (.ifCond .ge 8, 3) := by decide +kernel
theorem d_LS_last_41 : decode prog_1_method_20_code 41 = .ok (.bipush (-5), 2) := by decide +kernel
theorem d_LS_last_43 : decode prog_1_method_20_code 43 = .ok (.goto 5, 3) := by decide +kernel
theorem d_LS_last_46 : decode prog_1_method_20_code 46 = .ok (.iload 4, 2) := by decide +kernel
theorem d_LS_last_48 : decode prog_1_method_20_code 48 = .ok (.ireturn, 1) := by decide +kernel
set_option maxHeartbeats 4000000 in
set_option maxRecDepth 100000 in
theorem K_LS_last_e {F : FT} (hD : ∀ σ, va_D F.2.2.1 (GW F.2.1 σ)) (hm : F.2.2.2.2.2.2.2.2.2.2.2.2.2.2.1 = 5) (ok : OkF F prog_1_method_20_code "LastSeen" ({ frames := 4, cells := 0, slots := 0, locals := 90 } : Room)) {Q : Int → SS → Prop} (hQ : RetI F Q) {x1 x2 : Int} {s : SS} (h : Sp_LS_last x1 x2 s Q) : AtS F 0 [(0, .ref (F.2.1.1 0)), (1, vI x1), (2, vI x2)] [] s := by
  unfold Sp_LS_last at h
  refine r_aload_n ok 0 d_LS_last_0 rfl rfl ?_
  refine r_iload_n ok 2 d_LS_last_1 rfl rfl ?_
  refine r_callVi (As := [vI x2]) (rest := []) ok 0 rfl rfl rfl wl_LS_146 wi_y_LS_upTo ws_y_LS_upTo wn_LS wc_y_LS_upTo (by decide) (by decide) hh_LS_upTo (Nat.le_of_ble_eq_true rfl) rfl d_LS_last_2 (L_LS_upTo F.1 F.2.1 F.2.2.1 hD h) (fun r2 s1 h => ?_)
  refine r_istore_n ok [(3, vI r2), (0, .ref (F.2.1.1 0)), (1, vI x1), (2, vI x2)] d_LS_last_5 rfl hm (by decide) rfl ?_
  refine r_aload_n ok 1 d_LS_last_6 rfl rfl ?_
  refine r_iload_n ok 2 d_LS_last_7 rfl rfl ?_
  refine r_iload_n ok 0 d_LS_last_8 rfl rfl ?_
  refine r_callVi (As := [vI x1, vI r2]) (rest := []) ok 0 rfl rfl rfl wl_LS_149 wi_y_LS_isNameBy ws_y_LS_isNameBy wn_LS wc_y_LS_isNameBy (by decide) (by decide) hh_LS_isNameBy (Nat.le_of_ble_eq_true rfl) rfl d_LS_last_9 (L_LS_isNameBy F.1 F.2.1 F.2.2.1 hD h) (fun r4 s3 h => ?_)
  refine r_if_ne ok 17 d_LS_last_12 (by decide) h.1 (fun c => ?_) (fun c => ?_)
  · replace h := h.2.1 c
    refine r_aload_n ok 1 d_LS_last_17 rfl rfl ?_
    refine g_LS_hearing ok d_LS_last_18 ?_
    refine r_iload_n ok 2 d_LS_last_21 rfl rfl ?_
    refine r_iload_n ok 0 d_LS_last_22 rfl rfl ?_
    refine r_iload_n ok 0 d_LS_last_23 rfl rfl ?_
    refine r_callVv (As := [vI x1, vI r2, vI r2]) (rest := []) ok 6 rfl rfl rfl wl_LS_219 wi_y_He_open ws_y_He_open wn_He wc_y_He_open (by decide) (by decide) hh_He_open (Nat.le_of_ble_eq_true rfl) rfl d_LS_last_24 (L_He_open F.1 F.2.1 F.2.2.1 hD h) (fun s5 h => ?_)
    refine r_aload_n ok 1 d_LS_last_27 rfl rfl ?_
    refine g_LS_hearing ok d_LS_last_28 ?_
    refine r_callVi (As := []) (rest := []) ok 6 rfl rfl rfl wl_LS_252 wi_y_He_latestRoot ws_y_He_latestRoot wn_He wc_y_He_latestRoot (by decide) (by decide) hh_He_latestRoot (Nat.le_of_ble_eq_true rfl) rfl d_LS_last_31 (L_He_latestRoot F.1 F.2.1 F.2.2.1 hD h) (fun r7 s6 h => ?_)
    refine r_istore ok [(4, vI r7), (3, vI r2), (0, .ref (F.2.1.1 0)), (1, vI x1), (2, vI x2)] d_LS_last_34 hm (by decide) rfl ?_
    refine r_iload ok 0 d_LS_last_36 rfl ?_
    refine r_if_ge ok 46 d_LS_last_38 (by decide) h.1 (fun c => ?_) (fun c => ?_)
    · replace h := h.2.1 c
      refine r_iload ok 0 d_LS_last_46 rfl ?_
      exact hQ _ _ _ _ _ (ok_code ok) d_LS_last_48 h
    · replace h := h.2.2 c
      refine r_bipush ok (-5) d_LS_last_41 (by decide) ?_
      refine r_goto ok 48 d_LS_last_43 (by decide) ?_
      exact hQ _ _ _ _ _ (ok_code ok) d_LS_last_48 h
  · replace h := h.2.2 c
    refine r_iconst ok (-1) d_LS_last_15 rfl ?_
    exact hQ _ _ _ _ _ (ok_code ok) d_LS_last_16 h
theorem L_LS_last (l : Launch) (G : GE) (A : Nat → Prop) (hD : ∀ σ, va_D A (GW G σ)) {x1 x2 : Int} {s : SS} {Q : Int → SS → Prop} (h : Sp_LS_last x1 x2 s Q) : Met l y_LS_last (Cond.code y_LS_last prog_1_method_20_code 5 (some .int) :: lw_ok) ({ frames := 4, cells := 0, slots := 0, locals := 90 } : Room) (va_Pc [.ref (G.1 0), vI x1, vI x2] (gB G s)) (va_Qi (fun (r : Int32) (s2 : SS) => ∃ x : Int, r = iI x ∧ Q x s2) (fun s2 t => gB G s2 t) A) 0 0 A := by
  refine met_i hD (by decide) ⟨rfl, rfl⟩ (Nat.le_of_ble_eq_true rfl) (lv := [(0, .ref (G.1 0)), (1, vI x1), (2, vI x2)]) rfl (fun F h1 h2 h3 hm ok hQ => ?_)
  subst h1 h2 h3
  have hDF := hD
  exact K_LS_last_e hDF hm ok hQ h
theorem d_Ru_size_0 : decode prog_7_method_2_code 0 = .ok (.aload_n 0, 1) := by decide +kernel
theorem d_Ru_size_1 : decode prog_7_method_2_code 1 = .ok (.getfield 35, 3) := by decide +kernel
theorem d_Ru_size_4 : decode prog_7_method_2_code 4 = .ok (.ireturn, 1) := by decide +kernel
set_option maxHeartbeats 4000000 in
set_option maxRecDepth 100000 in
theorem K_Ru_size_e {F : FT} (hD : ∀ σ, va_D F.2.2.1 (GW F.2.1 σ)) (hm : F.2.2.2.2.2.2.2.2.2.2.2.2.2.2.1 = 1) (ok : OkF F prog_7_method_2_code "LastSeen$Rules" ({ frames := 0, cells := 0, slots := 0, locals := 0 } : Room)) {Q : Int → SS → Prop} (hQ : RetI F Q) {s : SS} (h : Sp_Ru_size  s Q) : AtS F 0 [(0, .ref (F.2.1.1 7))] [] s := by
  unfold Sp_Ru_size at h
  refine r_aload_n ok 0 d_Ru_size_0 rfl rfl ?_
  refine g_Ru_size ok d_Ru_size_1 ?_
  exact hQ _ _ _ _ _ (ok_code ok) d_Ru_size_4 h
theorem L_Ru_size (l : Launch) (G : GE) (A : Nat → Prop) (hD : ∀ σ, va_D A (GW G σ)) {s : SS} {Q : Int → SS → Prop} (h : Sp_Ru_size  s Q) : Met l y_Ru_size (Cond.code y_Ru_size prog_7_method_2_code 1 (some .int) :: lw_ok) ({ frames := 0, cells := 0, slots := 0, locals := 0 } : Room) (va_Pc [.ref (G.1 7)] (gB G s)) (va_Qi (fun (r : Int32) (s2 : SS) => ∃ x : Int, r = iI x ∧ Q x s2) (fun s2 t => gB G s2 t) A) 0 0 A := by
  refine met_i hD (by decide) ⟨rfl, rfl⟩ (Nat.le_of_ble_eq_true rfl) (lv := [(0, .ref (G.1 7))]) rfl (fun F h1 h2 h3 hm ok hQ => ?_)
  subst h1 h2 h3
  have hDF := hD
  exact K_Ru_size_e hDF hm ok hQ h
theorem d_Ru_isLetter_0 : decode prog_7_method_13_code 0 = .ok (.iload_n 0, 1) := by decide +kernel
theorem d_Ru_isLetter_1 : decode prog_7_method_13_code 1 = .ok (.bipush 114, 2) := by decide +kernel
theorem d_Ru_isLetter_3 : decode prog_7_method_13_code 3 = .ok (.if_icmp .eq 39, 3) := by decide +kernel
theorem d_Ru_isLetter_6 : decode prog_7_method_13_code 6 = .ok (.iload_n 0, 1) := by decide +kernel
theorem d_Ru_isLetter_7 : decode prog_7_method_13_code 7 = .ok (.bipush 101, 2) := by decide +kernel
theorem d_Ru_isLetter_9 : decode prog_7_method_13_code 9 = .ok (.if_icmp .eq 33, 3) := by decide +kernel
theorem d_Ru_isLetter_12 : decode prog_7_method_13_code 12 = .ok (.iload_n 0, 1) := by decide +kernel
theorem d_Ru_isLetter_13 : decode prog_7_method_13_code 13 = .ok (.bipush 104, 2) := by decide +kernel
theorem d_Ru_isLetter_15 : decode prog_7_method_13_code 15 = .ok (.if_icmp .eq 27, 3) := by decide +kernel
theorem d_Ru_isLetter_18 : decode prog_7_method_13_code 18 = .ok (.iload_n 0, 1) := by decide +kernel
theorem d_Ru_isLetter_19 : decode prog_7_method_13_code 19 = .ok (.bipush 99, 2) := by decide +kernel
theorem d_Ru_isLetter_21 : decode prog_7_method_13_code 21 = .ok (.if_icmp .eq 21, 3) := by decide +kernel
theorem d_Ru_isLetter_24 : decode prog_7_method_13_code 24 = .ok (.iload_n 0, 1) := by decide +kernel
theorem d_Ru_isLetter_25 : decode prog_7_method_13_code 25 = .ok (.bipush 110, 2) := by decide +kernel
theorem d_Ru_isLetter_27 : decode prog_7_method_13_code 27 = .ok (.if_icmp .eq 15, 3) := by decide +kernel
theorem d_Ru_isLetter_30 : decode prog_7_method_13_code 30 = .ok (.iload_n 0, 1) := by decide +kernel
theorem d_Ru_isLetter_31 : decode prog_7_method_13_code 31 = .ok (.bipush 108, 2) := by decide +kernel
theorem d_Ru_isLetter_33 : decode prog_7_method_13_code 33 = .ok (.if_icmp .eq 9, 3) := by decide +kernel
theorem d_Ru_isLetter_36 : decode prog_7_method_13_code 36 = .ok (.iload_n 0, 1) := by decide +kernel
theorem d_Ru_isLetter_37 : decode prog_7_method_13_code 37 = .ok (.bipush 107, 2) := by decide +kernel
theorem d_Ru_isLetter_39 : decode prog_7_method_13_code 39 = .ok (.if_icmp .ne 7, 3) := by decide +kernel
theorem d_Ru_isLetter_42 : decode prog_7_method_13_code 42 = .ok (.iconst 1, 1) := by decide +kernel
theorem d_Ru_isLetter_43 : decode prog_7_method_13_code 43 = .ok (.goto 4, 3) := by decide +kernel
theorem d_Ru_isLetter_46 : decode prog_7_method_13_code 46 = .ok (.iconst 0, 1) := by decide +kernel
theorem d_Ru_isLetter_47 : decode prog_7_method_13_code 47 = .ok (.ireturn, 1) := by decide +kernel
set_option maxHeartbeats 4000000 in
set_option maxRecDepth 100000 in
theorem K_Ru_isLetter_e {F : FT} (hD : ∀ σ, va_D F.2.2.1 (GW F.2.1 σ)) (hm : F.2.2.2.2.2.2.2.2.2.2.2.2.2.2.1 = 1) (ok : OkF F prog_7_method_13_code "LastSeen$Rules" ({ frames := 0, cells := 0, slots := 0, locals := 0 } : Room)) {Q : Int → SS → Prop} (hQ : RetZ F Q) {x0 : Int} {s : SS} (h : Sp_Ru_isLetter x0 s Q) : AtS F 0 [(0, vI x0)] [] s := by
  unfold Sp_Ru_isLetter at h
  refine r_iload_n ok 0 d_Ru_isLetter_0 rfl rfl ?_
  refine r_bipush ok 114 d_Ru_isLetter_1 (by decide) ?_
  refine r_icmp_eq ok 42 d_Ru_isLetter_3 (by decide) h.1 (by decide) (fun c => ?_) (fun c => ?_)
  · replace h := h.2.1 c
    refine r_iconst ok 1 d_Ru_isLetter_42 rfl ?_
    refine r_goto ok 47 d_Ru_isLetter_43 (by decide) ?_
    exact hQ _ _ _ _ _ (ok_code ok) d_Ru_isLetter_47 (by decide) h
  · replace h := h.2.2 c
    refine r_iload_n ok 0 d_Ru_isLetter_6 rfl rfl ?_
    refine r_bipush ok 101 d_Ru_isLetter_7 (by decide) ?_
    refine r_icmp_eq ok 42 d_Ru_isLetter_9 (by decide) h.1 (by decide) (fun c => ?_) (fun c => ?_)
    · replace h := h.2.1 c
      refine r_iconst ok 1 d_Ru_isLetter_42 rfl ?_
      refine r_goto ok 47 d_Ru_isLetter_43 (by decide) ?_
      exact hQ _ _ _ _ _ (ok_code ok) d_Ru_isLetter_47 (by decide) h
    · replace h := h.2.2 c
      refine r_iload_n ok 0 d_Ru_isLetter_12 rfl rfl ?_
      refine r_bipush ok 104 d_Ru_isLetter_13 (by decide) ?_
      refine r_icmp_eq ok 42 d_Ru_isLetter_15 (by decide) h.1 (by decide) (fun c => ?_) (fun c => ?_)
      · replace h := h.2.1 c
        refine r_iconst ok 1 d_Ru_isLetter_42 rfl ?_
        refine r_goto ok 47 d_Ru_isLetter_43 (by decide) ?_
        exact hQ _ _ _ _ _ (ok_code ok) d_Ru_isLetter_47 (by decide) h
      · replace h := h.2.2 c
        refine r_iload_n ok 0 d_Ru_isLetter_18 rfl rfl ?_
        refine r_bipush ok 99 d_Ru_isLetter_19 (by decide) ?_
        refine r_icmp_eq ok 42 d_Ru_isLetter_21 (by decide) h.1 (by decide) (fun c => ?_) (fun c => ?_)
        · replace h := h.2.1 c
          refine r_iconst ok 1 d_Ru_isLetter_42 rfl ?_
          refine r_goto ok 47 d_Ru_isLetter_43 (by decide) ?_
          exact hQ _ _ _ _ _ (ok_code ok) d_Ru_isLetter_47 (by decide) h
        · replace h := h.2.2 c
          refine r_iload_n ok 0 d_Ru_isLetter_24 rfl rfl ?_
          refine r_bipush ok 110 d_Ru_isLetter_25 (by decide) ?_
          refine r_icmp_eq ok 42 d_Ru_isLetter_27 (by decide) h.1 (by decide) (fun c => ?_) (fun c => ?_)
          · replace h := h.2.1 c
            refine r_iconst ok 1 d_Ru_isLetter_42 rfl ?_
            refine r_goto ok 47 d_Ru_isLetter_43 (by decide) ?_
            exact hQ _ _ _ _ _ (ok_code ok) d_Ru_isLetter_47 (by decide) h
          · replace h := h.2.2 c
            refine r_iload_n ok 0 d_Ru_isLetter_30 rfl rfl ?_
            refine r_bipush ok 108 d_Ru_isLetter_31 (by decide) ?_
            refine r_icmp_eq ok 42 d_Ru_isLetter_33 (by decide) h.1 (by decide) (fun c => ?_) (fun c => ?_)
            · replace h := h.2.1 c
              refine r_iconst ok 1 d_Ru_isLetter_42 rfl ?_
              refine r_goto ok 47 d_Ru_isLetter_43 (by decide) ?_
              exact hQ _ _ _ _ _ (ok_code ok) d_Ru_isLetter_47 (by decide) h
            · replace h := h.2.2 c
              refine r_iload_n ok 0 d_Ru_isLetter_36 rfl rfl ?_
              refine r_bipush ok 107 d_Ru_isLetter_37 (by decide) ?_
              refine r_icmp_ne ok 46 d_Ru_isLetter_39 (by decide) h.1 (by decide) (fun c => ?_) (fun c => ?_)
              · replace h := h.2.1 c
                refine r_iconst ok 0 d_Ru_isLetter_46 rfl ?_
                exact hQ _ _ _ _ _ (ok_code ok) d_Ru_isLetter_47 (by decide) h
              · replace h := h.2.2 c
                refine r_iconst ok 1 d_Ru_isLetter_42 rfl ?_
                refine r_goto ok 47 d_Ru_isLetter_43 (by decide) ?_
                exact hQ _ _ _ _ _ (ok_code ok) d_Ru_isLetter_47 (by decide) h
theorem L_Ru_isLetter (l : Launch) (G : GE) (A : Nat → Prop) (hD : ∀ σ, va_D A (GW G σ)) {x0 : Int} {s : SS} {Q : Int → SS → Prop} (h : Sp_Ru_isLetter x0 s Q) : Met l y_Ru_isLetter (Cond.code y_Ru_isLetter prog_7_method_13_code 1 (some .boolean) :: lw_ok) ({ frames := 0, cells := 0, slots := 0, locals := 0 } : Room) (va_Pc [vI x0] (gB G s)) (va_Qi (fun (r : Int32) (s2 : SS) => ∃ x : Int, r = iI x ∧ Q x s2) (fun s2 t => gB G s2 t) A) 0 0 A := by
  refine met_z hD (by decide) ⟨rfl, rfl⟩ (Nat.le_of_ble_eq_true rfl) (lv := [(0, vI x0)]) rfl (fun F h1 h2 h3 hm ok hQ => ?_)
  subst h1 h2 h3
  have hDF := hD
  exact K_Ru_isLetter_e hDF hm ok hQ h
theorem d_Ru_afterOpening_0 : decode prog_7_method_8_code 0 = .ok (.iload_n 1, 1) := by decide +kernel
theorem d_Ru_afterOpening_1 : decode prog_7_method_8_code 1 = .ok (.bipush 33, 2) := by decide +kernel
theorem d_Ru_afterOpening_3 : decode prog_7_method_8_code 3 = .ok (.if_icmp .ne 5, 3) := by decide +kernel
theorem d_Ru_afterOpening_6 : decode prog_7_method_8_code 6 = .ok (.iconst 1, 1) := by decide +kernel
theorem d_Ru_afterOpening_7 : decode prog_7_method_8_code 7 = .ok (.ireturn, 1) := by decide +kernel
theorem d_Ru_afterOpening_8 : decode prog_7_method_8_code 8 = .ok (.iload_n 1, 1) := by decide +kernel
theorem d_Ru_afterOpening_9 : decode prog_7_method_8_code 9 = .ok (.bipush 40, 2) := by decide +kernel
theorem d_Ru_afterOpening_11 : decode prog_7_method_8_code 11 = .ok (.if_icmp .ne 15, 3) := by decide +kernel
theorem d_Ru_afterOpening_14 : decode prog_7_method_8_code 14 = .ok (.aload_n 0, 1) := by decide +kernel
theorem d_Ru_afterOpening_15 : decode prog_7_method_8_code 15 = .ok (.dup, 1) := by decide +kernel
theorem d_Ru_afterOpening_16 : decode prog_7_method_8_code 16 = .ok (.getfield 39, 3) := by decide +kernel
theorem d_Ru_afterOpening_19 : decode prog_7_method_8_code 19 = .ok (.iconst 1, 1) := by decide +kernel
theorem d_Ru_afterOpening_20 : decode prog_7_method_8_code 20 = .ok (.iadd, 1) := by decide +kernel
theorem d_Ru_afterOpening_21 : decode prog_7_method_8_code 21 = .ok (.putfield 39, 3) := by decide +kernel
theorem d_Ru_afterOpening_24 : decode prog_7_method_8_code 24 = .ok (.iconst 1, 1) := by decide +kernel
theorem d_Ru_afterOpening_25 : decode prog_7_method_8_code 25 = .ok (.ireturn, 1) := by decide +kernel
theorem d_Ru_afterOpening_26 : decode prog_7_method_8_code 26 = .ok (.iload_n 1, 1) := by decide +kernel
theorem d_Ru_afterOpening_27 : decode prog_7_method_8_code 27 = .ok (.invokestatic 81, 3) := by decide +kernel
theorem d_Ru_afterOpening_30 : decode prog_7_method_8_code 30 = .ok (.ifCond .eq 7, 3) := by decide +kernel
theorem d_Ru_afterOpening_33 : decode prog_7_method_8_code 33 = .ok (.iconst 2, 1) := by decide +kernel
theorem d_Ru_afterOpening_34 : decode prog_7_method_8_code 34 = .ok (.goto 4, 3) := by decide +kernel
theorem d_Ru_afterOpening_37 : decode prog_7_method_8_code 37 = .ok (.iconst (-1), 1) := by decide +kernel
theorem d_Ru_afterOpening_38 : decode prog_7_method_8_code 38 = .ok (.ireturn, 1) := by decide +kernel
set_option maxHeartbeats 4000000 in
set_option maxRecDepth 100000 in
theorem K_Ru_afterOpening_e {F : FT} (hD : ∀ σ, va_D F.2.2.1 (GW F.2.1 σ)) (hm : F.2.2.2.2.2.2.2.2.2.2.2.2.2.2.1 = 2) (ok : OkF F prog_7_method_8_code "LastSeen$Rules" ({ frames := 1, cells := 0, slots := 0, locals := 20 } : Room)) {Q : Int → SS → Prop} (hQ : RetI F Q) {x1 : Int} {s : SS} (h : Sp_Ru_afterOpening x1 s Q) : AtS F 0 [(0, .ref (F.2.1.1 7)), (1, vI x1)] [] s := by
  unfold Sp_Ru_afterOpening at h
  refine r_iload_n ok 1 d_Ru_afterOpening_0 rfl rfl ?_
  refine r_bipush ok 33 d_Ru_afterOpening_1 (by decide) ?_
  refine r_icmp_ne ok 8 d_Ru_afterOpening_3 (by decide) h.1 (by decide) (fun c => ?_) (fun c => ?_)
  · replace h := h.2.1 c
    refine r_iload_n ok 1 d_Ru_afterOpening_8 rfl rfl ?_
    refine r_bipush ok 40 d_Ru_afterOpening_9 (by decide) ?_
    refine r_icmp_ne ok 26 d_Ru_afterOpening_11 (by decide) h.1 (by decide) (fun c => ?_) (fun c => ?_)
    · replace h := h.2.1 c
      refine r_iload_n ok 1 d_Ru_afterOpening_26 rfl rfl ?_
      refine r_callSi (As := [vI x1]) (rest := []) ok wl_Ru_81 wt_y_Ru_isLetter wn_Ru wc_y_Ru_isLetter (by decide) (by decide) hh_Ru_isLetter (Nat.le_of_ble_eq_true rfl) rfl d_Ru_afterOpening_27 (L_Ru_isLetter F.1 F.2.1 F.2.2.1 hD h) (fun r2 s1 h => ?_)
      refine r_if_eq ok 37 d_Ru_afterOpening_30 (by decide) h.1 (fun c => ?_) (fun c => ?_)
      · replace h := h.2.1 c
        refine r_iconst ok (-1) d_Ru_afterOpening_37 rfl ?_
        exact hQ _ _ _ _ _ (ok_code ok) d_Ru_afterOpening_38 h
      · replace h := h.2.2 c
        refine r_iconst ok 2 d_Ru_afterOpening_33 rfl ?_
        refine r_goto ok 38 d_Ru_afterOpening_34 (by decide) ?_
        exact hQ _ _ _ _ _ (ok_code ok) d_Ru_afterOpening_38 h
    · replace h := h.2.2 c
      refine r_aload_n ok 0 d_Ru_afterOpening_14 rfl rfl ?_
      refine r_dup ok d_Ru_afterOpening_15 rfl ?_
      refine g_Ru_depth ok d_Ru_afterOpening_16 ?_
      refine r_iconst ok 1 d_Ru_afterOpening_19 rfl ?_
      refine r_iadd ok d_Ru_afterOpening_20 ?_
      refine p_Ru_depth ok d_Ru_afterOpening_21 ?_
      replace h := h _ rfl
      generalize sF s 19 ((s.1 19) + 1) = s3 at h ⊢
      refine r_iconst ok 1 d_Ru_afterOpening_24 rfl ?_
      exact hQ _ _ _ _ _ (ok_code ok) d_Ru_afterOpening_25 h
  · replace h := h.2.2 c
    refine r_iconst ok 1 d_Ru_afterOpening_6 rfl ?_
    exact hQ _ _ _ _ _ (ok_code ok) d_Ru_afterOpening_7 h
theorem L_Ru_afterOpening (l : Launch) (G : GE) (A : Nat → Prop) (hD : ∀ σ, va_D A (GW G σ)) {x1 : Int} {s : SS} {Q : Int → SS → Prop} (h : Sp_Ru_afterOpening x1 s Q) : Met l y_Ru_afterOpening (Cond.code y_Ru_afterOpening prog_7_method_8_code 2 (some .int) :: lw_ok) ({ frames := 1, cells := 0, slots := 0, locals := 20 } : Room) (va_Pc [.ref (G.1 7), vI x1] (gB G s)) (va_Qi (fun (r : Int32) (s2 : SS) => ∃ x : Int, r = iI x ∧ Q x s2) (fun s2 t => gB G s2 t) A) 0 0 A := by
  refine met_i hD (by decide) ⟨rfl, rfl⟩ (Nat.le_of_ble_eq_true rfl) (lv := [(0, .ref (G.1 7)), (1, vI x1)]) rfl (fun F h1 h2 h3 hm ok hQ => ?_)
  subst h1 h2 h3
  have hDF := hD
  exact K_Ru_afterOpening_e hDF hm ok hQ h
theorem d_Ru_afterStart_0 : decode prog_7_method_7_code 0 = .ok (.aload_n 0, 1) := by decide +kernel
theorem d_Ru_afterStart_1 : decode prog_7_method_7_code 1 = .ok (.getfield 42, 3) := by decide +kernel
theorem d_Ru_afterStart_4 : decode prog_7_method_7_code 4 = .ok (.bipush 8, 2) := by decide +kernel
theorem d_Ru_afterStart_6 : decode prog_7_method_7_code 6 = .ok (.if_icmp .ge 7, 3) := by decide +kernel
theorem d_Ru_afterStart_9 : decode prog_7_method_7_code 9 = .ok (.iconst 1, 1) := by decide +kernel
theorem d_Ru_afterStart_10 : decode prog_7_method_7_code 10 = .ok (.goto 4, 3) := by decide +kernel
theorem d_Ru_afterStart_13 : decode prog_7_method_7_code 13 = .ok (.iconst 0, 1) := by decide +kernel
theorem d_Ru_afterStart_14 : decode prog_7_method_7_code 14 = .ok (.istore_n 2, 1) := by decide +kernel
theorem d_Ru_afterStart_15 : decode prog_7_method_7_code 15 = .ok (.iload_n 1, 1) := by decide +kernel
theorem d_Ru_afterStart_16 : decode prog_7_method_7_code 16 = .ok (.bipush 101, 2) := by decide +kernel
theorem d_Ru_afterStart_18 : decode prog_7_method_7_code 18 = .ok (.if_icmp .ne 14, 3) := by decide +kernel
theorem d_Ru_afterStart_21 : decode prog_7_method_7_code 21 = .ok (.iload_n 2, 1) := by decide +kernel
theorem d_Ru_afterStart_22 : decode prog_7_method_7_code 22 = .ok (.ifCond .eq 7, 3) := by decide +kernel
theorem d_Ru_afterStart_25 : decode prog_7_method_7_code 25 = .ok (.iconst 3, 1) := by decide +kernel
theorem d_Ru_afterStart_26 : decode prog_7_method_7_code 26 = .ok (.goto 5, 3) := by decide +kernel
theorem d_Ru_afterStart_29 : decode prog_7_method_7_code 29 = .ok (.bipush 9, 2) := by decide +kernel
theorem d_Ru_afterStart_31 : decode prog_7_method_7_code 31 = .ok (.ireturn, 1) := by decide +kernel
theorem d_Ru_afterStart_32 : decode prog_7_method_7_code 32 = .ok (.iload_n 2, 1) := by decide +kernel
theorem d_Ru_afterStart_33 : decode prog_7_method_7_code 33 = .ok (.ifCond .eq 11, 3) := by decide +kernel
theorem d_Ru_afterStart_36 : decode prog_7_method_7_code 36 = .ok (.aload_n 0, 1) := by decide +kernel
theorem d_Ru_afterStart_37 : decode prog_7_method_7_code 37 = .ok (.iload_n 1, 1) := by decide +kernel
theorem d_Ru_afterStart_38 : decode prog_7_method_7_code 38 = .ok (.invokevirtual 59, 3) := by decide +kernel
theorem d_Ru_afterStart_41 : decode prog_7_method_7_code 41 = .ok (.goto 4, 3) := by decide +kernel
theorem d_Ru_afterStart_44 : decode prog_7_method_7_code 44 = .ok (.iconst (-1), 1) := by decide +kernel
theorem d_Ru_afterStart_45 : decode prog_7_method_7_code 45 = .ok (.ireturn, 1) := by decide +kernel
set_option maxHeartbeats 4000000 in
set_option maxRecDepth 100000 in
theorem K_Ru_afterStart_14 {F : FT} (hD : ∀ σ, va_D F.2.2.1 (GW F.2.1 σ)) (hm : F.2.2.2.2.2.2.2.2.2.2.2.2.2.2.1 = 3) (ok : OkF F prog_7_method_7_code "LastSeen$Rules" ({ frames := 2, cells := 0, slots := 0, locals := 41 } : Room)) {Q : Int → SS → Prop} (hQ : RetI F Q) {x1 y0 : Int} {s : SS} (h : B_Ru_afterStart_14 Q (fun x1 y0 s => AtS F 14 [(0, .ref (F.2.1.1 7)), (1, vI x1)] [vI y0] s) x1 y0 s) : AtS F 14 [(0, .ref (F.2.1.1 7)), (1, vI x1)] [vI y0] s := by
  unfold B_Ru_afterStart_14 at h
  refine r_istore_n ok [(2, vI y0), (0, .ref (F.2.1.1 7)), (1, vI x1)] d_Ru_afterStart_14 rfl hm (by decide) rfl ?_
  refine r_iload_n ok 2 d_Ru_afterStart_15 rfl rfl ?_
  refine r_bipush ok 101 d_Ru_afterStart_16 (by decide) ?_
  refine r_icmp_ne ok 32 d_Ru_afterStart_18 (by decide) h.1 (by decide) (fun c => ?_) (fun c => ?_)
  · replace h := h.2.1 c
    refine r_iload_n ok 0 d_Ru_afterStart_32 rfl rfl ?_
    refine r_if_eq ok 44 d_Ru_afterStart_33 (by decide) h.1 (fun c => ?_) (fun c => ?_)
    · replace h := h.2.1 c
      refine r_iconst ok (-1) d_Ru_afterStart_44 rfl ?_
      exact hQ _ _ _ _ _ (ok_code ok) d_Ru_afterStart_45 h
    · replace h := h.2.2 c
      refine r_aload_n ok 1 d_Ru_afterStart_36 rfl rfl ?_
      refine r_iload_n ok 2 d_Ru_afterStart_37 rfl rfl ?_
      refine r_callVi (As := [vI x1]) (rest := []) ok 7 rfl rfl rfl wl_Ru_59 wi_y_Ru_afterOpening ws_y_Ru_afterOpening wn_Ru wc_y_Ru_afterOpening (by decide) (by decide) hh_Ru_afterOpening (Nat.le_of_ble_eq_true rfl) rfl d_Ru_afterStart_38 (L_Ru_afterOpening F.1 F.2.1 F.2.2.1 hD h) (fun r2 s1 h => ?_)
      refine r_goto ok 45 d_Ru_afterStart_41 (by decide) ?_
      exact hQ _ _ _ _ _ (ok_code ok) d_Ru_afterStart_45 h
  · replace h := h.2.2 c
    refine r_iload_n ok 0 d_Ru_afterStart_21 rfl rfl ?_
    refine r_if_eq ok 29 d_Ru_afterStart_22 (by decide) h.1 (fun c => ?_) (fun c => ?_)
    · replace h := h.2.1 c
      refine r_bipush ok 9 d_Ru_afterStart_29 (by decide) ?_
      exact hQ _ _ _ _ _ (ok_code ok) d_Ru_afterStart_31 h
    · replace h := h.2.2 c
      refine r_iconst ok 3 d_Ru_afterStart_25 rfl ?_
      refine r_goto ok 31 d_Ru_afterStart_26 (by decide) ?_
      exact hQ _ _ _ _ _ (ok_code ok) d_Ru_afterStart_31 h
set_option maxHeartbeats 4000000 in
set_option maxRecDepth 100000 in
theorem K_Ru_afterStart_e {F : FT} (hD : ∀ σ, va_D F.2.2.1 (GW F.2.1 σ)) (hm : F.2.2.2.2.2.2.2.2.2.2.2.2.2.2.1 = 3) (ok : OkF F prog_7_method_7_code "LastSeen$Rules" ({ frames := 2, cells := 0, slots := 0, locals := 41 } : Room)) {Q : Int → SS → Prop} (hQ : RetI F Q) {x1 : Int} {s : SS} (h : B_Ru_afterStart_e Q (fun x1 y0 s => AtS F 14 [(0, .ref (F.2.1.1 7)), (1, vI x1)] [vI y0] s) x1 s) : AtS F 0 [(0, .ref (F.2.1.1 7)), (1, vI x1)] [] s := by
  unfold B_Ru_afterStart_e at h
  refine r_aload_n ok 0 d_Ru_afterStart_0 rfl rfl ?_
  refine g_Ru_clauses ok d_Ru_afterStart_1 ?_
  refine r_bipush ok 8 d_Ru_afterStart_4 (by decide) ?_
  refine r_icmp_ge ok 13 d_Ru_afterStart_6 (by decide) h.1 (by decide) (fun c => ?_) (fun c => ?_)
  · replace h := h.2.1 c
    refine r_iconst ok 0 d_Ru_afterStart_13 rfl ?_
    exact r_sub [0, 1] rfl h
  · replace h := h.2.2 c
    refine r_iconst ok 1 d_Ru_afterStart_9 rfl ?_
    refine r_goto ok 14 d_Ru_afterStart_10 (by decide) ?_
    exact r_sub [0, 1] rfl h
theorem L_Ru_afterStart (l : Launch) (G : GE) (A : Nat → Prop) (hD : ∀ σ, va_D A (GW G σ)) {x1 : Int} {s : SS} {Q : Int → SS → Prop} (h : Sp_Ru_afterStart x1 s Q) : Met l y_Ru_afterStart (Cond.code y_Ru_afterStart prog_7_method_7_code 3 (some .int) :: lw_ok) ({ frames := 2, cells := 0, slots := 0, locals := 41 } : Room) (va_Pc [.ref (G.1 7), vI x1] (gB G s)) (va_Qi (fun (r : Int32) (s2 : SS) => ∃ x : Int, r = iI x ∧ Q x s2) (fun s2 t => gB G s2 t) A) 0 0 A := by
  refine met_i hD (by decide) ⟨rfl, rfl⟩ (Nat.le_of_ble_eq_true rfl) (lv := [(0, .ref (G.1 7)), (1, vI x1)]) rfl (fun F h1 h2 h3 hm ok hQ => ?_)
  subst h1 h2 h3
  have hDF := hD
  exact K_Ru_afterStart_e hDF hm ok hQ (h _ (fun _ _ _ hb => K_Ru_afterStart_14 hDF hm ok hQ hb))
theorem d_Ru_isSign_0 : decode prog_7_method_14_code 0 = .ok (.iload_n 0, 1) := by decide +kernel
theorem d_Ru_isSign_1 : decode prog_7_method_14_code 1 = .ok (.bipush 60, 2) := by decide +kernel
theorem d_Ru_isSign_3 : decode prog_7_method_14_code 3 = .ok (.if_icmp .eq 15, 3) := by decide +kernel
theorem d_Ru_isSign_6 : decode prog_7_method_14_code 6 = .ok (.iload_n 0, 1) := by decide +kernel
theorem d_Ru_isSign_7 : decode prog_7_method_14_code 7 = .ok (.bipush 61, 2) := by decide +kernel
theorem d_Ru_isSign_9 : decode prog_7_method_14_code 9 = .ok (.if_icmp .eq 9, 3) := by decide +kernel
theorem d_Ru_isSign_12 : decode prog_7_method_14_code 12 = .ok (.iload_n 0, 1) := by decide +kernel
theorem d_Ru_isSign_13 : decode prog_7_method_14_code 13 = .ok (.bipush 46, 2) := by decide +kernel
theorem d_Ru_isSign_15 : decode prog_7_method_14_code 15 = .ok (.if_icmp .ne 7, 3) := by decide +kernel
theorem d_Ru_isSign_18 : decode prog_7_method_14_code 18 = .ok (.iconst 1, 1) := by decide +kernel
theorem d_Ru_isSign_19 : decode prog_7_method_14_code 19 = .ok (.goto 4, 3) := by decide +kernel
theorem d_Ru_isSign_22 : decode prog_7_method_14_code 22 = .ok (.iconst 0, 1) := by decide +kernel
theorem d_Ru_isSign_23 : decode prog_7_method_14_code 23 = .ok (.ireturn, 1) := by decide +kernel
set_option maxHeartbeats 4000000 in
set_option maxRecDepth 100000 in
theorem K_Ru_isSign_e {F : FT} (hD : ∀ σ, va_D F.2.2.1 (GW F.2.1 σ)) (hm : F.2.2.2.2.2.2.2.2.2.2.2.2.2.2.1 = 1) (ok : OkF F prog_7_method_14_code "LastSeen$Rules" ({ frames := 0, cells := 0, slots := 0, locals := 0 } : Room)) {Q : Int → SS → Prop} (hQ : RetZ F Q) {x0 : Int} {s : SS} (h : Sp_Ru_isSign x0 s Q) : AtS F 0 [(0, vI x0)] [] s := by
  unfold Sp_Ru_isSign at h
  refine r_iload_n ok 0 d_Ru_isSign_0 rfl rfl ?_
  refine r_bipush ok 60 d_Ru_isSign_1 (by decide) ?_
  refine r_icmp_eq ok 18 d_Ru_isSign_3 (by decide) h.1 (by decide) (fun c => ?_) (fun c => ?_)
  · replace h := h.2.1 c
    refine r_iconst ok 1 d_Ru_isSign_18 rfl ?_
    refine r_goto ok 23 d_Ru_isSign_19 (by decide) ?_
    exact hQ _ _ _ _ _ (ok_code ok) d_Ru_isSign_23 (by decide) h
  · replace h := h.2.2 c
    refine r_iload_n ok 0 d_Ru_isSign_6 rfl rfl ?_
    refine r_bipush ok 61 d_Ru_isSign_7 (by decide) ?_
    refine r_icmp_eq ok 18 d_Ru_isSign_9 (by decide) h.1 (by decide) (fun c => ?_) (fun c => ?_)
    · replace h := h.2.1 c
      refine r_iconst ok 1 d_Ru_isSign_18 rfl ?_
      refine r_goto ok 23 d_Ru_isSign_19 (by decide) ?_
      exact hQ _ _ _ _ _ (ok_code ok) d_Ru_isSign_23 (by decide) h
    · replace h := h.2.2 c
      refine r_iload_n ok 0 d_Ru_isSign_12 rfl rfl ?_
      refine r_bipush ok 46 d_Ru_isSign_13 (by decide) ?_
      refine r_icmp_ne ok 22 d_Ru_isSign_15 (by decide) h.1 (by decide) (fun c => ?_) (fun c => ?_)
      · replace h := h.2.1 c
        refine r_iconst ok 0 d_Ru_isSign_22 rfl ?_
        exact hQ _ _ _ _ _ (ok_code ok) d_Ru_isSign_23 (by decide) h
      · replace h := h.2.2 c
        refine r_iconst ok 1 d_Ru_isSign_18 rfl ?_
        refine r_goto ok 23 d_Ru_isSign_19 (by decide) ?_
        exact hQ _ _ _ _ _ (ok_code ok) d_Ru_isSign_23 (by decide) h
theorem L_Ru_isSign (l : Launch) (G : GE) (A : Nat → Prop) (hD : ∀ σ, va_D A (GW G σ)) {x0 : Int} {s : SS} {Q : Int → SS → Prop} (h : Sp_Ru_isSign x0 s Q) : Met l y_Ru_isSign (Cond.code y_Ru_isSign prog_7_method_14_code 1 (some .boolean) :: lw_ok) ({ frames := 0, cells := 0, slots := 0, locals := 0 } : Room) (va_Pc [vI x0] (gB G s)) (va_Qi (fun (r : Int32) (s2 : SS) => ∃ x : Int, r = iI x ∧ Q x s2) (fun s2 t => gB G s2 t) A) 0 0 A := by
  refine met_z hD (by decide) ⟨rfl, rfl⟩ (Nat.le_of_ble_eq_true rfl) (lv := [(0, vI x0)]) rfl (fun F h1 h2 h3 hm ok hQ => ?_)
  subst h1 h2 h3
  have hDF := hD
  exact K_Ru_isSign_e hDF hm ok hQ h
theorem d_Ru_isDigit_0 : decode prog_7_method_15_code 0 = .ok (.iload_n 0, 1) := by decide +kernel
theorem d_Ru_isDigit_1 : decode prog_7_method_15_code 1 = .ok (.bipush 48, 2) := by decide +kernel
theorem d_Ru_isDigit_3 : decode prog_7_method_15_code 3 = .ok (.if_icmp .lt 13, 3) := by decide +kernel
theorem d_Ru_isDigit_6 : decode prog_7_method_15_code 6 = .ok (.iload_n 0, 1) := by decide +kernel
theorem d_Ru_isDigit_7 : decode prog_7_method_15_code 7 = .ok (.bipush 57, 2) := by decide +kernel
theorem d_Ru_isDigit_9 : decode prog_7_method_15_code 9 = .ok (.if_icmp .gt 7, 3) := by decide +kernel
theorem d_Ru_isDigit_12 : decode prog_7_method_15_code 12 = .ok (.iconst 1, 1) := by decide +kernel
theorem d_Ru_isDigit_13 : decode prog_7_method_15_code 13 = .ok (.goto 4, 3) := by decide +kernel
theorem d_Ru_isDigit_16 : decode prog_7_method_15_code 16 = .ok (.iconst 0, 1) := by decide +kernel
theorem d_Ru_isDigit_17 : decode prog_7_method_15_code 17 = .ok (.ireturn, 1) := by decide +kernel
set_option maxHeartbeats 4000000 in
set_option maxRecDepth 100000 in
theorem K_Ru_isDigit_e {F : FT} (hD : ∀ σ, va_D F.2.2.1 (GW F.2.1 σ)) (hm : F.2.2.2.2.2.2.2.2.2.2.2.2.2.2.1 = 1) (ok : OkF F prog_7_method_15_code "LastSeen$Rules" ({ frames := 0, cells := 0, slots := 0, locals := 0 } : Room)) {Q : Int → SS → Prop} (hQ : RetZ F Q) {x0 : Int} {s : SS} (h : Sp_Ru_isDigit x0 s Q) : AtS F 0 [(0, vI x0)] [] s := by
  unfold Sp_Ru_isDigit at h
  refine r_iload_n ok 0 d_Ru_isDigit_0 rfl rfl ?_
  refine r_bipush ok 48 d_Ru_isDigit_1 (by decide) ?_
  refine r_icmp_lt ok 16 d_Ru_isDigit_3 (by decide) h.1 (by decide) (fun c => ?_) (fun c => ?_)
  · replace h := h.2.1 c
    refine r_iconst ok 0 d_Ru_isDigit_16 rfl ?_
    exact hQ _ _ _ _ _ (ok_code ok) d_Ru_isDigit_17 (by decide) h
  · replace h := h.2.2 c
    refine r_iload_n ok 0 d_Ru_isDigit_6 rfl rfl ?_
    refine r_bipush ok 57 d_Ru_isDigit_7 (by decide) ?_
    refine r_icmp_gt ok 16 d_Ru_isDigit_9 (by decide) h.1 (by decide) (fun c => ?_) (fun c => ?_)
    · replace h := h.2.1 c
      refine r_iconst ok 0 d_Ru_isDigit_16 rfl ?_
      exact hQ _ _ _ _ _ (ok_code ok) d_Ru_isDigit_17 (by decide) h
    · replace h := h.2.2 c
      refine r_iconst ok 1 d_Ru_isDigit_12 rfl ?_
      refine r_goto ok 17 d_Ru_isDigit_13 (by decide) ?_
      exact hQ _ _ _ _ _ (ok_code ok) d_Ru_isDigit_17 (by decide) h
theorem L_Ru_isDigit (l : Launch) (G : GE) (A : Nat → Prop) (hD : ∀ σ, va_D A (GW G σ)) {x0 : Int} {s : SS} {Q : Int → SS → Prop} (h : Sp_Ru_isDigit x0 s Q) : Met l y_Ru_isDigit (Cond.code y_Ru_isDigit prog_7_method_15_code 1 (some .boolean) :: lw_ok) ({ frames := 0, cells := 0, slots := 0, locals := 0 } : Room) (va_Pc [vI x0] (gB G s)) (va_Qi (fun (r : Int32) (s2 : SS) => ∃ x : Int, r = iI x ∧ Q x s2) (fun s2 t => gB G s2 t) A) 0 0 A := by
  refine met_z hD (by decide) ⟨rfl, rfl⟩ (Nat.le_of_ble_eq_true rfl) (lv := [(0, vI x0)]) rfl (fun F h1 h2 h3 hm ok hQ => ?_)
  subst h1 h2 h3
  have hDF := hD
  exact K_Ru_isDigit_e hDF hm ok hQ h
theorem d_Ru_afterFirstDigit_0 : decode prog_7_method_9_code 0 = .ok (.iload_n 1, 1) := by decide +kernel
theorem d_Ru_afterFirstDigit_1 : decode prog_7_method_9_code 1 = .ok (.invokestatic 69, 3) := by decide +kernel
theorem d_Ru_afterFirstDigit_4 : decode prog_7_method_9_code 4 = .ok (.ifCond .ne 5, 3) := by decide +kernel
theorem d_Ru_afterFirstDigit_7 : decode prog_7_method_9_code 7 = .ok (.iconst (-1), 1) := by decide +kernel
theorem d_Ru_afterFirstDigit_8 : decode prog_7_method_9_code 8 = .ok (.ireturn, 1) := by decide +kernel
theorem d_Ru_afterFirstDigit_9 : decode prog_7_method_9_code 9 = .ok (.aload_n 0, 1) := by decide +kernel
theorem d_Ru_afterFirstDigit_10 : decode prog_7_method_9_code 10 = .ok (.iconst 1, 1) := by decide +kernel
theorem d_Ru_afterFirstDigit_11 : decode prog_7_method_9_code 11 = .ok (.putfield 84, 3) := by decide +kernel
theorem d_Ru_afterFirstDigit_14 : decode prog_7_method_9_code 14 = .ok (.aload_n 0, 1) := by decide +kernel
theorem d_Ru_afterFirstDigit_15 : decode prog_7_method_9_code 15 = .ok (.iload_n 1, 1) := by decide +kernel
theorem d_Ru_afterFirstDigit_16 : decode prog_7_method_9_code 16 = .ok (.bipush 48, 2) := by decide +kernel
theorem d_Ru_afterFirstDigit_18 : decode prog_7_method_9_code 18 = .ok (.if_icmp .ne 7, 3) := by decide +kernel
theorem d_Ru_afterFirstDigit_21 : decode prog_7_method_9_code 21 = .ok (.iconst 1, 1) := by decide +kernel
theorem d_Ru_afterFirstDigit_22 : decode prog_7_method_9_code 22 = .ok (.goto 4, 3) := by decide +kernel
theorem d_Ru_afterFirstDigit_25 : decode prog_7_method_9_code 25 = .ok (.iconst 0, 1) := by decide +kernel
theorem d_Ru_afterFirstDigit_26 : decode prog_7_method_9_code 26 = .ok (.putfield 87, 3) := by decide +kernel
theorem d_Ru_afterFirstDigit_29 : decode prog_7_method_9_code 29 = .ok (.iconst 5, 1) := by decide +kernel
theorem d_Ru_afterFirstDigit_30 : decode prog_7_method_9_code 30 = .ok (.ireturn, 1) := by decide +kernel
set_option maxHeartbeats 4000000 in
set_option maxRecDepth 100000 in
theorem K_Ru_afterFirstDigit_e {F : FT} (hD : ∀ σ, va_D F.2.2.1 (GW F.2.1 σ)) (hm : F.2.2.2.2.2.2.2.2.2.2.2.2.2.2.1 = 2) (ok : OkF F prog_7_method_9_code "LastSeen$Rules" ({ frames := 1, cells := 0, slots := 0, locals := 20 } : Room)) {Q : Int → SS → Prop} (hQ : RetI F Q) {x1 : Int} {s : SS} (h : Sp_Ru_afterFirstDigit x1 s Q) : AtS F 0 [(0, .ref (F.2.1.1 7)), (1, vI x1)] [] s := by
  unfold Sp_Ru_afterFirstDigit at h
  refine r_iload_n ok 1 d_Ru_afterFirstDigit_0 rfl rfl ?_
  refine r_callSi (As := [vI x1]) (rest := []) ok wl_Ru_69 wt_y_Ru_isDigit wn_Ru wc_y_Ru_isDigit (by decide) (by decide) hh_Ru_isDigit (Nat.le_of_ble_eq_true rfl) rfl d_Ru_afterFirstDigit_1 (L_Ru_isDigit F.1 F.2.1 F.2.2.1 hD h) (fun r2 s1 h => ?_)
  refine r_if_ne ok 9 d_Ru_afterFirstDigit_4 (by decide) h.1 (fun c => ?_) (fun c => ?_)
  · replace h := h.2.1 c
    refine r_aload_n ok 0 d_Ru_afterFirstDigit_9 rfl rfl ?_
    refine r_iconst ok 1 d_Ru_afterFirstDigit_10 rfl ?_
    refine p_Ru_digits ok d_Ru_afterFirstDigit_11 ?_
    replace h := h _ rfl
    generalize sF s1 21 1 = s3 at h ⊢
    refine r_aload_n ok 0 d_Ru_afterFirstDigit_14 rfl rfl ?_
    refine r_iload_n ok 1 d_Ru_afterFirstDigit_15 rfl rfl ?_
    refine r_bipush ok 48 d_Ru_afterFirstDigit_16 (by decide) ?_
    refine r_icmp_ne ok 25 d_Ru_afterFirstDigit_18 (by decide) h.1 (by decide) (fun c => ?_) (fun c => ?_)
    · replace h := h.2.1 c
      refine r_iconst ok 0 d_Ru_afterFirstDigit_25 rfl ?_
      refine p_Ru_startsWithZero ok (by decide) d_Ru_afterFirstDigit_26 ?_
      replace h := h _ rfl
      generalize sF s3 22 0 = s4 at h ⊢
      refine r_iconst ok 5 d_Ru_afterFirstDigit_29 rfl ?_
      exact hQ _ _ _ _ _ (ok_code ok) d_Ru_afterFirstDigit_30 h
    · replace h := h.2.2 c
      refine r_iconst ok 1 d_Ru_afterFirstDigit_21 rfl ?_
      refine r_goto ok 26 d_Ru_afterFirstDigit_22 (by decide) ?_
      refine p_Ru_startsWithZero ok (by decide) d_Ru_afterFirstDigit_26 ?_
      replace h := h _ rfl
      generalize sF s3 22 1 = s5 at h ⊢
      refine r_iconst ok 5 d_Ru_afterFirstDigit_29 rfl ?_
      exact hQ _ _ _ _ _ (ok_code ok) d_Ru_afterFirstDigit_30 h
  · replace h := h.2.2 c
    refine r_iconst ok (-1) d_Ru_afterFirstDigit_7 rfl ?_
    exact hQ _ _ _ _ _ (ok_code ok) d_Ru_afterFirstDigit_8 h
theorem L_Ru_afterFirstDigit (l : Launch) (G : GE) (A : Nat → Prop) (hD : ∀ σ, va_D A (GW G σ)) {x1 : Int} {s : SS} {Q : Int → SS → Prop} (h : Sp_Ru_afterFirstDigit x1 s Q) : Met l y_Ru_afterFirstDigit (Cond.code y_Ru_afterFirstDigit prog_7_method_9_code 2 (some .int) :: lw_ok) ({ frames := 1, cells := 0, slots := 0, locals := 20 } : Room) (va_Pc [.ref (G.1 7), vI x1] (gB G s)) (va_Qi (fun (r : Int32) (s2 : SS) => ∃ x : Int, r = iI x ∧ Q x s2) (fun s2 t => gB G s2 t) A) 0 0 A := by
  refine met_i hD (by decide) ⟨rfl, rfl⟩ (Nat.le_of_ble_eq_true rfl) (lv := [(0, .ref (G.1 7)), (1, vI x1)]) rfl (fun F h1 h2 h3 hm ok hQ => ?_)
  subst h1 h2 h3
  have hDF := hD
  exact K_Ru_afterFirstDigit_e hDF hm ok hQ h
theorem d_Ru_afterDigit_0 : decode prog_7_method_10_code 0 = .ok (.aload_n 0, 1) := by decide +kernel
theorem d_Ru_afterDigit_1 : decode prog_7_method_10_code 1 = .ok (.getfield 84, 3) := by decide +kernel
theorem d_Ru_afterDigit_4 : decode prog_7_method_10_code 4 = .ok (.iconst 3, 1) := by decide +kernel
theorem d_Ru_afterDigit_5 : decode prog_7_method_10_code 5 = .ok (.if_icmp .ge 10, 3) := by decide +kernel
theorem d_Ru_afterDigit_8 : decode prog_7_method_10_code 8 = .ok (.aload_n 0, 1) := by decide +kernel
theorem d_Ru_afterDigit_9 : decode prog_7_method_10_code 9 = .ok (.getfield 87, 3) := by decide +kernel
theorem d_Ru_afterDigit_12 : decode prog_7_method_10_code 12 = .ok (.ifCond .eq 5, 3) := by decide +kernel
theorem d_Ru_afterDigit_15 : decode prog_7_method_10_code 15 = .ok (.iconst (-1), 1) := by decide +kernel
theorem d_Ru_afterDigit_16 : decode prog_7_method_10_code 16 = .ok (.ireturn, 1) := by decide +kernel
theorem d_Ru_afterDigit_17 : decode prog_7_method_10_code 17 = .ok (.aload_n 0, 1) := by decide +kernel
theorem d_Ru_afterDigit_18 : decode prog_7_method_10_code 18 = .ok (.dup, 1) := by decide +kernel
theorem d_Ru_afterDigit_19 : decode prog_7_method_10_code 19 = .ok (.getfield 84, 3) := by decide +kernel
theorem d_Ru_afterDigit_22 : decode prog_7_method_10_code 22 = .ok (.iconst 1, 1) := by decide +kernel
theorem d_Ru_afterDigit_23 : decode prog_7_method_10_code 23 = .ok (.iadd, 1) := by decide +kernel
theorem d_Ru_afterDigit_24 : decode prog_7_method_10_code 24 = .ok (.putfield 84, 3) := by decide +kernel
theorem d_Ru_afterDigit_27 : decode prog_7_method_10_code 27 = .ok (.iconst 5, 1) := by decide +kernel
theorem d_Ru_afterDigit_28 : decode prog_7_method_10_code 28 = .ok (.ireturn, 1) := by decide +kernel
set_option maxHeartbeats 4000000 in
set_option maxRecDepth 100000 in
theorem K_Ru_afterDigit_e {F : FT} (hD : ∀ σ, va_D F.2.2.1 (GW F.2.1 σ)) (hm : F.2.2.2.2.2.2.2.2.2.2.2.2.2.2.1 = 1) (ok : OkF F prog_7_method_10_code "LastSeen$Rules" ({ frames := 0, cells := 0, slots := 0, locals := 0 } : Room)) {Q : Int → SS → Prop} (hQ : RetI F Q) {s : SS} (h : Sp_Ru_afterDigit  s Q) : AtS F 0 [(0, .ref (F.2.1.1 7))] [] s := by
  unfold Sp_Ru_afterDigit at h
  refine r_aload_n ok 0 d_Ru_afterDigit_0 rfl rfl ?_
  refine g_Ru_digits ok d_Ru_afterDigit_1 ?_
  refine r_iconst ok 3 d_Ru_afterDigit_4 rfl ?_
  refine r_icmp_ge ok 15 d_Ru_afterDigit_5 (by decide) h.1 (by decide) (fun c => ?_) (fun c => ?_)
  · replace h := h.2.1 c
    refine r_iconst ok (-1) d_Ru_afterDigit_15 rfl ?_
    exact hQ _ _ _ _ _ (ok_code ok) d_Ru_afterDigit_16 h
  · replace h := h.2.2 c
    refine r_aload_n ok 0 d_Ru_afterDigit_8 rfl rfl ?_
    refine g_Ru_startsWithZero ok d_Ru_afterDigit_9 ?_
    refine r_if_eq ok 17 d_Ru_afterDigit_12 (by decide) h.1 (fun c => ?_) (fun c => ?_)
    · replace h := h.2.1 c
      refine r_aload_n ok 0 d_Ru_afterDigit_17 rfl rfl ?_
      refine r_dup ok d_Ru_afterDigit_18 rfl ?_
      refine g_Ru_digits ok d_Ru_afterDigit_19 ?_
      refine r_iconst ok 1 d_Ru_afterDigit_22 rfl ?_
      refine r_iadd ok d_Ru_afterDigit_23 ?_
      refine p_Ru_digits ok d_Ru_afterDigit_24 ?_
      replace h := h _ rfl
      generalize sF s 21 ((s.1 21) + 1) = s1 at h ⊢
      refine r_iconst ok 5 d_Ru_afterDigit_27 rfl ?_
      exact hQ _ _ _ _ _ (ok_code ok) d_Ru_afterDigit_28 h
    · replace h := h.2.2 c
      refine r_iconst ok (-1) d_Ru_afterDigit_15 rfl ?_
      exact hQ _ _ _ _ _ (ok_code ok) d_Ru_afterDigit_16 h
theorem L_Ru_afterDigit (l : Launch) (G : GE) (A : Nat → Prop) (hD : ∀ σ, va_D A (GW G σ)) {s : SS} {Q : Int → SS → Prop} (h : Sp_Ru_afterDigit  s Q) : Met l y_Ru_afterDigit (Cond.code y_Ru_afterDigit prog_7_method_10_code 1 (some .int) :: lw_ok) ({ frames := 0, cells := 0, slots := 0, locals := 0 } : Room) (va_Pc [.ref (G.1 7)] (gB G s)) (va_Qi (fun (r : Int32) (s2 : SS) => ∃ x : Int, r = iI x ∧ Q x s2) (fun s2 t => gB G s2 t) A) 0 0 A := by
  refine met_i hD (by decide) ⟨rfl, rfl⟩ (Nat.le_of_ble_eq_true rfl) (lv := [(0, .ref (G.1 7))]) rfl (fun F h1 h2 h3 hm ok hQ => ?_)
  subst h1 h2 h3
  have hDF := hD
  exact K_Ru_afterDigit_e hDF hm ok hQ h
theorem d_Ru_afterFact_0 : decode prog_7_method_11_code 0 = .ok (.iload_n 1, 1) := by decide +kernel
theorem d_Ru_afterFact_1 : decode prog_7_method_11_code 1 = .ok (.bipush 38, 2) := by decide +kernel
theorem d_Ru_afterFact_3 : decode prog_7_method_11_code 3 = .ok (.if_icmp .eq 9, 3) := by decide +kernel
theorem d_Ru_afterFact_6 : decode prog_7_method_11_code 6 = .ok (.iload_n 1, 1) := by decide +kernel
theorem d_Ru_afterFact_7 : decode prog_7_method_11_code 7 = .ok (.bipush 124, 2) := by decide +kernel
theorem d_Ru_afterFact_9 : decode prog_7_method_11_code 9 = .ok (.if_icmp .ne 5, 3) := by decide +kernel
theorem d_Ru_afterFact_12 : decode prog_7_method_11_code 12 = .ok (.iconst 1, 1) := by decide +kernel
theorem d_Ru_afterFact_13 : decode prog_7_method_11_code 13 = .ok (.ireturn, 1) := by decide +kernel
theorem d_Ru_afterFact_14 : decode prog_7_method_11_code 14 = .ok (.iload_n 1, 1) := by decide +kernel
theorem d_Ru_afterFact_15 : decode prog_7_method_11_code 15 = .ok (.bipush 41, 2) := by decide +kernel
theorem d_Ru_afterFact_17 : decode prog_7_method_11_code 17 = .ok (.if_icmp .ne 23, 3) := by decide +kernel
theorem d_Ru_afterFact_20 : decode prog_7_method_11_code 20 = .ok (.aload_n 0, 1) := by decide +kernel
theorem d_Ru_afterFact_21 : decode prog_7_method_11_code 21 = .ok (.getfield 39, 3) := by decide +kernel
theorem d_Ru_afterFact_24 : decode prog_7_method_11_code 24 = .ok (.ifCond .le 16, 3) := by decide +kernel
theorem d_Ru_afterFact_27 : decode prog_7_method_11_code 27 = .ok (.aload_n 0, 1) := by decide +kernel
theorem d_Ru_afterFact_28 : decode prog_7_method_11_code 28 = .ok (.dup, 1) := by decide +kernel
theorem d_Ru_afterFact_29 : decode prog_7_method_11_code 29 = .ok (.getfield 39, 3) := by decide +kernel
theorem d_Ru_afterFact_32 : decode prog_7_method_11_code 32 = .ok (.iconst 1, 1) := by decide +kernel
theorem d_Ru_afterFact_33 : decode prog_7_method_11_code 33 = .ok (.isub, 1) := by decide +kernel
theorem d_Ru_afterFact_34 : decode prog_7_method_11_code 34 = .ok (.putfield 39, 3) := by decide +kernel
theorem d_Ru_afterFact_37 : decode prog_7_method_11_code 37 = .ok (.bipush 6, 2) := by decide +kernel
theorem d_Ru_afterFact_39 : decode prog_7_method_11_code 39 = .ok (.ireturn, 1) := by decide +kernel
theorem d_Ru_afterFact_40 : decode prog_7_method_11_code 40 = .ok (.iload_n 1, 1) := by decide +kernel
theorem d_Ru_afterFact_41 : decode prog_7_method_11_code 41 = .ok (.bipush 62, 2) := by decide +kernel
theorem d_Ru_afterFact_43 : decode prog_7_method_11_code 43 = .ok (.if_icmp .ne 15, 3) := by decide +kernel
theorem d_Ru_afterFact_46 : decode prog_7_method_11_code 46 = .ok (.aload_n 0, 1) := by decide +kernel
theorem d_Ru_afterFact_47 : decode prog_7_method_11_code 47 = .ok (.getfield 39, 3) := by decide +kernel
theorem d_Ru_afterFact_50 : decode prog_7_method_11_code 50 = .ok (.ifCond .ne 8, 3) := by decide +kernel
theorem d_Ru_afterFact_53 : decode prog_7_method_11_code 53 = .ok (.bipush 7, 2) := by decide +kernel
theorem d_Ru_afterFact_55 : decode prog_7_method_11_code 55 = .ok (.goto 4, 3) := by decide +kernel
theorem d_Ru_afterFact_58 : decode prog_7_method_11_code 58 = .ok (.iconst (-1), 1) := by decide +kernel
theorem d_Ru_afterFact_59 : decode prog_7_method_11_code 59 = .ok (.ireturn, 1) := by decide +kernel
set_option maxHeartbeats 4000000 in
set_option maxRecDepth 100000 in
theorem K_Ru_afterFact_e {F : FT} (hD : ∀ σ, va_D F.2.2.1 (GW F.2.1 σ)) (hm : F.2.2.2.2.2.2.2.2.2.2.2.2.2.2.1 = 2) (ok : OkF F prog_7_method_11_code "LastSeen$Rules" ({ frames := 0, cells := 0, slots := 0, locals := 0 } : Room)) {Q : Int → SS → Prop} (hQ : RetI F Q) {x1 : Int} {s : SS} (h : Sp_Ru_afterFact x1 s Q) : AtS F 0 [(0, .ref (F.2.1.1 7)), (1, vI x1)] [] s := by
  unfold Sp_Ru_afterFact at h
  refine r_iload_n ok 1 d_Ru_afterFact_0 rfl rfl ?_
  refine r_bipush ok 38 d_Ru_afterFact_1 (by decide) ?_
  refine r_icmp_eq ok 12 d_Ru_afterFact_3 (by decide) h.1 (by decide) (fun c => ?_) (fun c => ?_)
  · replace h := h.2.1 c
    refine r_iconst ok 1 d_Ru_afterFact_12 rfl ?_
    exact hQ _ _ _ _ _ (ok_code ok) d_Ru_afterFact_13 h
  · replace h := h.2.2 c
    refine r_iload_n ok 1 d_Ru_afterFact_6 rfl rfl ?_
    refine r_bipush ok 124 d_Ru_afterFact_7 (by decide) ?_
    refine r_icmp_ne ok 14 d_Ru_afterFact_9 (by decide) h.1 (by decide) (fun c => ?_) (fun c => ?_)
    · replace h := h.2.1 c
      refine r_iload_n ok 1 d_Ru_afterFact_14 rfl rfl ?_
      refine r_bipush ok 41 d_Ru_afterFact_15 (by decide) ?_
      refine r_icmp_ne ok 40 d_Ru_afterFact_17 (by decide) h.1 (by decide) (fun c => ?_) (fun c => ?_)
      · replace h := h.2.1 c
        refine r_iload_n ok 1 d_Ru_afterFact_40 rfl rfl ?_
        refine r_bipush ok 62 d_Ru_afterFact_41 (by decide) ?_
        refine r_icmp_ne ok 58 d_Ru_afterFact_43 (by decide) h.1 (by decide) (fun c => ?_) (fun c => ?_)
        · replace h := h.2.1 c
          refine r_iconst ok (-1) d_Ru_afterFact_58 rfl ?_
          exact hQ _ _ _ _ _ (ok_code ok) d_Ru_afterFact_59 h
        · replace h := h.2.2 c
          refine r_aload_n ok 0 d_Ru_afterFact_46 rfl rfl ?_
          refine g_Ru_depth ok d_Ru_afterFact_47 ?_
          refine r_if_ne ok 58 d_Ru_afterFact_50 (by decide) h.1 (fun c => ?_) (fun c => ?_)
          · replace h := h.2.1 c
            refine r_iconst ok (-1) d_Ru_afterFact_58 rfl ?_
            exact hQ _ _ _ _ _ (ok_code ok) d_Ru_afterFact_59 h
          · replace h := h.2.2 c
            refine r_bipush ok 7 d_Ru_afterFact_53 (by decide) ?_
            refine r_goto ok 59 d_Ru_afterFact_55 (by decide) ?_
            exact hQ _ _ _ _ _ (ok_code ok) d_Ru_afterFact_59 h
      · replace h := h.2.2 c
        refine r_aload_n ok 0 d_Ru_afterFact_20 rfl rfl ?_
        refine g_Ru_depth ok d_Ru_afterFact_21 ?_
        refine r_if_le ok 40 d_Ru_afterFact_24 (by decide) h.1 (fun c => ?_) (fun c => ?_)
        · replace h := h.2.1 c
          refine r_iload_n ok 1 d_Ru_afterFact_40 rfl rfl ?_
          refine r_bipush ok 62 d_Ru_afterFact_41 (by decide) ?_
          refine r_icmp_ne ok 58 d_Ru_afterFact_43 (by decide) h.1 (by decide) (fun c => ?_) (fun c => ?_)
          · replace h := h.2.1 c
            refine r_iconst ok (-1) d_Ru_afterFact_58 rfl ?_
            exact hQ _ _ _ _ _ (ok_code ok) d_Ru_afterFact_59 h
          · replace h := h.2.2 c
            refine r_aload_n ok 0 d_Ru_afterFact_46 rfl rfl ?_
            refine g_Ru_depth ok d_Ru_afterFact_47 ?_
            refine r_if_ne ok 58 d_Ru_afterFact_50 (by decide) h.1 (fun c => ?_) (fun c => ?_)
            · replace h := h.2.1 c
              refine r_iconst ok (-1) d_Ru_afterFact_58 rfl ?_
              exact hQ _ _ _ _ _ (ok_code ok) d_Ru_afterFact_59 h
            · replace h := h.2.2 c
              refine r_bipush ok 7 d_Ru_afterFact_53 (by decide) ?_
              refine r_goto ok 59 d_Ru_afterFact_55 (by decide) ?_
              exact hQ _ _ _ _ _ (ok_code ok) d_Ru_afterFact_59 h
        · replace h := h.2.2 c
          refine r_aload_n ok 0 d_Ru_afterFact_27 rfl rfl ?_
          refine r_dup ok d_Ru_afterFact_28 rfl ?_
          refine g_Ru_depth ok d_Ru_afterFact_29 ?_
          refine r_iconst ok 1 d_Ru_afterFact_32 rfl ?_
          refine r_isub ok d_Ru_afterFact_33 ?_
          refine p_Ru_depth ok d_Ru_afterFact_34 ?_
          replace h := h _ rfl
          generalize sF s 19 ((s.1 19) - 1) = s1 at h ⊢
          refine r_bipush ok 6 d_Ru_afterFact_37 (by decide) ?_
          exact hQ _ _ _ _ _ (ok_code ok) d_Ru_afterFact_39 h
    · replace h := h.2.2 c
      refine r_iconst ok 1 d_Ru_afterFact_12 rfl ?_
      exact hQ _ _ _ _ _ (ok_code ok) d_Ru_afterFact_13 h
theorem L_Ru_afterFact (l : Launch) (G : GE) (A : Nat → Prop) (hD : ∀ σ, va_D A (GW G σ)) {x1 : Int} {s : SS} {Q : Int → SS → Prop} (h : Sp_Ru_afterFact x1 s Q) : Met l y_Ru_afterFact (Cond.code y_Ru_afterFact prog_7_method_11_code 2 (some .int) :: lw_ok) ({ frames := 0, cells := 0, slots := 0, locals := 0 } : Room) (va_Pc [.ref (G.1 7), vI x1] (gB G s)) (va_Qi (fun (r : Int32) (s2 : SS) => ∃ x : Int, r = iI x ∧ Q x s2) (fun s2 t => gB G s2 t) A) 0 0 A := by
  refine met_i hD (by decide) ⟨rfl, rfl⟩ (Nat.le_of_ble_eq_true rfl) (lv := [(0, .ref (G.1 7)), (1, vI x1)]) rfl (fun F h1 h2 h3 hm ok hQ => ?_)
  subst h1 h2 h3
  have hDF := hD
  exact K_Ru_afterFact_e hDF hm ok hQ h
end
