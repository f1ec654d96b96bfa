section
theorem d_La_isPlace_0 : decode prog_5_method_2_code 0 = .ok (.iload_n 0, 1) := by decide +kernel
theorem d_La_isPlace_1 : decode prog_5_method_2_code 1 = .ok (.ifCond .lt 13, 3) := by decide +kernel
theorem d_La_isPlace_4 : decode prog_5_method_2_code 4 = .ok (.iload_n 0, 1) := by decide +kernel
theorem d_La_isPlace_5 : decode prog_5_method_2_code 5 = .ok (.bipush 10, 2) := by decide +kernel
theorem d_La_isPlace_7 : decode prog_5_method_2_code 7 = .ok (.if_icmp .ge 7, 3) := by decide +kernel
theorem d_La_isPlace_10 : decode prog_5_method_2_code 10 = .ok (.iconst 1, 1) := by decide +kernel
theorem d_La_isPlace_11 : decode prog_5_method_2_code 11 = .ok (.goto 4, 3) := by decide +kernel
theorem d_La_isPlace_14 : decode prog_5_method_2_code 14 = .ok (.iconst 0, 1) := by decide +kernel
theorem d_La_isPlace_15 : decode prog_5_method_2_code 15 = .ok (.ireturn, 1) := by decide +kernel
set_option maxHeartbeats 4000000 in
set_option maxRecDepth 100000 in
theorem K_La_isPlace_e {F : FT} (hD : ∀ σ, va_D F.2.2.1 (GW F.2.1 σ)) (hm : F.2.2.2.2.2.2.2.2.2.2.2.2.2.2.1 = 1) (ok : OkF F prog_5_method_2_code "LastSeen$Land" ({ frames := 0, cells := 0, slots := 0, locals := 0 } : Room)) {Q : Int → SS → Prop} (hQ : RetZ F Q) {x0 : Int} {s : SS} (h : Sp_La_isPlace x0 s Q) : AtS F 0 [(0, vI x0)] [] s := by
  unfold Sp_La_isPlace at h
  refine r_iload_n ok 0 d_La_isPlace_0 rfl rfl ?_
  refine r_if_lt ok 14 d_La_isPlace_1 (by decide) h.1 (fun c => ?_) (fun c => ?_)
  · replace h := h.2.1 c
    refine r_iconst ok 0 d_La_isPlace_14 rfl ?_
    exact hQ _ _ _ _ _ (ok_code ok) d_La_isPlace_15 (by decide) h
  · replace h := h.2.2 c
    refine r_iload_n ok 0 d_La_isPlace_4 rfl rfl ?_
    refine r_bipush ok 10 d_La_isPlace_5 (by decide) ?_
    refine r_icmp_ge ok 14 d_La_isPlace_7 (by decide) h.1 (by decide) (fun c => ?_) (fun c => ?_)
    · replace h := h.2.1 c
      refine r_iconst ok 0 d_La_isPlace_14 rfl ?_
      exact hQ _ _ _ _ _ (ok_code ok) d_La_isPlace_15 (by decide) h
    · replace h := h.2.2 c
      refine r_iconst ok 1 d_La_isPlace_10 rfl ?_
      refine r_goto ok 15 d_La_isPlace_11 (by decide) ?_
      exact hQ _ _ _ _ _ (ok_code ok) d_La_isPlace_15 (by decide) h
theorem L_La_isPlace (l : Launch) (G : GE) (A : Nat → Prop) (hD : ∀ σ, va_D A (GW G σ)) {x0 : Int} {s : SS} {Q : Int → SS → Prop} (h : Sp_La_isPlace x0 s Q) : Met l y_La_isPlace (Cond.code y_La_isPlace prog_5_method_2_code 1 (some .boolean) :: lw_ok) ({ frames := 0, cells := 0, slots := 0, locals := 0 } : Room) (va_Pc [vI x0] (gB G s)) (va_Qi (fun (r : Int32) (s2 : SS) => ∃ x : Int, r = iI x ∧ Q x s2) (fun s2 t => gB G s2 t) A) 0 0 A := by
  refine met_z hD (by decide) ⟨rfl, rfl⟩ (Nat.le_of_ble_eq_true rfl) (lv := [(0, vI x0)]) rfl (fun F h1 h2 h3 hm ok hQ => ?_)
  subst h1 h2 h3
  have hDF := hD
  exact K_La_isPlace_e hDF hm ok hQ h
theorem d_La_isFull_0 : decode prog_5_method_3_code 0 = .ok (.aload_n 0, 1) := by decide +kernel
theorem d_La_isFull_1 : decode prog_5_method_3_code 1 = .ok (.getfield 14, 3) := by decide +kernel
theorem d_La_isFull_4 : decode prog_5_method_3_code 4 = .ok (.bipush 40, 2) := by decide +kernel
theorem d_La_isFull_6 : decode prog_5_method_3_code 6 = .ok (.if_icmp .lt 7, 3) := by decide +kernel
theorem d_La_isFull_9 : decode prog_5_method_3_code 9 = .ok (.iconst 1, 1) := by decide +kernel
theorem d_La_isFull_10 : decode prog_5_method_3_code 10 = .ok (.goto 4, 3) := by decide +kernel
theorem d_La_isFull_13 : decode prog_5_method_3_code 13 = .ok (.iconst 0, 1) := by decide +kernel
theorem d_La_isFull_14 : decode prog_5_method_3_code 14 = .ok (.ireturn, 1) := by decide +kernel
set_option maxHeartbeats 4000000 in
set_option maxRecDepth 100000 in
theorem K_La_isFull_e {F : FT} (hD : ∀ σ, va_D F.2.2.1 (GW F.2.1 σ)) (hm : F.2.2.2.2.2.2.2.2.2.2.2.2.2.2.1 = 1) (ok : OkF F prog_5_method_3_code "LastSeen$Land" ({ frames := 0, cells := 0, slots := 0, locals := 0 } : Room)) {Q : Int → SS → Prop} (hQ : RetZ F Q) {s : SS} (h : Sp_La_isFull  s Q) : AtS F 0 [(0, .ref (F.2.1.1 1))] [] s := by
  unfold Sp_La_isFull at h
  refine r_aload_n ok 0 d_La_isFull_0 rfl rfl ?_
  refine g_La_roads ok d_La_isFull_1 ?_
  refine r_bipush ok 40 d_La_isFull_4 (by decide) ?_
  refine r_icmp_lt ok 13 d_La_isFull_6 (by decide) h.1 (by decide) (fun c => ?_) (fun c => ?_)
  · replace h := h.2.1 c
    refine r_iconst ok 0 d_La_isFull_13 rfl ?_
    exact hQ _ _ _ _ _ (ok_code ok) d_La_isFull_14 (by decide) h
  · replace h := h.2.2 c
    refine r_iconst ok 1 d_La_isFull_9 rfl ?_
    refine r_goto ok 14 d_La_isFull_10 (by decide) ?_
    exact hQ _ _ _ _ _ (ok_code ok) d_La_isFull_14 (by decide) h
theorem L_La_isFull (l : Launch) (G : GE) (A : Nat → Prop) (hD : ∀ σ, va_D A (GW G σ)) {s : SS} {Q : Int → SS → Prop} (h : Sp_La_isFull  s Q) : Met l y_La_isFull (Cond.code y_La_isFull prog_5_method_3_code 1 (some .boolean) :: lw_ok) ({ frames := 0, cells := 0, slots := 0, locals := 0 } : Room) (va_Pc [.ref (G.1 1)] (gB G s)) (va_Qi (fun (r : Int32) (s2 : SS) => ∃ x : Int, r = iI x ∧ Q x s2) (fun s2 t => gB G s2 t) A) 0 0 A := by
  refine met_z hD (by decide) ⟨rfl, rfl⟩ (Nat.le_of_ble_eq_true rfl) (lv := [(0, .ref (G.1 1))]) rfl (fun F h1 h2 h3 hm ok hQ => ?_)
  subst h1 h2 h3
  have hDF := hD
  exact K_La_isFull_e hDF hm ok hQ h
theorem d_La_distance_0 : decode prog_5_method_4_code 0 = .ok (.aload_n 0, 1) := by decide +kernel
theorem d_La_distance_1 : decode prog_5_method_4_code 1 = .ok (.getfield 9, 3) := by decide +kernel
theorem d_La_distance_4 : decode prog_5_method_4_code 4 = .ok (.iload_n 1, 1) := by decide +kernel
theorem d_La_distance_5 : decode prog_5_method_4_code 5 = .ok (.bipush 10, 2) := by decide +kernel
theorem d_La_distance_7 : decode prog_5_method_4_code 7 = .ok (.imul, 1) := by decide +kernel
theorem d_La_distance_8 : decode prog_5_method_4_code 8 = .ok (.iload_n 2, 1) := by decide +kernel
theorem d_La_distance_9 : decode prog_5_method_4_code 9 = .ok (.iadd, 1) := by decide +kernel
theorem d_La_distance_10 : decode prog_5_method_4_code 10 = .ok (.iaload, 1) := by decide +kernel
theorem d_La_distance_11 : decode prog_5_method_4_code 11 = .ok (.ireturn, 1) := by decide +kernel
set_option maxHeartbeats 4000000 in
set_option maxRecDepth 100000 in
theorem K_La_distance_e {F : FT} (hD : ∀ σ, va_D F.2.2.1 (GW F.2.1 σ)) (hm : F.2.2.2.2.2.2.2.2.2.2.2.2.2.2.1 = 3) (ok : OkF F prog_5_method_4_code "LastSeen$Land" ({ frames := 0, cells := 0, slots := 0, locals := 0 } : Room)) {Q : Int → SS → Prop} (hQ : RetI F Q) {x1 x2 : Int} {s : SS} (h : Sp_La_distance x1 x2 s Q) : AtS F 0 [(0, .ref (F.2.1.1 1)), (1, vI x1), (2, vI x2)] [] s := by
  unfold Sp_La_distance at h
  refine r_aload_n ok 0 d_La_distance_0 rfl rfl ?_
  refine g_La_watches ok d_La_distance_1 ?_
  refine r_iload_n ok 1 d_La_distance_4 rfl rfl ?_
  refine r_bipush ok 10 d_La_distance_5 (by decide) ?_
  refine r_imul ok d_La_distance_7 ?_
  refine r_iload_n ok 2 d_La_distance_8 rfl rfl ?_
  refine r_iadd ok d_La_distance_9 ?_
  refine r_iald ok 4 d_La_distance_10 (by decide) rfl h.1 ?_
  replace h := h.2
  exact hQ _ _ _ _ _ (ok_code ok) d_La_distance_11 h
theorem L_La_distance (l : Launch) (G : GE) (A : Nat → Prop) (hD : ∀ σ, va_D A (GW G σ)) {x1 x2 : Int} {s : SS} {Q : Int → SS → Prop} (h : Sp_La_distance x1 x2 s Q) : Met l y_La_distance (Cond.code y_La_distance prog_5_method_4_code 3 (some .int) :: lw_ok) ({ frames := 0, cells := 0, slots := 0, locals := 0 } : Room) (va_Pc [.ref (G.1 1), vI x1, vI x2] (gB G s)) (va_Qi (fun (r : Int32) (s2 : SS) => ∃ x : Int, r = iI x ∧ Q x s2) (fun s2 t => gB G s2 t) A) 0 0 A := by
  refine met_i hD (by decide) ⟨rfl, rfl⟩ (Nat.le_of_ble_eq_true rfl) (lv := [(0, .ref (G.1 1)), (1, vI x1), (2, vI x2)]) rfl (fun F h1 h2 h3 hm ok hQ => ?_)
  subst h1 h2 h3
  have hDF := hD
  exact K_La_distance_e hDF hm ok hQ h
theorem d_La_lay_0 : decode prog_5_method_5_code 0 = .ok (.iconst 0, 1) := by decide +kernel
theorem d_La_lay_1 : decode prog_5_method_5_code 1 = .ok (.istore 4, 2) := by decide +kernel
theorem d_La_lay_3 : decode prog_5_method_5_code 3 = .ok (.iload 4, 2) := by decide +kernel
theorem d_La_lay_5 : decode prog_5_method_5_code 5 = .ok (.bipush 10, 2) := by decide +kernel
theorem d_La_lay_7 : decode prog_5_method_5_code 7 = .ok (.if_icmp .ge 98, 3) := by decide +kernel
theorem d_La_lay_10 : decode prog_5_method_5_code 10 = .ok (.iconst 0, 1) := by decide +kernel
theorem d_La_lay_11 : decode prog_5_method_5_code 11 = .ok (.istore 5, 2) := by decide +kernel
theorem d_La_lay_13 : decode prog_5_method_5_code 13 = .ok (.iload 5, 2) := by decide +kernel
theorem d_La_lay_15 : decode prog_5_method_5_code 15 = .ok (.bipush 10, 2) := by decide +kernel
theorem d_La_lay_17 : decode prog_5_method_5_code 17 = .ok (.if_icmp .ge 82, 3) := by decide +kernel
theorem d_La_lay_20 : decode prog_5_method_5_code 20 = .ok (.aload_n 0, 1) := by decide +kernel
theorem d_La_lay_21 : decode prog_5_method_5_code 21 = .ok (.iload 4, 2) := by decide +kernel
theorem d_La_lay_23 : decode prog_5_method_5_code 23 = .ok (.iload_n 1, 1) := by decide +kernel
theorem d_La_lay_24 : decode prog_5_method_5_code 24 = .ok (.invokevirtual 18, 3) := by decide +kernel
theorem d_La_lay_27 : decode prog_5_method_5_code 27 = .ok (.iload_n 3, 1) := by decide +kernel
theorem d_La_lay_28 : decode prog_5_method_5_code 28 = .ok (.iadd, 1) := by decide +kernel
theorem d_La_lay_29 : decode prog_5_method_5_code 29 = .ok (.aload_n 0, 1) := by decide +kernel
theorem d_La_lay_30 : decode prog_5_method_5_code 30 = .ok (.iload_n 2, 1) := by decide +kernel
theorem d_La_lay_31 : decode prog_5_method_5_code 31 = .ok (.iload 5, 2) := by decide +kernel
theorem d_La_lay_33 : decode prog_5_method_5_code 33 = .ok (.invokevirtual 18, 3) := by decide +kernel
theorem d_La_lay_36 : decode prog_5_method_5_code 36 = .ok (.iadd, 1) := by decide +kernel
theorem d_La_lay_37 : decode prog_5_method_5_code 37 = .ok (.istore 6, 2) := by decide +kernel
theorem d_La_lay_39 : decode prog_5_method_5_code 39 = .ok (.aload_n 0, 1) := by decide +kernel
theorem d_La_lay_40 : decode prog_5_method_5_code 40 = .ok (.iload 4, 2) := by decide +kernel
theorem d_La_lay_42 : decode prog_5_method_5_code 42 = .ok (.iload_n 2, 1) := by decide +kernel
theorem d_La_lay_43 : decode prog_5_method_5_code 43 = .ok (.invokevirtual 18, 3) := by decide +kernel
theorem d_La_lay_46 : decode prog_5_method_5_code 46 = .ok (.iload_n 3, 1) := by decide +kernel
theorem d_La_lay_47 : decode prog_5_method_5_code 47 = .ok (.iadd, 1) := by decide +kernel
theorem d_La_lay_48 : decode prog_5_method_5_code 48 = .ok (.aload_n 0, 1) := by decide +kernel
theorem d_La_lay_49 : decode prog_5_method_5_code 49 = .ok (.iload_n 1, 1) := by decide +kernel
theorem d_La_lay_50 : decode prog_5_method_5_code 50 = .ok (.iload 5, 2) := by decide +kernel
theorem d_La_lay_52 : decode prog_5_method_5_code 52 = .ok (.invokevirtual 18, 3) := by decide +kernel
theorem d_La_lay_55 : decode prog_5_method_5_code 55 = .ok (.iadd, 1) := by decide +kernel
theorem d_La_lay_56 : decode prog_5_method_5_code 56 = .ok (.istore 7, 2) := by decide +kernel
theorem d_La_lay_58 : decode prog_5_method_5_code 58 = .ok (.aload_n 0, 1) := by decide +kernel
theorem d_La_lay_59 : decode prog_5_method_5_code 59 = .ok (.iload 4, 2) := by decide +kernel
theorem d_La_lay_61 : decode prog_5_method_5_code 61 = .ok (.iload 5, 2) := by decide +kernel
theorem d_La_lay_63 : decode prog_5_method_5_code 63 = .ok (.invokevirtual 18, 3) := by decide +kernel
theorem d_La_lay_66 : decode prog_5_method_5_code 66 = .ok (.iload 6, 2) := by decide +kernel
theorem d_La_lay_68 : decode prog_5_method_5_code 68 = .ok (.iload 7, 2) := by decide +kernel
theorem d_La_lay_70 : decode prog_5_method_5_code 70 = .ok (.invokestatic 22, 3) := by decide +kernel
theorem d_La_lay_73 : decode prog_5_method_5_code 73 = .ok (.invokestatic 22, 3) := by decide +kernel
theorem d_La_lay_76 : decode prog_5_method_5_code 76 = .ok (.istore 8, 2) := by decide +kernel
theorem d_La_lay_78 : decode prog_5_method_5_code 78 = .ok (.aload_n 0, 1) := by decide +kernel
theorem d_La_lay_79 : decode prog_5_method_5_code 79 = .ok (.getfield 9, 3) := by decide +kernel
theorem d_La_lay_82 : decode prog_5_method_5_code 82 = .ok (.iload 4, 2) := by decide +kernel
theorem d_La_lay_84 : decode prog_5_method_5_code 84 = .ok (.bipush 10, 2) := by decide +kernel
theorem d_La_lay_86 : decode prog_5_method_5_code 86 = .ok (.imul, 1) := by decide +kernel
theorem d_La_lay_87 : decode prog_5_method_5_code 87 = .ok (.iload 5, 2) := by decide +kernel
theorem d_La_lay_89 : decode prog_5_method_5_code 89 = .ok (.iadd, 1) := by decide +kernel
theorem d_La_lay_90 : decode prog_5_method_5_code 90 = .ok (.iload 8, 2) := by decide +kernel
theorem d_La_lay_92 : decode prog_5_method_5_code 92 = .ok (.iastore, 1) := by decide +kernel
theorem d_La_lay_93 : decode prog_5_method_5_code 93 = .ok (.iinc 5 1, 3) := by decide +kernel
theorem d_La_lay_96 : decode prog_5_method_5_code 96 = .ok (.goto (-83), 3) := by decide +kernel
theorem d_La_lay_99 : decode prog_5_method_5_code 99 = .ok (.iinc 4 1, 3) := by decide +kernel
theorem d_La_lay_102 : decode prog_5_method_5_code 102 = .ok (.goto (-99), 3) := by decide +kernel
theorem d_La_lay_105 : decode prog_5_method_5_code 105 = .ok (.aload_n 0, 1) := by decide +kernel
theorem d_La_lay_106 : decode prog_5_method_5_code 106 = .ok (.dup, 1) := by decide +kernel
theorem d_La_lay_107 : decode prog_5_method_5_code 107 = .ok (.getfield 14, 3) := by decide +kernel
theorem d_La_lay_110 : decode prog_5_method_5_code 110 = .ok (.iconst 1, 1) := by decide +kernel
theorem d_La_lay_111 : decode prog_5_method_5_code 111 = .ok (.iadd, 1) := by decide +kernel
theorem d_La_lay_112 : decode prog_5_method_5_code 112 = .ok (.putfield 14, 3) := by decide +kernel
theorem d_La_lay_115 : decode prog_5_method_5_code 115 = .ok (.aload_n 0, 1) := by decide +kernel
theorem d_La_lay_116 : decode prog_5_method_5_code 116 = .ok (.getfield 14, 3) := by decide +kernel
theorem d_La_lay_119 : decode prog_5_method_5_code 119 = .ok (.ireturn, 1) := by decide +kernel
set_option maxHeartbeats 4000000 in
set_option maxRecDepth 100000 in
theorem K_La_lay_3 {F : FT} (hD : ∀ σ, va_D F.2.2.1 (GW F.2.1 σ)) (hm : F.2.2.2.2.2.2.2.2.2.2.2.2.2.2.1 = 9) (ok : OkF F prog_5_method_5_code "LastSeen$Land" ({ frames := 1, cells := 0, slots := 0, locals := 22 } : Room)) {Q : Int → SS → Prop} (hQ : RetI F Q) {x1 x2 x3 x4 : Int} {s : SS} (h : B_La_lay_3 Q (fun x1 x2 x3 x4 s => AtS F 3 [(0, .ref (F.2.1.1 1)), (1, vI x1), (2, vI x2), (3, vI x3), (4, vI x4)] [] s) (fun x1 x2 x3 x4 x5 s => AtS F 13 [(0, .ref (F.2.1.1 1)), (1, vI x1), (2, vI x2), (3, vI x3), (4, vI x4), (5, vI x5)] [] s) x1 x2 x3 x4 s) : AtS F 3 [(0, .ref (F.2.1.1 1)), (1, vI x1), (2, vI x2), (3, vI x3), (4, vI x4)] [] s := by
  unfold B_La_lay_3 at h
  refine r_iload ok 4 d_La_lay_3 rfl ?_
  refine r_bipush ok 10 d_La_lay_5 (by decide) ?_
  refine r_icmp_ge ok 105 d_La_lay_7 (by decide) h.1 (by decide) (fun c => ?_) (fun c => ?_)
  · replace h := h.2.1 c
    refine r_aload_n ok 0 d_La_lay_105 rfl rfl ?_
    refine r_dup ok d_La_lay_106 rfl ?_
    refine g_La_roads ok d_La_lay_107 ?_
    refine r_iconst ok 1 d_La_lay_110 rfl ?_
    refine r_iadd ok d_La_lay_111 ?_
    refine p_La_roads ok d_La_lay_112 ?_
    replace h := h _ rfl
    generalize sF s 2 ((s.1 2) + 1) = s1 at h ⊢
    refine r_aload_n ok 0 d_La_lay_115 rfl rfl ?_
    refine g_La_roads ok d_La_lay_116 ?_
    exact hQ _ _ _ _ _ (ok_code ok) d_La_lay_119 h
  · replace h := h.2.2 c
    refine r_iconst ok 0 d_La_lay_10 rfl ?_
    refine r_istore ok [(5, vI 0), (0, .ref (F.2.1.1 1)), (1, vI x1), (2, vI x2), (3, vI x3), (4, vI x4)] d_La_lay_11 hm (by decide) rfl ?_
    exact r_sub [1, 2, 3, 4, 5, 0] rfl h
set_option maxHeartbeats 4000000 in
set_option maxRecDepth 100000 in
theorem K_La_lay_13 {F : FT} (hD : ∀ σ, va_D F.2.2.1 (GW F.2.1 σ)) (hm : F.2.2.2.2.2.2.2.2.2.2.2.2.2.2.1 = 9) (ok : OkF F prog_5_method_5_code "LastSeen$Land" ({ frames := 1, cells := 0, slots := 0, locals := 22 } : Room)) {Q : Int → SS → Prop} (hQ : RetI F Q) {x1 x2 x3 x4 x5 : Int} {s : SS} (h : B_La_lay_13 Q (fun x1 x2 x3 x4 s => AtS F 3 [(0, .ref (F.2.1.1 1)), (1, vI x1), (2, vI x2), (3, vI x3), (4, vI x4)] [] s) (fun x1 x2 x3 x4 x5 s => AtS F 13 [(0, .ref (F.2.1.1 1)), (1, vI x1), (2, vI x2), (3, vI x3), (4, vI x4), (5, vI x5)] [] s) x1 x2 x3 x4 x5 s) : AtS F 13 [(0, .ref (F.2.1.1 1)), (1, vI x1), (2, vI x2), (3, vI x3), (4, vI x4), (5, vI x5)] [] s := by
  unfold B_La_lay_13 at h
  refine r_iload ok 5 d_La_lay_13 rfl ?_
  refine r_bipush ok 10 d_La_lay_15 (by decide) ?_
  refine r_icmp_ge ok 99 d_La_lay_17 (by decide) h.1 (by decide) (fun c => ?_) (fun c => ?_)
  · replace h := h.2.1 c
    refine r_iinc ok 4 (x4 + 1) [(4, vI (x4 + 1)), (0, .ref (F.2.1.1 1)), (1, vI x1), (2, vI x2), (3, vI x3), (5, vI x5)] d_La_lay_99 rfl rfl hm (by decide) rfl ?_
    refine r_goto ok 3 d_La_lay_102 (by decide) ?_
    exact r_sub [1, 2, 3, 4, 0] rfl h
  · replace h := h.2.2 c
    refine r_aload_n ok 0 d_La_lay_20 rfl rfl ?_
    refine r_iload ok 4 d_La_lay_21 rfl ?_
    refine r_iload_n ok 1 d_La_lay_23 rfl rfl ?_
    refine r_callVi (As := [vI x4, vI x1]) (rest := []) ok 1 rfl rfl rfl wl_La_18 wi_y_La_distance ws_y_La_distance wn_La wc_y_La_distance (by decide) (by decide) hh_La_distance (Nat.le_of_ble_eq_true rfl) rfl d_La_lay_24 (L_La_distance F.1 F.2.1 F.2.2.1 hD h) (fun r3 s2 h => ?_)
    refine r_iload_n ok 3 d_La_lay_27 rfl rfl ?_
    refine r_iadd ok d_La_lay_28 ?_
    refine r_aload_n ok 0 d_La_lay_29 rfl rfl ?_
    refine r_iload_n ok 2 d_La_lay_30 rfl rfl ?_
    refine r_iload ok 5 d_La_lay_31 rfl ?_
    refine r_callVi (As := [vI x2, vI x5]) (rest := [vI (r3 + x3)]) ok 1 rfl rfl rfl wl_La_18 wi_y_La_distance ws_y_La_distance wn_La wc_y_La_distance (by decide) (by decide) hh_La_distance (Nat.le_of_ble_eq_true rfl) rfl d_La_lay_33 (L_La_distance F.1 F.2.1 F.2.2.1 hD h) (fun r5 s4 h => ?_)
    refine r_iadd ok d_La_lay_36 ?_
    refine r_istore ok [(6, vI ((r3 + x3) + r5)), (0, .ref (F.2.1.1 1)), (1, vI x1), (2, vI x2), (3, vI x3), (4, vI x4), (5, vI x5)] d_La_lay_37 hm (by decide) rfl ?_
    refine r_aload_n ok 1 d_La_lay_39 rfl rfl ?_
    refine r_iload ok 5 d_La_lay_40 rfl ?_
    refine r_iload_n ok 3 d_La_lay_42 rfl rfl ?_
    refine r_callVi (As := [vI x4, vI x2]) (rest := []) ok 1 rfl rfl rfl wl_La_18 wi_y_La_distance ws_y_La_distance wn_La wc_y_La_distance (by decide) (by decide) hh_La_distance (Nat.le_of_ble_eq_true rfl) rfl d_La_lay_43 (L_La_distance F.1 F.2.1 F.2.2.1 hD h) (fun r7 s6 h => ?_)
    refine r_iload_n ok 4 d_La_lay_46 rfl rfl ?_
    refine r_iadd ok d_La_lay_47 ?_
    refine r_aload_n ok 1 d_La_lay_48 rfl rfl ?_
    refine r_iload_n ok 2 d_La_lay_49 rfl rfl ?_
    refine r_iload ok 6 d_La_lay_50 rfl ?_
    refine r_callVi (As := [vI x1, vI x5]) (rest := [vI (r7 + x3)]) ok 1 rfl rfl rfl wl_La_18 wi_y_La_distance ws_y_La_distance wn_La wc_y_La_distance (by decide) (by decide) hh_La_distance (Nat.le_of_ble_eq_true rfl) rfl d_La_lay_52 (L_La_distance F.1 F.2.1 F.2.2.1 hD h) (fun r9 s8 h => ?_)
    refine r_iadd ok d_La_lay_55 ?_
    refine r_istore ok [(7, vI ((r7 + x3) + r9)), (6, vI ((r3 + x3) + r5)), (0, .ref (F.2.1.1 1)), (1, vI x1), (2, vI x2), (3, vI x3), (4, vI x4), (5, vI x5)] d_La_lay_56 hm (by decide) rfl ?_
    refine r_aload_n ok 2 d_La_lay_58 rfl rfl ?_
    refine r_iload ok 6 d_La_lay_59 rfl ?_
    refine r_iload ok 7 d_La_lay_61 rfl ?_
    refine r_callVi (As := [vI x4, vI x5]) (rest := []) ok 1 rfl rfl rfl wl_La_18 wi_y_La_distance ws_y_La_distance wn_La wc_y_La_distance (by decide) (by decide) hh_La_distance (Nat.le_of_ble_eq_true rfl) rfl d_La_lay_63 (L_La_distance F.1 F.2.1 F.2.2.1 hD h) (fun r11 s10 h => ?_)
    refine r_iload ok 1 d_La_lay_66 rfl ?_
    refine r_iload ok 0 d_La_lay_68 rfl ?_
    refine r_min ok wl_La_22 (by decide) (Nat.le_of_ble_eq_true rfl) d_La_lay_70 h.1 h.2.1 ?_
    replace h := h.2.2
    refine r_min ok wl_La_22 (by decide) (Nat.le_of_ble_eq_true rfl) d_La_lay_73 h.1 h.2.1 ?_
    replace h := h.2.2
    refine r_istore ok [(8, vI (min r11 (min ((r3 + x3) + r5) ((r7 + x3) + r9)))), (7, vI ((r7 + x3) + r9)), (6, vI ((r3 + x3) + r5)), (0, .ref (F.2.1.1 1)), (1, vI x1), (2, vI x2), (3, vI x3), (4, vI x4), (5, vI x5)] d_La_lay_76 hm (by decide) rfl ?_
    refine r_aload_n ok 3 d_La_lay_78 rfl rfl ?_
    refine g_La_watches ok d_La_lay_79 ?_
    refine r_iload ok 7 d_La_lay_82 rfl ?_
    refine r_bipush ok 10 d_La_lay_84 (by decide) ?_
    refine r_imul ok d_La_lay_86 ?_
    refine r_iload ok 8 d_La_lay_87 rfl ?_
    refine r_iadd ok d_La_lay_89 ?_
    refine r_iload ok 0 d_La_lay_90 rfl ?_
    refine r_iast ok 4 d_La_lay_92 (by decide) rfl h.1 ?_
    replace h := h.2 _ rfl
    generalize sA s10 4 ((x4 * 10) + x5) (min r11 (min ((r3 + x3) + r5) ((r7 + x3) + r9))) = s12 at h ⊢
    refine r_iinc ok 8 (x5 + 1) [(5, vI (x5 + 1)), (8, vI (min r11 (min ((r3 + x3) + r5) ((r7 + x3) + r9)))), (7, vI ((r7 + x3) + r9)), (6, vI ((r3 + x3) + r5)), (0, .ref (F.2.1.1 1)), (1, vI x1), (2, vI x2), (3, vI x3), (4, vI x4)] d_La_lay_93 rfl rfl hm (by decide) rfl ?_
    refine r_goto ok 13 d_La_lay_96 (by decide) ?_
    exact r_sub [4, 5, 6, 7, 8, 0] rfl h
set_option maxHeartbeats 4000000 in
set_option maxRecDepth 100000 in
theorem K_La_lay_e {F : FT} (hD : ∀ σ, va_D F.2.2.1 (GW F.2.1 σ)) (hm : F.2.2.2.2.2.2.2.2.2.2.2.2.2.2.1 = 9) (ok : OkF F prog_5_method_5_code "LastSeen$Land" ({ frames := 1, cells := 0, slots := 0, locals := 22 } : Room)) {Q : Int → SS → Prop} (hQ : RetI F Q) {x1 x2 x3 : Int} {s : SS} (h : B_La_lay_e Q (fun x1 x2 x3 x4 s => AtS F 3 [(0, .ref (F.2.1.1 1)), (1, vI x1), (2, vI x2), (3, vI x3), (4, vI x4)] [] s) (fun x1 x2 x3 x4 x5 s => AtS F 13 [(0, .ref (F.2.1.1 1)), (1, vI x1), (2, vI x2), (3, vI x3), (4, vI x4), (5, vI x5)] [] s) x1 x2 x3 s) : AtS F 0 [(0, .ref (F.2.1.1 1)), (1, vI x1), (2, vI x2), (3, vI x3)] [] s := by
  unfold B_La_lay_e at h
  refine r_iconst ok 0 d_La_lay_0 rfl ?_
  refine r_istore ok [(4, vI 0), (0, .ref (F.2.1.1 1)), (1, vI x1), (2, vI x2), (3, vI x3)] d_La_lay_1 hm (by decide) rfl ?_
  exact r_sub [1, 2, 3, 4, 0] rfl h
theorem L_La_lay (l : Launch) (G : GE) (A : Nat → Prop) (hD : ∀ σ, va_D A (GW G σ)) {x1 x2 x3 : Int} {s : SS} {Q : Int → SS → Prop} (h : Sp_La_lay x1 x2 x3 s Q) : Met l y_La_lay (Cond.code y_La_lay prog_5_method_5_code 9 (some .int) :: lw_ok) ({ frames := 1, cells := 0, slots := 0, locals := 22 } : Room) (va_Pc [.ref (G.1 1), vI x1, vI x2, vI x3] (gB G s)) (va_Qi (fun (r : Int32) (s2 : SS) => ∃ x : Int, r = iI x ∧ Q x s2) (fun s2 t => gB G s2 t) A) 0 0 A := by
  refine met_i hD (by decide) ⟨rfl, rfl⟩ (Nat.le_of_ble_eq_true rfl) (lv := [(0, .ref (G.1 1)), (1, vI x1), (2, vI x2), (3, vI x3)]) rfl (fun F h1 h2 h3 hm ok hQ => ?_)
  subst h1 h2 h3
  have hDF := hD
  exact K_La_lay_e hDF hm ok hQ (h _ _ (fun _ _ _ _ _ hb => K_La_lay_3 hDF hm ok hQ hb) (fun _ _ _ _ _ _ hb => K_La_lay_13 hDF hm ok hQ hb))
theorem d_LS_road_0 : decode prog_1_method_2_code 0 = .ok (.iload_n 1, 1) := by decide +kernel
theorem d_LS_road_1 : decode prog_1_method_2_code 1 = .ok (.invokestatic 87, 3) := by decide +kernel
theorem d_LS_road_4 : decode prog_1_method_2_code 4 = .ok (.ifCond .eq 10, 3) := by decide +kernel
theorem d_LS_road_7 : decode prog_1_method_2_code 7 = .ok (.iload_n 2, 1) := by decide +kernel
theorem d_LS_road_8 : decode prog_1_method_2_code 8 = .ok (.invokestatic 87, 3) := by decide +kernel
theorem d_LS_road_11 : decode prog_1_method_2_code 11 = .ok (.ifCond .ne 5, 3) := by decide +kernel
theorem d_LS_road_14 : decode prog_1_method_2_code 14 = .ok (.iconst (-1), 1) := by decide +kernel
theorem d_LS_road_15 : decode prog_1_method_2_code 15 = .ok (.ireturn, 1) := by decide +kernel
theorem d_LS_road_16 : decode prog_1_method_2_code 16 = .ok (.iload_n 3, 1) := by decide +kernel
theorem d_LS_road_17 : decode prog_1_method_2_code 17 = .ok (.iconst 1, 1) := by decide +kernel
theorem d_LS_road_18 : decode prog_1_method_2_code 18 = .ok (.if_icmp .lt 14, 3) := by decide +kernel
theorem d_LS_road_21 : decode prog_1_method_2_code 21 = .ok (.iload_n 3, 1) := by decide +kernel
theorem d_LS_road_22 : decode prog_1_method_2_code 22 = .ok (.bipush 30, 2) := by decide +kernel
theorem d_LS_road_24 : decode prog_1_method_2_code 24 = .ok (.if_icmp .gt 8, 3) := by decide +kernel
theorem d_LS_road_27 : decode prog_1_method_2_code 27 = .ok (.iload_n 1, 1) := by decide +kernel
theorem d_LS_road_28 : decode prog_1_method_2_code 28 = .ok (.iload_n 2, 1) := by decide +kernel
theorem d_LS_road_29 : decode prog_1_method_2_code 29 = .ok (.if_icmp .ne 6, 3) := by decide +kernel
theorem d_LS_road_32 : decode prog_1_method_2_code 32 = .ok (.bipush (-2), 2) := by decide +kernel
theorem d_LS_road_34 : decode prog_1_method_2_code 34 = .ok (.ireturn, 1) := by decide +kernel
theorem d_LS_road_35 : decode prog_1_method_2_code 35 = .ok (.aload_n 0, 1) := by decide +kernel
theorem d_LS_road_36 : decode prog_1_method_2_code 36 = .ok (.getfield 10, 3) := by decide +kernel
theorem d_LS_road_39 : decode prog_1_method_2_code 39 = .ok (.invokevirtual 91, 3) := by decide +kernel
theorem d_LS_road_42 : decode prog_1_method_2_code 42 = .ok (.ifCond .eq 6, 3) := by decide +kernel
theorem d_LS_road_45 : decode prog_1_method_2_code 45 = .ok (.bipush (-4), 2) := by decide +kernel
theorem d_LS_road_47 : decode prog_1_method_2_code 47 = .ok (.ireturn, 1) := by decide +kernel
theorem d_LS_road_48 : decode prog_1_method_2_code 48 = .ok (.aload_n 0, 1) := by decide +kernel
theorem d_LS_road_49 : decode prog_1_method_2_code 49 = .ok (.getfield 10, 3) := by decide +kernel
theorem d_LS_road_52 : decode prog_1_method_2_code 52 = .ok (.iload_n 1, 1) := by decide +kernel
theorem d_LS_road_53 : decode prog_1_method_2_code 53 = .ok (.iload_n 2, 1) := by decide +kernel
theorem d_LS_road_54 : decode prog_1_method_2_code 54 = .ok (.iload_n 3, 1) := by decide +kernel
theorem d_LS_road_55 : decode prog_1_method_2_code 55 = .ok (.invokevirtual 95, 3) := by decide +kernel
theorem d_LS_road_58 : decode prog_1_method_2_code 58 = .ok (.ireturn, 1) := by decide +kernel
set_option maxHeartbeats 4000000 in
set_option maxRecDepth 100000 in
theorem K_LS_road_e {F : FT} (hD : ∀ σ, va_D F.2.2.1 (GW F.2.1 σ)) (hm : F.2.2.2.2.2.2.2.2.2.2.2.2.2.2.1 = 4) (ok : OkF F prog_1_method_2_code "LastSeen" ({ frames := 2, cells := 0, slots := 0, locals := 50 } : Room)) {Q : Int → SS → Prop} (hQ : RetI F Q) {x1 x2 x3 : Int} {s : SS} (h : Sp_LS_road x1 x2 x3 s Q) : AtS F 0 [(0, .ref (F.2.1.1 0)), (1, vI x1), (2, vI x2), (3, vI x3)] [] s := by
  unfold Sp_LS_road at h
  refine r_iload_n ok 1 d_LS_road_0 rfl rfl ?_
  refine r_callSi (As := [vI x1]) (rest := []) ok wl_LS_87 wt_y_La_isPlace wn_La wc_y_La_isPlace (by decide) (by decide) hh_La_isPlace (Nat.le_of_ble_eq_true rfl) rfl d_LS_road_1 (L_La_isPlace F.1 F.2.1 F.2.2.1 hD h) (fun r2 s1 h => ?_)
  refine r_if_eq ok 14 d_LS_road_4 (by decide) h.1 (fun c => ?_) (fun c => ?_)
  · replace h := h.2.1 c
    refine r_iconst ok (-1) d_LS_road_14 rfl ?_
    exact hQ _ _ _ _ _ (ok_code ok) d_LS_road_15 h
  · replace h := h.2.2 c
    refine r_iload_n ok 2 d_LS_road_7 rfl rfl ?_
    refine r_callSi (As := [vI x2]) (rest := []) ok wl_LS_87 wt_y_La_isPlace wn_La wc_y_La_isPlace (by decide) (by decide) hh_La_isPlace (Nat.le_of_ble_eq_true rfl) rfl d_LS_road_8 (L_La_isPlace F.1 F.2.1 F.2.2.1 hD h) (fun r4 s3 h => ?_)
    refine r_if_ne ok 16 d_LS_road_11 (by decide) h.1 (fun c => ?_) (fun c => ?_)
    · replace h := h.2.1 c
      refine r_iload_n ok 3 d_LS_road_16 rfl rfl ?_
      refine r_iconst ok 1 d_LS_road_17 rfl ?_
      refine r_icmp_lt ok 32 d_LS_road_18 (by decide) h.1 (by decide) (fun c => ?_) (fun c => ?_)
      · replace h := h.2.1 c
        refine r_bipush ok (-2) d_LS_road_32 (by decide) ?_
        exact hQ _ _ _ _ _ (ok_code ok) d_LS_road_34 h
      · replace h := h.2.2 c
        refine r_iload_n ok 3 d_LS_road_21 rfl rfl ?_
        refine r_bipush ok 30 d_LS_road_22 (by decide) ?_
        refine r_icmp_gt ok 32 d_LS_road_24 (by decide) h.1 (by decide) (fun c => ?_) (fun c => ?_)
        · replace h := h.2.1 c
          refine r_bipush ok (-2) d_LS_road_32 (by decide) ?_
          exact hQ _ _ _ _ _ (ok_code ok) d_LS_road_34 h
        · replace h := h.2.2 c
          refine r_iload_n ok 1 d_LS_road_27 rfl rfl ?_
          refine r_iload_n ok 2 d_LS_road_28 rfl rfl ?_
          refine r_icmp_ne ok 35 d_LS_road_29 (by decide) h.1 h.2.1 (fun c => ?_) (fun c => ?_)
          · replace h := h.2.2.1 c
            refine r_aload_n ok 0 d_LS_road_35 rfl rfl ?_
            refine g_LS_land ok d_LS_road_36 ?_
            refine r_callVi (As := []) (rest := []) ok 1 rfl rfl rfl wl_LS_91 wi_y_La_isFull ws_y_La_isFull wn_La wc_y_La_isFull (by decide) (by decide) hh_La_isFull (Nat.le_of_ble_eq_true rfl) rfl d_LS_road_39 (L_La_isFull F.1 F.2.1 F.2.2.1 hD h) (fun r6 s5 h => ?_)
            refine r_if_eq ok 48 d_LS_road_42 (by decide) h.1 (fun c => ?_) (fun c => ?_)
            · replace h := h.2.1 c
              refine r_aload_n ok 0 d_LS_road_48 rfl rfl ?_
              refine g_LS_land ok d_LS_road_49 ?_
              refine r_iload_n ok 1 d_LS_road_52 rfl rfl ?_
              refine r_iload_n ok 2 d_LS_road_53 rfl rfl ?_
              refine r_iload_n ok 3 d_LS_road_54 rfl rfl ?_
              refine r_callVi (As := [vI x1, vI x2, vI x3]) (rest := []) ok 1 rfl rfl rfl wl_LS_95 wi_y_La_lay ws_y_La_lay wn_La wc_y_La_lay (by decide) (by decide) hh_La_lay (Nat.le_of_ble_eq_true rfl) rfl d_LS_road_55 (L_La_lay F.1 F.2.1 F.2.2.1 hD h) (fun r8 s7 h => ?_)
              exact hQ _ _ _ _ _ (ok_code ok) d_LS_road_58 h
            · replace h := h.2.2 c
              refine r_bipush ok (-4) d_LS_road_45 (by decide) ?_
              exact hQ _ _ _ _ _ (ok_code ok) d_LS_road_47 h
          · replace h := h.2.2.2 c
            refine r_bipush ok (-2) d_LS_road_32 (by decide) ?_
            exact hQ _ _ _ _ _ (ok_code ok) d_LS_road_34 h
    · replace h := h.2.2 c
      refine r_iconst ok (-1) d_LS_road_14 rfl ?_
      exact hQ _ _ _ _ _ (ok_code ok) d_LS_road_15 h
theorem L_LS_road (l : Launch) (G : GE) (A : Nat → Prop) (hD : ∀ σ, va_D A (GW G σ)) {x1 x2 x3 : Int} {s : SS} {Q : Int → SS → Prop} (h : Sp_LS_road x1 x2 x3 s Q) : Met l y_LS_road (Cond.code y_LS_road prog_1_method_2_code 4 (some .int) :: lw_ok) ({ frames := 2, cells := 0, slots := 0, locals := 50 } : Room) (va_Pc [.ref (G.1 0), vI x1, vI x2, vI x3] (gB G s)) (va_Qi (fun (r : Int32) (s2 : SS) => ∃ x : Int, r = iI x ∧ Q x s2) (fun s2 t => gB G s2 t) A) 0 0 A := by
  refine met_i hD (by decide) ⟨rfl, rfl⟩ (Nat.le_of_ble_eq_true rfl) (lv := [(0, .ref (G.1 0)), (1, vI x1), (2, vI x2), (3, vI x3)]) rfl (fun F h1 h2 h3 hm ok hQ => ?_)
  subst h1 h2 h3
  have hDF := hD
  exact K_LS_road_e hDF hm ok hQ h
theorem d_LS_far_0 : decode prog_1_method_3_code 0 = .ok (.iload_n 1, 1) := by decide +kernel
theorem d_LS_far_1 : decode prog_1_method_3_code 1 = .ok (.invokestatic 87, 3) := by decide +kernel
theorem d_LS_far_4 : decode prog_1_method_3_code 4 = .ok (.ifCond .eq 10, 3) := by decide +kernel
theorem d_LS_far_7 : decode prog_1_method_3_code 7 = .ok (.iload_n 2, 1) := by decide +kernel
theorem d_LS_far_8 : decode prog_1_method_3_code 8 = .ok (.invokestatic 87, 3) := by decide +kernel
theorem d_LS_far_11 : decode prog_1_method_3_code 11 = .ok (.ifCond .ne 5, 3) := by decide +kernel
theorem d_LS_far_14 : decode prog_1_method_3_code 14 = .ok (.iconst (-1), 1) := by decide +kernel
theorem d_LS_far_15 : decode prog_1_method_3_code 15 = .ok (.ireturn, 1) := by decide +kernel
theorem d_LS_far_16 : decode prog_1_method_3_code 16 = .ok (.aload_n 0, 1) := by decide +kernel
theorem d_LS_far_17 : decode prog_1_method_3_code 17 = .ok (.getfield 10, 3) := by decide +kernel
theorem d_LS_far_20 : decode prog_1_method_3_code 20 = .ok (.iload_n 1, 1) := by decide +kernel
theorem d_LS_far_21 : decode prog_1_method_3_code 21 = .ok (.iload_n 2, 1) := by decide +kernel
theorem d_LS_far_22 : decode prog_1_method_3_code 22 = .ok (.invokevirtual 99, 3) := by decide +kernel
theorem d_LS_far_25 : decode prog_1_method_3_code 25 = .ok (.istore_n 3, 1) := by decide +kernel
theorem d_LS_far_26 : decode prog_1_method_3_code 26 = .ok (.iload_n 3, 1) := by decide +kernel
theorem d_LS_far_27 : decode prog_1_method_3_code 27 = .ok (.ldc 103, 2) := by decide +kernel
theorem d_LS_far_29 : decode prog_1_method_3_code 29 = .ok (.if_icmp .lt 8, 3) := by decide +kernel
theorem d_LS_far_32 : decode prog_1_method_3_code 32 = .ok (.bipush (-5), 2) := by decide +kernel
theorem d_LS_far_34 : decode prog_1_method_3_code 34 = .ok (.goto 4, 3) := by decide +kernel
theorem d_LS_far_37 : decode prog_1_method_3_code 37 = .ok (.iload_n 3, 1) := by decide +kernel
theorem d_LS_far_38 : decode prog_1_method_3_code 38 = .ok (.ireturn, 1) := by decide +kernel
set_option maxHeartbeats 4000000 in
set_option maxRecDepth 100000 in
theorem K_LS_far_e {F : FT} (hD : ∀ σ, va_D F.2.2.1 (GW F.2.1 σ)) (hm : F.2.2.2.2.2.2.2.2.2.2.2.2.2.2.1 = 4) (ok : OkF F prog_1_method_3_code "LastSeen" ({ frames := 1, cells := 0, slots := 0, locals := 22 } : Room)) {Q : Int → SS → Prop} (hQ : RetI F Q) {x1 x2 : Int} {s : SS} (h : Sp_LS_far x1 x2 s Q) : AtS F 0 [(0, .ref (F.2.1.1 0)), (1, vI x1), (2, vI x2)] [] s := by
  unfold Sp_LS_far at h
  refine r_iload_n ok 1 d_LS_far_0 rfl rfl ?_
  refine r_callSi (As := [vI x1]) (rest := []) ok wl_LS_87 wt_y_La_isPlace wn_La wc_y_La_isPlace (by decide) (by decide) hh_La_isPlace (Nat.le_of_ble_eq_true rfl) rfl d_LS_far_1 (L_La_isPlace F.1 F.2.1 F.2.2.1 hD h) (fun r2 s1 h => ?_)
  refine r_if_eq ok 14 d_LS_far_4 (by decide) h.1 (fun c => ?_) (fun c => ?_)
  · replace h := h.2.1 c
    refine r_iconst ok (-1) d_LS_far_14 rfl ?_
    exact hQ _ _ _ _ _ (ok_code ok) d_LS_far_15 h
  · replace h := h.2.2 c
    refine r_iload_n ok 2 d_LS_far_7 rfl rfl ?_
    refine r_callSi (As := [vI x2]) (rest := []) ok wl_LS_87 wt_y_La_isPlace wn_La wc_y_La_isPlace (by decide) (by decide) hh_La_isPlace (Nat.le_of_ble_eq_true rfl) rfl d_LS_far_8 (L_La_isPlace F.1 F.2.1 F.2.2.1 hD h) (fun r4 s3 h => ?_)
    refine r_if_ne ok 16 d_LS_far_11 (by decide) h.1 (fun c => ?_) (fun c => ?_)
    · replace h := h.2.1 c
      refine r_aload_n ok 0 d_LS_far_16 rfl rfl ?_
      refine g_LS_land ok d_LS_far_17 ?_
      refine r_iload_n ok 1 d_LS_far_20 rfl rfl ?_
      refine r_iload_n ok 2 d_LS_far_21 rfl rfl ?_
      refine r_callVi (As := [vI x1, vI x2]) (rest := []) ok 1 rfl rfl rfl wl_LS_99 wi_y_La_distance ws_y_La_distance wn_La wc_y_La_distance (by decide) (by decide) hh_La_distance (Nat.le_of_ble_eq_true rfl) rfl d_LS_far_22 (L_La_distance F.1 F.2.1 F.2.2.1 hD h) (fun r6 s5 h => ?_)
      refine r_istore_n ok [(3, vI r6), (0, .ref (F.2.1.1 0)), (1, vI x1), (2, vI x2)] d_LS_far_25 rfl hm (by decide) rfl ?_
      refine r_iload_n ok 0 d_LS_far_26 rfl rfl ?_
      refine r_ldc ok 1000000 wk_LS_103 d_LS_far_27 (by decide) ?_
      refine r_icmp_lt ok 37 d_LS_far_29 (by decide) h.1 (by decide) (fun c => ?_) (fun c => ?_)
      · replace h := h.2.1 c
        refine r_iload_n ok 0 d_LS_far_37 rfl rfl ?_
        exact hQ _ _ _ _ _ (ok_code ok) d_LS_far_38 h
      · replace h := h.2.2 c
        refine r_bipush ok (-5) d_LS_far_32 (by decide) ?_
        refine r_goto ok 38 d_LS_far_34 (by decide) ?_
        exact hQ _ _ _ _ _ (ok_code ok) d_LS_far_38 h
    · replace h := h.2.2 c
      refine r_iconst ok (-1) d_LS_far_14 rfl ?_
      exact hQ _ _ _ _ _ (ok_code ok) d_LS_far_15 h
theorem L_LS_far (l : Launch) (G : GE) (A : Nat → Prop) (hD : ∀ σ, va_D A (GW G σ)) {x1 x2 : Int} {s : SS} {Q : Int → SS → Prop} (h : Sp_LS_far x1 x2 s Q) : Met l y_LS_far (Cond.code y_LS_far prog_1_method_3_code 4 (some .int) :: lw_ok) ({ frames := 1, cells := 0, slots := 0, locals := 22 } : Room) (va_Pc [.ref (G.1 0), vI x1, vI x2] (gB G s)) (va_Qi (fun (r : Int32) (s2 : SS) => ∃ x : Int, r = iI x ∧ Q x s2) (fun s2 t => gB G s2 t) A) 0 0 A := by
  refine met_i hD (by decide) ⟨rfl, rfl⟩ (Nat.le_of_ble_eq_true rfl) (lv := [(0, .ref (G.1 0)), (1, vI x1), (2, vI x2)]) rfl (fun F h1 h2 h3 hm ok hQ => ?_)
  subst h1 h2 h3
  have hDF := hD
  exact K_LS_far_e hDF hm ok hQ h
theorem d_Ta_hasRoom_0 : decode prog_8_method_3_code 0 = .ok (.aload_n 0, 1) := by decide +kernel
theorem d_Ta_hasRoom_1 : decode prog_8_method_3_code 1 = .ok (.getfield 13, 3) := by decide +kernel
theorem d_Ta_hasRoom_4 : decode prog_8_method_3_code 4 = .ok (.iload_n 1, 1) := by decide +kernel
theorem d_Ta_hasRoom_5 : decode prog_8_method_3_code 5 = .ok (.iadd, 1) := by decide +kernel
theorem d_Ta_hasRoom_6 : decode prog_8_method_3_code 6 = .ok (.sipush 200, 3) := by decide +kernel
theorem d_Ta_hasRoom_9 : decode prog_8_method_3_code 9 = .ok (.if_icmp .gt 7, 3) := by decide +kernel
theorem d_Ta_hasRoom_12 : decode prog_8_method_3_code 12 = .ok (.iconst 1, 1) := by decide +kernel
theorem d_Ta_hasRoom_13 : decode prog_8_method_3_code 13 = .ok (.goto 4, 3) := by decide +kernel
theorem d_Ta_hasRoom_16 : decode prog_8_method_3_code 16 = .ok (.iconst 0, 1) := by decide +kernel
theorem d_Ta_hasRoom_17 : decode prog_8_method_3_code 17 = .ok (.ireturn, 1) := by decide +kernel
set_option maxHeartbeats 4000000 in
set_option maxRecDepth 100000 in
theorem K_Ta_hasRoom_e {F : FT} (hD : ∀ σ, va_D F.2.2.1 (GW F.2.1 σ)) (hm : F.2.2.2.2.2.2.2.2.2.2.2.2.2.2.1 = 2) (ok : OkF F prog_8_method_3_code "LastSeen$Tape" ({ frames := 0, cells := 0, slots := 0, locals := 0 } : Room)) {Q : Int → SS → Prop} (hQ : RetZ F Q) {x1 : Int} {s : SS} (h : Sp_Ta_hasRoom x1 s Q) : AtS F 0 [(0, .ref (F.2.1.1 2)), (1, vI x1)] [] s := by
  unfold Sp_Ta_hasRoom at h
  refine r_aload_n ok 0 d_Ta_hasRoom_0 rfl rfl ?_
  refine g_Ta_size ok d_Ta_hasRoom_1 ?_
  refine r_iload_n ok 1 d_Ta_hasRoom_4 rfl rfl ?_
  refine r_iadd ok d_Ta_hasRoom_5 ?_
  refine r_sipush ok 200 d_Ta_hasRoom_6 (by decide) ?_
  refine r_icmp_gt ok 16 d_Ta_hasRoom_9 (by decide) h.1 (by decide) (fun c => ?_) (fun c => ?_)
  · replace h := h.2.1 c
    refine r_iconst ok 0 d_Ta_hasRoom_16 rfl ?_
    exact hQ _ _ _ _ _ (ok_code ok) d_Ta_hasRoom_17 (by decide) h
  · replace h := h.2.2 c
    refine r_iconst ok 1 d_Ta_hasRoom_12 rfl ?_
    refine r_goto ok 17 d_Ta_hasRoom_13 (by decide) ?_
    exact hQ _ _ _ _ _ (ok_code ok) d_Ta_hasRoom_17 (by decide) h
theorem L_Ta_hasRoom (l : Launch) (G : GE) (A : Nat → Prop) (hD : ∀ σ, va_D A (GW G σ)) {x1 : Int} {s : SS} {Q : Int → SS → Prop} (h : Sp_Ta_hasRoom x1 s Q) : Met l y_Ta_hasRoom (Cond.code y_Ta_hasRoom prog_8_method_3_code 2 (some .boolean) :: lw_ok) ({ frames := 0, cells := 0, slots := 0, locals := 0 } : Room) (va_Pc [.ref (G.1 2), vI x1] (gB G s)) (va_Qi (fun (r : Int32) (s2 : SS) => ∃ x : Int, r = iI x ∧ Q x s2) (fun s2 t => gB G s2 t) A) 0 0 A := by
  refine met_z hD (by decide) ⟨rfl, rfl⟩ (Nat.le_of_ble_eq_true rfl) (lv := [(0, .ref (G.1 2)), (1, vI x1)]) rfl (fun F h1 h2 h3 hm ok hQ => ?_)
  subst h1 h2 h3
  have hDF := hD
  exact K_Ta_hasRoom_e hDF hm ok hQ h
theorem d_Ta_append_0 : decode prog_8_method_5_code 0 = .ok (.iload_n 3, 1) := by decide +kernel
theorem d_Ta_append_1 : decode prog_8_method_5_code 1 = .ok (.iconst 1, 1) := by decide +kernel
theorem d_Ta_append_2 : decode prog_8_method_5_code 2 = .ok (.isub, 1) := by decide +kernel
theorem d_Ta_append_3 : decode prog_8_method_5_code 3 = .ok (.istore 4, 2) := by decide +kernel
theorem d_Ta_append_5 : decode prog_8_method_5_code 5 = .ok (.iload 4, 2) := by decide +kernel
theorem d_Ta_append_7 : decode prog_8_method_5_code 7 = .ok (.ifCond .lt 37, 3) := by decide +kernel
theorem d_Ta_append_10 : decode prog_8_method_5_code 10 = .ok (.aload_n 0, 1) := by decide +kernel
theorem d_Ta_append_11 : decode prog_8_method_5_code 11 = .ok (.getfield 9, 3) := by decide +kernel
theorem d_Ta_append_14 : decode prog_8_method_5_code 14 = .ok (.aload_n 0, 1) := by decide +kernel
theorem d_Ta_append_15 : decode prog_8_method_5_code 15 = .ok (.getfield 13, 3) := by decide +kernel
theorem d_Ta_append_18 : decode prog_8_method_5_code 18 = .ok (.lload_n 1, 1) := by decide +kernel
theorem d_Ta_append_19 : decode prog_8_method_5_code 19 = .ok (.bipush 8, 2) := by decide +kernel
theorem d_Ta_append_21 : decode prog_8_method_5_code 21 = .ok (.iload 4, 2) := by decide +kernel
theorem d_Ta_append_23 : decode prog_8_method_5_code 23 = .ok (.imul, 1) := by decide +kernel
theorem d_Ta_append_24 : decode prog_8_method_5_code 24 = .ok (.lshr, 1) := by decide +kernel
theorem d_Ta_append_25 : decode prog_8_method_5_code 25 = .ok (.l2i, 1) := by decide +kernel
theorem d_Ta_append_26 : decode prog_8_method_5_code 26 = .ok (.i2b, 1) := by decide +kernel
theorem d_Ta_append_27 : decode prog_8_method_5_code 27 = .ok (.bastore, 1) := by decide +kernel
theorem d_Ta_append_28 : decode prog_8_method_5_code 28 = .ok (.aload_n 0, 1) := by decide +kernel
theorem d_Ta_append_29 : decode prog_8_method_5_code 29 = .ok (.dup, 1) := by decide +kernel
theorem d_Ta_append_30 : decode prog_8_method_5_code 30 = .ok (.getfield 13, 3) := by decide +kernel
theorem d_Ta_append_33 : decode prog_8_method_5_code 33 = .ok (.iconst 1, 1) := by decide +kernel
theorem d_Ta_append_34 : decode prog_8_method_5_code 34 = .ok (.iadd, 1) := by decide +kernel
theorem d_Ta_append_35 : decode prog_8_method_5_code 35 = .ok (.putfield 13, 3) := by decide +kernel
theorem d_Ta_append_38 : decode prog_8_method_5_code 38 = .ok (.iinc 4 (-1), 3) := by decide +kernel
theorem d_Ta_append_41 : decode prog_8_method_5_code 41 = .ok (.goto (-36), 3) := by decide +kernel
theorem d_Ta_append_44 : decode prog_8_method_5_code 44 = .ok (.aload_n 0, 1) := by decide +kernel
theorem d_Ta_append_45 : decode prog_8_method_5_code 45 = .ok (.getfield 13, 3) := by decide +kernel
theorem d_Ta_append_48 : decode prog_8_method_5_code 48 = .ok (.ireturn, 1) := by decide +kernel
set_option maxHeartbeats 4000000 in
set_option maxRecDepth 100000 in
theorem K_Ta_append_5 {F : FT} (hD : ∀ σ, va_D F.2.2.1 (GW F.2.1 σ)) (hm : F.2.2.2.2.2.2.2.2.2.2.2.2.2.2.1 = 5) (ok : OkF F prog_8_method_5_code "LastSeen$Tape" ({ frames := 0, cells := 0, slots := 0, locals := 0 } : Room)) {Q : Int → SS → Prop} (hQ : RetI F Q) {x1 x4 : Int} {s : SS} (h : B_Ta_append_5 Q (fun x1 x4 s => AtS F 5 [(0, .ref (F.2.1.1 2)), (1, vJ x1), (4, vI x4)] [] s) x1 x4 s) : AtS F 5 [(0, .ref (F.2.1.1 2)), (1, vJ x1), (4, vI x4)] [] s := by
  unfold B_Ta_append_5 at h
  refine r_iload ok 2 d_Ta_append_5 rfl ?_
  refine r_if_lt ok 44 d_Ta_append_7 (by decide) h.1 (fun c => ?_) (fun c => ?_)
  · replace h := h.2.1 c
    refine r_aload_n ok 0 d_Ta_append_44 rfl rfl ?_
    refine g_Ta_size ok d_Ta_append_45 ?_
    exact hQ _ _ _ _ _ (ok_code ok) d_Ta_append_48 h
  · replace h := h.2.2 c
    refine r_aload_n ok 0 d_Ta_append_10 rfl rfl ?_
    refine g_Ta_bytes ok d_Ta_append_11 ?_
    refine r_aload_n ok 0 d_Ta_append_14 rfl rfl ?_
    refine g_Ta_size ok d_Ta_append_15 ?_
    refine r_lload_n ok 1 d_Ta_append_18 rfl rfl ?_
    refine r_bipush ok 8 d_Ta_append_19 (by decide) ?_
    refine r_iload ok 2 d_Ta_append_21 rfl ?_
    refine r_imul ok d_Ta_append_23 ?_
    refine r_lshr ok d_Ta_append_24 ?_
    refine r_l2i ok d_Ta_append_25 ?_
    refine r_i2b ok d_Ta_append_26 ?_
    refine r_bast ok 5 d_Ta_append_27 (by decide) rfl h.1 (i2b_rng _) ?_
    replace h := h.2 _ rfl
    generalize sA s 5 (s.1 3) (i2b (l2i (lsr x1 (8 * x4)))) = s1 at h ⊢
    refine r_aload_n ok 0 d_Ta_append_28 rfl rfl ?_
    refine r_dup ok d_Ta_append_29 rfl ?_
    refine g_Ta_size ok d_Ta_append_30 ?_
    refine r_iconst ok 1 d_Ta_append_33 rfl ?_
    refine r_iadd ok d_Ta_append_34 ?_
    refine p_Ta_size ok d_Ta_append_35 ?_
    replace h := h _ rfl
    generalize sF s1 3 ((s1.1 3) + 1) = s2 at h ⊢
    refine r_iinc ok 2 (x4 + (-1)) [(4, vI (x4 + (-1))), (0, .ref (F.2.1.1 2)), (1, vJ x1)] d_Ta_append_38 rfl rfl hm (by decide) rfl ?_
    refine r_goto ok 5 d_Ta_append_41 (by decide) ?_
    exact r_sub [1, 2, 0] rfl h
set_option maxHeartbeats 4000000 in
set_option maxRecDepth 100000 in
theorem K_Ta_append_e {F : FT} (hD : ∀ σ, va_D F.2.2.1 (GW F.2.1 σ)) (hm : F.2.2.2.2.2.2.2.2.2.2.2.2.2.2.1 = 5) (ok : OkF F prog_8_method_5_code "LastSeen$Tape" ({ frames := 0, cells := 0, slots := 0, locals := 0 } : Room)) {Q : Int → SS → Prop} (hQ : RetI F Q) {x1 x3 : Int} {s : SS} (h : B_Ta_append_e Q (fun x1 x4 s => AtS F 5 [(0, .ref (F.2.1.1 2)), (1, vJ x1), (4, vI x4)] [] s) x1 x3 s) : AtS F 0 [(0, .ref (F.2.1.1 2)), (1, vJ x1), (3, vI x3)] [] s := by
  unfold B_Ta_append_e at h
  refine r_iload_n ok 2 d_Ta_append_0 rfl rfl ?_
  refine r_iconst ok 1 d_Ta_append_1 rfl ?_
  refine r_isub ok d_Ta_append_2 ?_
  refine r_istore ok [(4, vI (x3 - 1)), (0, .ref (F.2.1.1 2)), (1, vJ x1), (3, vI x3)] d_Ta_append_3 hm (by decide) rfl ?_
  exact r_sub [1, 2, 0] rfl h
theorem L_Ta_append (l : Launch) (G : GE) (A : Nat → Prop) (hD : ∀ σ, va_D A (GW G σ)) {x1 x3 : Int} {s : SS} {Q : Int → SS → Prop} (h : Sp_Ta_append x1 x3 s Q) : Met l y_Ta_append (Cond.code y_Ta_append prog_8_method_5_code 5 (some .int) :: lw_ok) ({ frames := 0, cells := 0, slots := 0, locals := 0 } : Room) (va_Pc [.ref (G.1 2), vJ x1, vI x3] (gB G s)) (va_Qi (fun (r : Int32) (s2 : SS) => ∃ x : Int, r = iI x ∧ Q x s2) (fun s2 t => gB G s2 t) A) 0 0 A := by
  refine met_i hD (by decide) ⟨rfl, rfl⟩ (Nat.le_of_ble_eq_true rfl) (lv := [(0, .ref (G.1 2)), (1, vJ x1), (3, vI x3)]) rfl (fun F h1 h2 h3 hm ok hQ => ?_)
  subst h1 h2 h3
  have hDF := hD
  exact K_Ta_append_e hDF hm ok hQ (h _ (fun _ _ _ hb => K_Ta_append_5 hDF hm ok hQ hb))
theorem d_LS_feed_0 : decode prog_1_method_4_code 0 = .ok (.iload_n 3, 1) := by decide +kernel
theorem d_LS_feed_1 : decode prog_1_method_4_code 1 = .ok (.iconst 1, 1) := by decide +kernel
theorem d_LS_feed_2 : decode prog_1_method_4_code 2 = .ok (.if_icmp .lt 9, 3) := by decide +kernel
theorem d_LS_feed_5 : decode prog_1_method_4_code 5 = .ok (.iload_n 3, 1) := by decide +kernel
theorem d_LS_feed_6 : decode prog_1_method_4_code 6 = .ok (.bipush 8, 2) := by decide +kernel
theorem d_LS_feed_8 : decode prog_1_method_4_code 8 = .ok (.if_icmp .le 6, 3) := by decide +kernel
theorem d_LS_feed_11 : decode prog_1_method_4_code 11 = .ok (.bipush (-2), 2) := by decide +kernel
theorem d_LS_feed_13 : decode prog_1_method_4_code 13 = .ok (.ireturn, 1) := by decide +kernel
theorem d_LS_feed_14 : decode prog_1_method_4_code 14 = .ok (.aload_n 0, 1) := by decide +kernel
theorem d_LS_feed_15 : decode prog_1_method_4_code 15 = .ok (.getfield 19, 3) := by decide +kernel
theorem d_LS_feed_18 : decode prog_1_method_4_code 18 = .ok (.iload_n 3, 1) := by decide +kernel
theorem d_LS_feed_19 : decode prog_1_method_4_code 19 = .ok (.invokevirtual 104, 3) := by decide +kernel
theorem d_LS_feed_22 : decode prog_1_method_4_code 22 = .ok (.ifCond .ne 6, 3) := by decide +kernel
theorem d_LS_feed_25 : decode prog_1_method_4_code 25 = .ok (.bipush (-4), 2) := by decide +kernel
theorem d_LS_feed_27 : decode prog_1_method_4_code 27 = .ok (.ireturn, 1) := by decide +kernel
theorem d_LS_feed_28 : decode prog_1_method_4_code 28 = .ok (.aload_n 0, 1) := by decide +kernel
theorem d_LS_feed_29 : decode prog_1_method_4_code 29 = .ok (.getfield 19, 3) := by decide +kernel
theorem d_LS_feed_32 : decode prog_1_method_4_code 32 = .ok (.lload_n 1, 1) := by decide +kernel
theorem d_LS_feed_33 : decode prog_1_method_4_code 33 = .ok (.iload_n 3, 1) := by decide +kernel
theorem d_LS_feed_34 : decode prog_1_method_4_code 34 = .ok (.invokevirtual 107, 3) := by decide +kernel
theorem d_LS_feed_37 : decode prog_1_method_4_code 37 = .ok (.ireturn, 1) := by decide +kernel
set_option maxHeartbeats 4000000 in
set_option maxRecDepth 100000 in
theorem K_LS_feed_e {F : FT} (hD : ∀ σ, va_D F.2.2.1 (GW F.2.1 σ)) (hm : F.2.2.2.2.2.2.2.2.2.2.2.2.2.2.1 = 4) (ok : OkF F prog_1_method_4_code "LastSeen" ({ frames := 1, cells := 0, slots := 0, locals := 24 } : Room)) {Q : Int → SS → Prop} (hQ : RetI F Q) {x1 x3 : Int} {s : SS} (h : Sp_LS_feed x1 x3 s Q) : AtS F 0 [(0, .ref (F.2.1.1 0)), (1, vJ x1), (3, vI x3)] [] s := by
  unfold Sp_LS_feed at h
  refine r_iload_n ok 2 d_LS_feed_0 rfl rfl ?_
  refine r_iconst ok 1 d_LS_feed_1 rfl ?_
  refine r_icmp_lt ok 11 d_LS_feed_2 (by decide) h.1 (by decide) (fun c => ?_) (fun c => ?_)
  · replace h := h.2.1 c
    refine r_bipush ok (-2) d_LS_feed_11 (by decide) ?_
    exact hQ _ _ _ _ _ (ok_code ok) d_LS_feed_13 h
  · replace h := h.2.2 c
    refine r_iload_n ok 2 d_LS_feed_5 rfl rfl ?_
    refine r_bipush ok 8 d_LS_feed_6 (by decide) ?_
    refine r_icmp_le ok 14 d_LS_feed_8 (by decide) h.1 (by decide) (fun c => ?_) (fun c => ?_)
    · replace h := h.2.1 c
      refine r_aload_n ok 0 d_LS_feed_14 rfl rfl ?_
      refine g_LS_tape ok d_LS_feed_15 ?_
      refine r_iload_n ok 2 d_LS_feed_18 rfl rfl ?_
      refine r_callVi (As := [vI x3]) (rest := []) ok 2 rfl rfl rfl wl_LS_104 wi_y_Ta_hasRoom ws_y_Ta_hasRoom wn_Ta wc_y_Ta_hasRoom (by decide) (by decide) hh_Ta_hasRoom (Nat.le_of_ble_eq_true rfl) rfl d_LS_feed_19 (L_Ta_hasRoom F.1 F.2.1 F.2.2.1 hD h) (fun r2 s1 h => ?_)
      refine r_if_ne ok 28 d_LS_feed_22 (by decide) h.1 (fun c => ?_) (fun c => ?_)
      · replace h := h.2.1 c
        refine r_aload_n ok 0 d_LS_feed_28 rfl rfl ?_
        refine g_LS_tape ok d_LS_feed_29 ?_
        refine r_lload_n ok 1 d_LS_feed_32 rfl rfl ?_
        refine r_iload_n ok 2 d_LS_feed_33 rfl rfl ?_
        refine r_callVi (As := [vJ x1, vI x3]) (rest := []) ok 2 rfl rfl rfl wl_LS_107 wi_y_Ta_append ws_y_Ta_append wn_Ta wc_y_Ta_append (by decide) (by decide) hh_Ta_append (Nat.le_of_ble_eq_true rfl) rfl d_LS_feed_34 (L_Ta_append F.1 F.2.1 F.2.2.1 hD h) (fun r4 s3 h => ?_)
        exact hQ _ _ _ _ _ (ok_code ok) d_LS_feed_37 h
      · replace h := h.2.2 c
        refine r_bipush ok (-4) d_LS_feed_25 (by decide) ?_
        exact hQ _ _ _ _ _ (ok_code ok) d_LS_feed_27 h
    · replace h := h.2.2 c
      refine r_bipush ok (-2) d_LS_feed_11 (by decide) ?_
      exact hQ _ _ _ _ _ (ok_code ok) d_LS_feed_13 h
theorem L_LS_feed (l : Launch) (G : GE) (A : Nat → Prop) (hD : ∀ σ, va_D A (GW G σ)) {x1 x3 : Int} {s : SS} {Q : Int → SS → Prop} (h : Sp_LS_feed x1 x3 s Q) : Met l y_LS_feed (Cond.code y_LS_feed prog_1_method_4_code 4 (some .int) :: lw_ok) ({ frames := 1, cells := 0, slots := 0, locals := 24 } : Room) (va_Pc [.ref (G.1 0), vJ x1, vI x3] (gB G s)) (va_Qi (fun (r : Int32) (s2 : SS) => ∃ x : Int, r = iI x ∧ Q x s2) (fun s2 t => gB G s2 t) A) 0 0 A := by
  refine met_i hD (by decide) ⟨rfl, rfl⟩ (Nat.le_of_ble_eq_true rfl) (lv := [(0, .ref (G.1 0)), (1, vJ x1), (3, vI x3)]) rfl (fun F h1 h2 h3 hm ok hQ => ?_)
  subst h1 h2 h3
  have hDF := hD
  exact K_LS_feed_e hDF hm ok hQ h
theorem d_Ta_size_0 : decode prog_8_method_2_code 0 = .ok (.aload_n 0, 1) := by decide +kernel
theorem d_Ta_size_1 : decode prog_8_method_2_code 1 = .ok (.getfield 13, 3) := by decide +kernel
theorem d_Ta_size_4 : decode prog_8_method_2_code 4 = .ok (.ireturn, 1) := by decide +kernel
set_option maxHeartbeats 4000000 in
set_option maxRecDepth 100000 in
theorem K_Ta_size_e {F : FT} (hD : ∀ σ, va_D F.2.2.1 (GW F.2.1 σ)) (hm : F.2.2.2.2.2.2.2.2.2.2.2.2.2.2.1 = 1) (ok : OkF F prog_8_method_2_code "LastSeen$Tape" ({ frames := 0, cells := 0, slots := 0, locals := 0 } : Room)) {Q : Int → SS → Prop} (hQ : RetI F Q) {s : SS} (h : Sp_Ta_size  s Q) : AtS F 0 [(0, .ref (F.2.1.1 2))] [] s := by
  unfold Sp_Ta_size at h
  refine r_aload_n ok 0 d_Ta_size_0 rfl rfl ?_
  refine g_Ta_size ok d_Ta_size_1 ?_
  exact hQ _ _ _ _ _ (ok_code ok) d_Ta_size_4 h
theorem L_Ta_size (l : Launch) (G : GE) (A : Nat → Prop) (hD : ∀ σ, va_D A (GW G σ)) {s : SS} {Q : Int → SS → Prop} (h : Sp_Ta_size  s Q) : Met l y_Ta_size (Cond.code y_Ta_size prog_8_method_2_code 1 (some .int) :: lw_ok) ({ frames := 0, cells := 0, slots := 0, locals := 0 } : Room) (va_Pc [.ref (G.1 2)] (gB G s)) (va_Qi (fun (r : Int32) (s2 : SS) => ∃ x : Int, r = iI x ∧ Q x s2) (fun s2 t => gB G s2 t) A) 0 0 A := by
  refine met_i hD (by decide) ⟨rfl, rfl⟩ (Nat.le_of_ble_eq_true rfl) (lv := [(0, .ref (G.1 2))]) rfl (fun F h1 h2 h3 hm ok hQ => ?_)
  subst h1 h2 h3
  have hDF := hD
  exact K_Ta_size_e hDF hm ok hQ h
theorem d_Ta_at_0 : decode prog_8_method_4_code 0 = .ok (.iload_n 1, 1) := by decide +kernel
theorem d_Ta_at_1 : decode prog_8_method_4_code 1 = .ok (.ifCond .lt 11, 3) := by decide +kernel
theorem d_Ta_at_4 : decode prog_8_method_4_code 4 = .ok (.iload_n 1, 1) := by decide +kernel
theorem d_Ta_at_5 : decode prog_8_method_4_code 5 = .ok (.aload_n 0, 1) := by decide +kernel
theorem d_Ta_at_6 : decode prog_8_method_4_code 6 = .ok (.getfield 13, 3) := by decide +kernel
theorem d_Ta_at_9 : decode prog_8_method_4_code 9 = .ok (.if_icmp .lt 7, 3) := by decide +kernel
theorem d_Ta_at_12 : decode prog_8_method_4_code 12 = .ok (.iconst (-1), 1) := by decide +kernel
theorem d_Ta_at_13 : decode prog_8_method_4_code 13 = .ok (.goto 13, 3) := by decide +kernel
theorem d_Ta_at_16 : decode prog_8_method_4_code 16 = .ok (.aload_n 0, 1) := by decide +kernel
theorem d_Ta_at_17 : decode prog_8_method_4_code 17 = .ok (.getfield 9, 3) := by decide +kernel
theorem d_Ta_at_20 : decode prog_8_method_4_code 20 = .ok (.iload_n 1, 1) := by decide +kernel
theorem d_Ta_at_21 : decode prog_8_method_4_code 21 = .ok (.baload, 1) := by decide +kernel
theorem d_Ta_at_22 : decode prog_8_method_4_code 22 = .ok (.sipush 255, 3) := by decide +kernel
theorem d_Ta_at_25 : decode prog_8_method_4_code 25 = .ok (.iand, 1) := by decide +kernel
theorem d_Ta_at_26 : decode prog_8_method_4_code 26 = .ok (.ireturn, 1) := by decide +kernel
set_option maxHeartbeats 4000000 in
set_option maxRecDepth 100000 in
theorem K_Ta_at_e {F : FT} (hD : ∀ σ, va_D F.2.2.1 (GW F.2.1 σ)) (hm : F.2.2.2.2.2.2.2.2.2.2.2.2.2.2.1 = 2) (ok : OkF F prog_8_method_4_code "LastSeen$Tape" ({ frames := 0, cells := 0, slots := 0, locals := 0 } : Room)) {Q : Int → SS → Prop} (hQ : RetI F Q) {x1 : Int} {s : SS} (h : Sp_Ta_at x1 s Q) : AtS F 0 [(0, .ref (F.2.1.1 2)), (1, vI x1)] [] s := by
  unfold Sp_Ta_at at h
  refine r_iload_n ok 1 d_Ta_at_0 rfl rfl ?_
  refine r_if_lt ok 12 d_Ta_at_1 (by decide) h.1 (fun c => ?_) (fun c => ?_)
  · replace h := h.2.1 c
    refine r_iconst ok (-1) d_Ta_at_12 rfl ?_
    refine r_goto ok 26 d_Ta_at_13 (by decide) ?_
    exact hQ _ _ _ _ _ (ok_code ok) d_Ta_at_26 h
  · replace h := h.2.2 c
    refine r_iload_n ok 1 d_Ta_at_4 rfl rfl ?_
    refine r_aload_n ok 0 d_Ta_at_5 rfl rfl ?_
    refine g_Ta_size ok d_Ta_at_6 ?_
    refine r_icmp_lt ok 16 d_Ta_at_9 (by decide) h.1 h.2.1 (fun c => ?_) (fun c => ?_)
    · replace h := h.2.2.1 c
      refine r_aload_n ok 0 d_Ta_at_16 rfl rfl ?_
      refine g_Ta_bytes ok d_Ta_at_17 ?_
      refine r_iload_n ok 1 d_Ta_at_20 rfl rfl ?_
      refine r_bald ok 5 d_Ta_at_21 (by decide) rfl h.1 ?_
      replace h := h.2
      refine r_sipush ok 255 d_Ta_at_22 (by decide) ?_
      refine r_iand ok d_Ta_at_25 ?_
      exact hQ _ _ _ _ _ (ok_code ok) d_Ta_at_26 h
    · replace h := h.2.2.2 c
      refine r_iconst ok (-1) d_Ta_at_12 rfl ?_
      refine r_goto ok 26 d_Ta_at_13 (by decide) ?_
      exact hQ _ _ _ _ _ (ok_code ok) d_Ta_at_26 h
theorem L_Ta_at (l : Launch) (G : GE) (A : Nat → Prop) (hD : ∀ σ, va_D A (GW G σ)) {x1 : Int} {s : SS} {Q : Int → SS → Prop} (h : Sp_Ta_at x1 s Q) : Met l y_Ta_at (Cond.code y_Ta_at prog_8_method_4_code 2 (some .int) :: lw_ok) ({ frames := 0, cells := 0, slots := 0, locals := 0 } : Room) (va_Pc [.ref (G.1 2), vI x1] (gB G s)) (va_Qi (fun (r : Int32) (s2 : SS) => ∃ x : Int, r = iI x ∧ Q x s2) (fun s2 t => gB G s2 t) A) 0 0 A := by
  refine met_i hD (by decide) ⟨rfl, rfl⟩ (Nat.le_of_ble_eq_true rfl) (lv := [(0, .ref (G.1 2)), (1, vI x1)]) rfl (fun F h1 h2 h3 hm ok hQ => ?_)
  subst h1 h2 h3
  have hDF := hD
  exact K_Ta_at_e hDF hm ok hQ h
theorem d_Na_canRead_0 : decode prog_6_method_6_code 0 = .ok (.aload_n 0, 1) := by decide +kernel
theorem d_Na_canRead_1 : decode prog_6_method_6_code 1 = .ok (.invokevirtual 52, 3) := by decide +kernel
theorem d_Na_canRead_4 : decode prog_6_method_6_code 4 = .ok (.iconst 1, 1) := by decide +kernel
theorem d_Na_canRead_5 : decode prog_6_method_6_code 5 = .ok (.if_icmp .lt 12, 3) := by decide +kernel
theorem d_Na_canRead_8 : decode prog_6_method_6_code 8 = .ok (.aload_n 0, 1) := by decide +kernel
theorem d_Na_canRead_9 : decode prog_6_method_6_code 9 = .ok (.invokevirtual 52, 3) := by decide +kernel
theorem d_Na_canRead_12 : decode prog_6_method_6_code 12 = .ok (.bipush 12, 2) := by decide +kernel
theorem d_Na_canRead_14 : decode prog_6_method_6_code 14 = .ok (.if_icmp .le 5, 3) := by decide +kernel
theorem d_Na_canRead_17 : decode prog_6_method_6_code 17 = .ok (.iconst 0, 1) := by decide +kernel
theorem d_Na_canRead_18 : decode prog_6_method_6_code 18 = .ok (.ireturn, 1) := by decide +kernel
theorem d_Na_canRead_19 : decode prog_6_method_6_code 19 = .ok (.iconst 0, 1) := by decide +kernel
theorem d_Na_canRead_20 : decode prog_6_method_6_code 20 = .ok (.istore_n 1, 1) := by decide +kernel
theorem d_Na_canRead_21 : decode prog_6_method_6_code 21 = .ok (.iload_n 1, 1) := by decide +kernel
theorem d_Na_canRead_22 : decode prog_6_method_6_code 22 = .ok (.aload_n 0, 1) := by decide +kernel
theorem d_Na_canRead_23 : decode prog_6_method_6_code 23 = .ok (.invokevirtual 52, 3) := by decide +kernel
theorem d_Na_canRead_26 : decode prog_6_method_6_code 26 = .ok (.if_icmp .ge 31, 3) := by decide +kernel
theorem d_Na_canRead_29 : decode prog_6_method_6_code 29 = .ok (.aload_n 0, 1) := by decide +kernel
theorem d_Na_canRead_30 : decode prog_6_method_6_code 30 = .ok (.iload_n 1, 1) := by decide +kernel
theorem d_Na_canRead_31 : decode prog_6_method_6_code 31 = .ok (.invokevirtual 57, 3) := by decide +kernel
theorem d_Na_canRead_34 : decode prog_6_method_6_code 34 = .ok (.bipush 97, 2) := by decide +kernel
theorem d_Na_canRead_36 : decode prog_6_method_6_code 36 = .ok (.if_icmp .lt 13, 3) := by decide +kernel
theorem d_Na_canRead_39 : decode prog_6_method_6_code 39 = .ok (.aload_n 0, 1) := by decide +kernel
theorem d_Na_canRead_40 : decode prog_6_method_6_code 40 = .ok (.iload_n 1, 1) := by decide +kernel
theorem d_Na_canRead_41 : decode prog_6_method_6_code 41 = .ok (.invokevirtual 57, 3) := by decide +kernel
theorem d_Na_canRead_44 : decode prog_6_method_6_code 44 = .ok (.bipush 122, 2) := by decide +kernel
theorem d_Na_canRead_46 : decode prog_6_method_6_code 46 = .ok (.if_icmp .le 5, 3) := by decide +kernel
theorem d_Na_canRead_49 : decode prog_6_method_6_code 49 = .ok (.iconst 0, 1) := by decide +kernel
theorem d_Na_canRead_50 : decode prog_6_method_6_code 50 = .ok (.ireturn, 1) := by decide +kernel
theorem d_Na_canRead_51 : decode prog_6_method_6_code 51 = .ok (.iinc 1 1, 3) := by decide +kernel
theorem d_Na_canRead_54 : decode prog_6_method_6_code 54 = .ok (.goto (-33), 3) := by decide +kernel
theorem d_Na_canRead_57 : decode prog_6_method_6_code 57 = .ok (.iconst 1, 1) := by decide +kernel
theorem d_Na_canRead_58 : decode prog_6_method_6_code 58 = .ok (.ireturn, 1) := by decide +kernel
set_option maxHeartbeats 4000000 in
set_option maxRecDepth 100000 in
theorem K_Na_canRead_21 {F : FT} (hD : ∀ σ, va_D F.2.2.1 (GW F.2.1 σ)) (hm : F.2.2.2.2.2.2.2.2.2.2.2.2.2.2.1 = 2) (ok : OkF F prog_6_method_6_code "LastSeen$Names" ({ frames := 1, cells := 0, slots := 0, locals := 21 } : Room)) {Q : Int → SS → Prop} (hQ : RetZ F Q) {x1 : Int} {s : SS} (h : B_Na_canRead_21 Q (fun x1 s => AtS F 21 [(0, .ref (F.2.1.1 2)), (1, vI x1)] [] s) x1 s) : AtS F 21 [(0, .ref (F.2.1.1 2)), (1, vI x1)] [] s := by
  unfold B_Na_canRead_21 at h
  refine r_iload_n ok 1 d_Na_canRead_21 rfl rfl ?_
  refine r_aload_n ok 0 d_Na_canRead_22 rfl rfl ?_
  refine r_callVi (As := []) (rest := [vI x1]) ok 2 rfl rfl rfl wl_Na_52 wi_y_Ta_size ws_y_Ta_size wn_Ta wc_y_Ta_size (by decide) (by decide) hh_Ta_size (Nat.le_of_ble_eq_true rfl) rfl d_Na_canRead_23 (L_Ta_size F.1 F.2.1 F.2.2.1 hD h) (fun r6 s5 h => ?_)
  refine r_icmp_ge ok 57 d_Na_canRead_26 (by decide) h.1 h.2.1 (fun c => ?_) (fun c => ?_)
  · replace h := h.2.2.1 c
    refine r_iconst ok 1 d_Na_canRead_57 rfl ?_
    exact hQ _ _ _ _ _ (ok_code ok) d_Na_canRead_58 (by decide) h
  · replace h := h.2.2.2 c
    refine r_aload_n ok 0 d_Na_canRead_29 rfl rfl ?_
    refine r_iload_n ok 1 d_Na_canRead_30 rfl rfl ?_
    refine r_callVi (As := [vI x1]) (rest := []) ok 2 rfl rfl rfl wl_Na_57 wi_y_Ta_at ws_y_Ta_at wn_Ta wc_y_Ta_at (by decide) (by decide) hh_Ta_at (Nat.le_of_ble_eq_true rfl) rfl d_Na_canRead_31 (L_Ta_at F.1 F.2.1 F.2.2.1 hD h) (fun r8 s7 h => ?_)
    refine r_bipush ok 97 d_Na_canRead_34 (by decide) ?_
    refine r_icmp_lt ok 49 d_Na_canRead_36 (by decide) h.1 (by decide) (fun c => ?_) (fun c => ?_)
    · replace h := h.2.1 c
      refine r_iconst ok 0 d_Na_canRead_49 rfl ?_
      exact hQ _ _ _ _ _ (ok_code ok) d_Na_canRead_50 (by decide) h
    · replace h := h.2.2 c
      refine r_aload_n ok 0 d_Na_canRead_39 rfl rfl ?_
      refine r_iload_n ok 1 d_Na_canRead_40 rfl rfl ?_
      refine r_callVi (As := [vI x1]) (rest := []) ok 2 rfl rfl rfl wl_Na_57 wi_y_Ta_at ws_y_Ta_at wn_Ta wc_y_Ta_at (by decide) (by decide) hh_Ta_at (Nat.le_of_ble_eq_true rfl) rfl d_Na_canRead_41 (L_Ta_at F.1 F.2.1 F.2.2.1 hD h) (fun r10 s9 h => ?_)
      refine r_bipush ok 122 d_Na_canRead_44 (by decide) ?_
      refine r_icmp_le ok 51 d_Na_canRead_46 (by decide) h.1 (by decide) (fun c => ?_) (fun c => ?_)
      · replace h := h.2.1 c
        refine r_iinc ok 1 (x1 + 1) [(1, vI (x1 + 1)), (0, .ref (F.2.1.1 2))] d_Na_canRead_51 rfl rfl hm (by decide) rfl ?_
        refine r_goto ok 21 d_Na_canRead_54 (by decide) ?_
        exact r_sub [1, 0] rfl h
      · replace h := h.2.2 c
        refine r_iconst ok 0 d_Na_canRead_49 rfl ?_
        exact hQ _ _ _ _ _ (ok_code ok) d_Na_canRead_50 (by decide) h
set_option maxHeartbeats 4000000 in
set_option maxRecDepth 100000 in
theorem K_Na_canRead_e {F : FT} (hD : ∀ σ, va_D F.2.2.1 (GW F.2.1 σ)) (hm : F.2.2.2.2.2.2.2.2.2.2.2.2.2.2.1 = 2) (ok : OkF F prog_6_method_6_code "LastSeen$Names" ({ frames := 1, cells := 0, slots := 0, locals := 21 } : Room)) {Q : Int → SS → Prop} (hQ : RetZ F Q) {s : SS} (h : B_Na_canRead_e Q (fun x1 s => AtS F 21 [(0, .ref (F.2.1.1 2)), (1, vI x1)] [] s)  s) : AtS F 0 [(0, .ref (F.2.1.1 2))] [] s := by
  unfold B_Na_canRead_e at h
  refine r_aload_n ok 0 d_Na_canRead_0 rfl rfl ?_
  refine r_callVi (As := []) (rest := []) ok 2 rfl rfl rfl wl_Na_52 wi_y_Ta_size ws_y_Ta_size wn_Ta wc_y_Ta_size (by decide) (by decide) hh_Ta_size (Nat.le_of_ble_eq_true rfl) rfl d_Na_canRead_1 (L_Ta_size F.1 F.2.1 F.2.2.1 hD h) (fun r2 s1 h => ?_)
  refine r_iconst ok 1 d_Na_canRead_4 rfl ?_
  refine r_icmp_lt ok 17 d_Na_canRead_5 (by decide) h.1 (by decide) (fun c => ?_) (fun c => ?_)
  · replace h := h.2.1 c
    refine r_iconst ok 0 d_Na_canRead_17 rfl ?_
    exact hQ _ _ _ _ _ (ok_code ok) d_Na_canRead_18 (by decide) h
  · replace h := h.2.2 c
    refine r_aload_n ok 0 d_Na_canRead_8 rfl rfl ?_
    refine r_callVi (As := []) (rest := []) ok 2 rfl rfl rfl wl_Na_52 wi_y_Ta_size ws_y_Ta_size wn_Ta wc_y_Ta_size (by decide) (by decide) hh_Ta_size (Nat.le_of_ble_eq_true rfl) rfl d_Na_canRead_9 (L_Ta_size F.1 F.2.1 F.2.2.1 hD h) (fun r4 s3 h => ?_)
    refine r_bipush ok 12 d_Na_canRead_12 (by decide) ?_
    refine r_icmp_le ok 19 d_Na_canRead_14 (by decide) h.1 (by decide) (fun c => ?_) (fun c => ?_)
    · replace h := h.2.1 c
      refine r_iconst ok 0 d_Na_canRead_19 rfl ?_
      refine r_istore_n ok [(1, vI 0), (0, .ref (F.2.1.1 2))] d_Na_canRead_20 rfl hm (by decide) rfl ?_
      exact r_sub [1, 0] rfl h
    · replace h := h.2.2 c
      refine r_iconst ok 0 d_Na_canRead_17 rfl ?_
      exact hQ _ _ _ _ _ (ok_code ok) d_Na_canRead_18 (by decide) h
theorem L_Na_canRead (l : Launch) (G : GE) (A : Nat → Prop) (hD : ∀ σ, va_D A (GW G σ)) {s : SS} {Q : Int → SS → Prop} (h : Sp_Na_canRead  s Q) : Met l y_Na_canRead (Cond.code y_Na_canRead prog_6_method_6_code 2 (some .boolean) :: lw_ok) ({ frames := 1, cells := 0, slots := 0, locals := 21 } : Room) (va_Pc [.ref (G.1 2)] (gB G s)) (va_Qi (fun (r : Int32) (s2 : SS) => ∃ x : Int, r = iI x ∧ Q x s2) (fun s2 t => gB G s2 t) A) 0 0 A := by
  refine met_z hD (by decide) ⟨rfl, rfl⟩ (Nat.le_of_ble_eq_true rfl) (lv := [(0, .ref (G.1 2))]) rfl (fun F h1 h2 h3 hm ok hQ => ?_)
  subst h1 h2 h3
  have hDF := hD
  exact K_Na_canRead_e hDF hm ok hQ (h _ (fun _ _ hb => K_Na_canRead_21 hDF hm ok hQ hb))
theorem d_Na_size_0 : decode prog_6_method_2_code 0 = .ok (.aload_n 0, 1) := by decide +kernel
theorem d_Na_size_1 : decode prog_6_method_2_code 1 = .ok (.getfield 48, 3) := by decide +kernel
theorem d_Na_size_4 : decode prog_6_method_2_code 4 = .ok (.ireturn, 1) := by decide +kernel
set_option maxHeartbeats 4000000 in
set_option maxRecDepth 100000 in
theorem K_Na_size_e {F : FT} (hD : ∀ σ, va_D F.2.2.1 (GW F.2.1 σ)) (hm : F.2.2.2.2.2.2.2.2.2.2.2.2.2.2.1 = 1) (ok : OkF F prog_6_method_2_code "LastSeen$Names" ({ frames := 0, cells := 0, slots := 0, locals := 0 } : Room)) {Q : Int → SS → Prop} (hQ : RetI F Q) {s : SS} (h : Sp_Na_size  s Q) : AtS F 0 [(0, .ref (F.2.1.1 3))] [] s := by
  unfold Sp_Na_size at h
  refine r_aload_n ok 0 d_Na_size_0 rfl rfl ?_
  refine g_Na_size ok d_Na_size_1 ?_
  exact hQ _ _ _ _ _ (ok_code ok) d_Na_size_4 h
theorem L_Na_size (l : Launch) (G : GE) (A : Nat → Prop) (hD : ∀ σ, va_D A (GW G σ)) {s : SS} {Q : Int → SS → Prop} (h : Sp_Na_size  s Q) : Met l y_Na_size (Cond.code y_Na_size prog_6_method_2_code 1 (some .int) :: lw_ok) ({ frames := 0, cells := 0, slots := 0, locals := 0 } : Room) (va_Pc [.ref (G.1 3)] (gB G s)) (va_Qi (fun (r : Int32) (s2 : SS) => ∃ x : Int, r = iI x ∧ Q x s2) (fun s2 t => gB G s2 t) A) 0 0 A := by
  refine met_i hD (by decide) ⟨rfl, rfl⟩ (Nat.le_of_ble_eq_true rfl) (lv := [(0, .ref (G.1 3))]) rfl (fun F h1 h2 h3 hm ok hQ => ?_)
  subst h1 h2 h3
  have hDF := hD
  exact K_Na_size_e hDF hm ok hQ h
theorem d_LS_bookIsFull_0 : decode prog_1_method_41_code 0 = .ok (.aload_n 0, 1) := by decide +kernel
theorem d_LS_bookIsFull_1 : decode prog_1_method_41_code 1 = .ok (.getfield 122, 3) := by decide +kernel
theorem d_LS_bookIsFull_4 : decode prog_1_method_41_code 4 = .ok (.sipush 200, 3) := by decide +kernel
theorem d_LS_bookIsFull_7 : decode prog_1_method_41_code 7 = .ok (.if_icmp .lt 7, 3) := by decide +kernel
theorem d_LS_bookIsFull_10 : decode prog_1_method_41_code 10 = .ok (.iconst 1, 1) := by decide +kernel
theorem d_LS_bookIsFull_11 : decode prog_1_method_41_code 11 = .ok (.goto 4, 3) := by decide +kernel
theorem d_LS_bookIsFull_14 : decode prog_1_method_41_code 14 = .ok (.iconst 0, 1) := by decide +kernel
theorem d_LS_bookIsFull_15 : decode prog_1_method_41_code 15 = .ok (.ireturn, 1) := by decide +kernel
set_option maxHeartbeats 4000000 in
set_option maxRecDepth 100000 in
theorem K_LS_bookIsFull_e {F : FT} (hD : ∀ σ, va_D F.2.2.1 (GW F.2.1 σ)) (hm : F.2.2.2.2.2.2.2.2.2.2.2.2.2.2.1 = 1) (ok : OkF F prog_1_method_41_code "LastSeen" ({ frames := 0, cells := 0, slots := 0, locals := 0 } : Room)) {Q : Int → SS → Prop} (hQ : RetZ F Q) {s : SS} (h : Sp_LS_bookIsFull  s Q) : AtS F 0 [(0, .ref (F.2.1.1 0))] [] s := by
  unfold Sp_LS_bookIsFull at h
  refine r_aload_n ok 0 d_LS_bookIsFull_0 rfl rfl ?_
  refine g_LS_entries ok d_LS_bookIsFull_1 ?_
  refine r_sipush ok 200 d_LS_bookIsFull_4 (by decide) ?_
  refine r_icmp_lt ok 14 d_LS_bookIsFull_7 (by decide) h.1 (by decide) (fun c => ?_) (fun c => ?_)
  · replace h := h.2.1 c
    refine r_iconst ok 0 d_LS_bookIsFull_14 rfl ?_
    exact hQ _ _ _ _ _ (ok_code ok) d_LS_bookIsFull_15 (by decide) h
  · replace h := h.2.2 c
    refine r_iconst ok 1 d_LS_bookIsFull_10 rfl ?_
    refine r_goto ok 15 d_LS_bookIsFull_11 (by decide) ?_
    exact hQ _ _ _ _ _ (ok_code ok) d_LS_bookIsFull_15 (by decide) h
theorem L_LS_bookIsFull (l : Launch) (G : GE) (A : Nat → Prop) (hD : ∀ σ, va_D A (GW G σ)) {s : SS} {Q : Int → SS → Prop} (h : Sp_LS_bookIsFull  s Q) : Met l y_LS_bookIsFull (Cond.code y_LS_bookIsFull prog_1_method_41_code 1 (some .boolean) :: lw_ok) ({ frames := 0, cells := 0, slots := 0, locals := 0 } : Room) (va_Pc [.ref (G.1 0)] (gB G s)) (va_Qi (fun (r : Int32) (s2 : SS) => ∃ x : Int, r = iI x ∧ Q x s2) (fun s2 t => gB G s2 t) A) 0 0 A := by
  refine met_z hD (by decide) ⟨rfl, rfl⟩ (Nat.le_of_ble_eq_true rfl) (lv := [(0, .ref (G.1 0))]) rfl (fun F h1 h2 h3 hm ok hQ => ?_)
  subst h1 h2 h3
  have hDF := hD
  exact K_LS_bookIsFull_e hDF hm ok hQ h
theorem d_Na_alike_0 : decode prog_6_method_8_code 0 = .ok (.iload_n 0, 1) := by decide +kernel
theorem d_Na_alike_1 : decode prog_6_method_8_code 1 = .ok (.tableswitch 95 106 122 #[89, 83, 95, 95, 95, 95, 95, 83, 95, 95, 95, 95, 95, 92, 95, 89, 86], 83) := by decide +kernel
theorem d_Na_alike_84 : decode prog_6_method_8_code 84 = .ok (.bipush 99, 2) := by decide +kernel
theorem d_Na_alike_86 : decode prog_6_method_8_code 86 = .ok (.ireturn, 1) := by decide +kernel
theorem d_Na_alike_87 : decode prog_6_method_8_code 87 = .ok (.bipush 115, 2) := by decide +kernel
theorem d_Na_alike_89 : decode prog_6_method_8_code 89 = .ok (.ireturn, 1) := by decide +kernel
theorem d_Na_alike_90 : decode prog_6_method_8_code 90 = .ok (.bipush 105, 2) := by decide +kernel
theorem d_Na_alike_92 : decode prog_6_method_8_code 92 = .ok (.ireturn, 1) := by decide +kernel
theorem d_Na_alike_93 : decode prog_6_method_8_code 93 = .ok (.bipush 118, 2) := by decide +kernel
theorem d_Na_alike_95 : decode prog_6_method_8_code 95 = .ok (.ireturn, 1) := by decide +kernel
theorem d_Na_alike_96 : decode prog_6_method_8_code 96 = .ok (.iload_n 0, 1) := by decide +kernel
theorem d_Na_alike_97 : decode prog_6_method_8_code 97 = .ok (.ireturn, 1) := by decide +kernel
set_option maxHeartbeats 4000000 in
set_option maxRecDepth 100000 in
theorem K_Na_alike_e {F : FT} (hD : ∀ σ, va_D F.2.2.1 (GW F.2.1 σ)) (hm : F.2.2.2.2.2.2.2.2.2.2.2.2.2.2.1 = 1) (ok : OkF F prog_6_method_8_code "LastSeen$Names" ({ frames := 0, cells := 0, slots := 0, locals := 0 } : Room)) {Q : Int → SS → Prop} (hQ : RetI F Q) {x0 : Int} {s : SS} (h : Sp_Na_alike x0 s Q) : AtS F 0 [(0, vI x0)] [] s := by
  unfold Sp_Na_alike at h
  refine r_iload_n ok 0 d_Na_alike_0 rfl rfl ?_
  have hx := h.1
  replace h := h.2
  rcases Decidable.em (x0 = 106) with c106 | c106
  · replace h := h.1 c106
    refine r_tblIn ok 106 90 d_Na_alike_1 hx c106 (by decide) rfl (by decide) ?_
    refine r_bipush ok 105 d_Na_alike_90 (by decide) ?_
    exact hQ _ _ _ _ _ (ok_code ok) d_Na_alike_92 h
  replace h := h.2
  rcases Decidable.em (x0 = 107) with c107 | c107
  · replace h := h.1 c107
    refine r_tblIn ok 107 84 d_Na_alike_1 hx c107 (by decide) rfl (by decide) ?_
    refine r_bipush ok 99 d_Na_alike_84 (by decide) ?_
    exact hQ _ _ _ _ _ (ok_code ok) d_Na_alike_86 h
  replace h := h.2
  rcases Decidable.em (x0 = 113) with c113 | c113
  · replace h := h.1 c113
    refine r_tblIn ok 113 84 d_Na_alike_1 hx c113 (by decide) rfl (by decide) ?_
    refine r_bipush ok 99 d_Na_alike_84 (by decide) ?_
    exact hQ _ _ _ _ _ (ok_code ok) d_Na_alike_86 h
  replace h := h.2
  rcases Decidable.em (x0 = 119) with c119 | c119
  · replace h := h.1 c119
    refine r_tblIn ok 119 93 d_Na_alike_1 hx c119 (by decide) rfl (by decide) ?_
    refine r_bipush ok 118 d_Na_alike_93 (by decide) ?_
    exact hQ _ _ _ _ _ (ok_code ok) d_Na_alike_95 h
  replace h := h.2
  rcases Decidable.em (x0 = 121) with c121 | c121
  · replace h := h.1 c121
    refine r_tblIn ok 121 90 d_Na_alike_1 hx c121 (by decide) rfl (by decide) ?_
    refine r_bipush ok 105 d_Na_alike_90 (by decide) ?_
    exact hQ _ _ _ _ _ (ok_code ok) d_Na_alike_92 h
  replace h := h.2
  rcases Decidable.em (x0 = 122) with c122 | c122
  · replace h := h.1 c122
    refine r_tblIn ok 122 87 d_Na_alike_1 hx c122 (by decide) rfl (by decide) ?_
    refine r_bipush ok 115 d_Na_alike_87 (by decide) ?_
    exact hQ _ _ _ _ _ (ok_code ok) d_Na_alike_89 h
  replace h := h.2
  replace h := h c106 c107 c113 c119 c121 c122
  rcases Decidable.em (x0 = 108) with c108 | c108
  · refine r_tblIn ok 108 96 d_Na_alike_1 hx c108 (by decide) rfl (by decide) ?_
    refine r_iload_n ok 0 d_Na_alike_96 rfl rfl ?_
    exact hQ _ _ _ _ _ (ok_code ok) d_Na_alike_97 h
  rcases Decidable.em (x0 = 109) with c109 | c109
  · refine r_tblIn ok 109 96 d_Na_alike_1 hx c109 (by decide) rfl (by decide) ?_
    refine r_iload_n ok 0 d_Na_alike_96 rfl rfl ?_
    exact hQ _ _ _ _ _ (ok_code ok) d_Na_alike_97 h
  rcases Decidable.em (x0 = 110) with c110 | c110
  · refine r_tblIn ok 110 96 d_Na_alike_1 hx c110 (by decide) rfl (by decide) ?_
    refine r_iload_n ok 0 d_Na_alike_96 rfl rfl ?_
    exact hQ _ _ _ _ _ (ok_code ok) d_Na_alike_97 h
  rcases Decidable.em (x0 = 111) with c111 | c111
  · refine r_tblIn ok 111 96 d_Na_alike_1 hx c111 (by decide) rfl (by decide) ?_
    refine r_iload_n ok 0 d_Na_alike_96 rfl rfl ?_
    exact hQ _ _ _ _ _ (ok_code ok) d_Na_alike_97 h
  rcases Decidable.em (x0 = 112) with c112 | c112
  · refine r_tblIn ok 112 96 d_Na_alike_1 hx c112 (by decide) rfl (by decide) ?_
    refine r_iload_n ok 0 d_Na_alike_96 rfl rfl ?_
    exact hQ _ _ _ _ _ (ok_code ok) d_Na_alike_97 h
  rcases Decidable.em (x0 = 114) with c114 | c114
  · refine r_tblIn ok 114 96 d_Na_alike_1 hx c114 (by decide) rfl (by decide) ?_
    refine r_iload_n ok 0 d_Na_alike_96 rfl rfl ?_
    exact hQ _ _ _ _ _ (ok_code ok) d_Na_alike_97 h
  rcases Decidable.em (x0 = 115) with c115 | c115
  · refine r_tblIn ok 115 96 d_Na_alike_1 hx c115 (by decide) rfl (by decide) ?_
    refine r_iload_n ok 0 d_Na_alike_96 rfl rfl ?_
    exact hQ _ _ _ _ _ (ok_code ok) d_Na_alike_97 h
  rcases Decidable.em (x0 = 116) with c116 | c116
  · refine r_tblIn ok 116 96 d_Na_alike_1 hx c116 (by decide) rfl (by decide) ?_
    refine r_iload_n ok 0 d_Na_alike_96 rfl rfl ?_
    exact hQ _ _ _ _ _ (ok_code ok) d_Na_alike_97 h
  rcases Decidable.em (x0 = 117) with c117 | c117
  · refine r_tblIn ok 117 96 d_Na_alike_1 hx c117 (by decide) rfl (by decide) ?_
    refine r_iload_n ok 0 d_Na_alike_96 rfl rfl ?_
    exact hQ _ _ _ _ _ (ok_code ok) d_Na_alike_97 h
  rcases Decidable.em (x0 = 118) with c118 | c118
  · refine r_tblIn ok 118 96 d_Na_alike_1 hx c118 (by decide) rfl (by decide) ?_
    refine r_iload_n ok 0 d_Na_alike_96 rfl rfl ?_
    exact hQ _ _ _ _ _ (ok_code ok) d_Na_alike_97 h
  rcases Decidable.em (x0 = 120) with c120 | c120
  · refine r_tblIn ok 120 96 d_Na_alike_1 hx c120 (by decide) rfl (by decide) ?_
    refine r_iload_n ok 0 d_Na_alike_96 rfl rfl ?_
    exact hQ _ _ _ _ _ (ok_code ok) d_Na_alike_97 h
  refine r_tblOut ok 96 d_Na_alike_1 hx (by omega) (by decide) ?_
  refine r_iload_n ok 0 d_Na_alike_96 rfl rfl ?_
  exact hQ _ _ _ _ _ (ok_code ok) d_Na_alike_97 h
theorem L_Na_alike (l : Launch) (G : GE) (A : Nat → Prop) (hD : ∀ σ, va_D A (GW G σ)) {x0 : Int} {s : SS} {Q : Int → SS → Prop} (h : Sp_Na_alike x0 s Q) : Met l y_Na_alike (Cond.code y_Na_alike prog_6_method_8_code 1 (some .int) :: lw_ok) ({ frames := 0, cells := 0, slots := 0, locals := 0 } : Room) (va_Pc [vI x0] (gB G s)) (va_Qi (fun (r : Int32) (s2 : SS) => ∃ x : Int, r = iI x ∧ Q x s2) (fun s2 t => gB G s2 t) A) 0 0 A := by
  refine met_i hD (by decide) ⟨rfl, rfl⟩ (Nat.le_of_ble_eq_true rfl) (lv := [(0, vI x0)]) rfl (fun F h1 h2 h3 hm ok hQ => ?_)
  subst h1 h2 h3
  have hDF := hD
  exact K_Na_alike_e hDF hm ok hQ h
theorem d_Na_blendPh_0 : decode prog_6_method_9_code 0 = .ok (.iconst 0, 1) := by decide +kernel
theorem d_Na_blendPh_1 : decode prog_6_method_9_code 1 = .ok (.istore_n 2, 1) := by decide +kernel
theorem d_Na_blendPh_2 : decode prog_6_method_9_code 2 = .ok (.iconst 0, 1) := by decide +kernel
theorem d_Na_blendPh_3 : decode prog_6_method_9_code 3 = .ok (.istore_n 3, 1) := by decide +kernel
theorem d_Na_blendPh_4 : decode prog_6_method_9_code 4 = .ok (.iload_n 3, 1) := by decide +kernel
theorem d_Na_blendPh_5 : decode prog_6_method_9_code 5 = .ok (.iload_n 1, 1) := by decide +kernel
theorem d_Na_blendPh_6 : decode prog_6_method_9_code 6 = .ok (.if_icmp .ge 77, 3) := by decide +kernel
theorem d_Na_blendPh_9 : decode prog_6_method_9_code 9 = .ok (.aload_n 0, 1) := by decide +kernel
theorem d_Na_blendPh_10 : decode prog_6_method_9_code 10 = .ok (.getfield 45, 3) := by decide +kernel
theorem d_Na_blendPh_13 : decode prog_6_method_9_code 13 = .ok (.iload_n 3, 1) := by decide +kernel
theorem d_Na_blendPh_14 : decode prog_6_method_9_code 14 = .ok (.iaload, 1) := by decide +kernel
theorem d_Na_blendPh_15 : decode prog_6_method_9_code 15 = .ok (.bipush 104, 2) := by decide +kernel
theorem d_Na_blendPh_17 : decode prog_6_method_9_code 17 = .ok (.if_icmp .ne 24, 3) := by decide +kernel
theorem d_Na_blendPh_20 : decode prog_6_method_9_code 20 = .ok (.iload_n 3, 1) := by decide +kernel
theorem d_Na_blendPh_21 : decode prog_6_method_9_code 21 = .ok (.ifCond .le 20, 3) := by decide +kernel
theorem d_Na_blendPh_24 : decode prog_6_method_9_code 24 = .ok (.aload_n 0, 1) := by decide +kernel
theorem d_Na_blendPh_25 : decode prog_6_method_9_code 25 = .ok (.getfield 45, 3) := by decide +kernel
theorem d_Na_blendPh_28 : decode prog_6_method_9_code 28 = .ok (.iload_n 2, 1) := by decide +kernel
theorem d_Na_blendPh_29 : decode prog_6_method_9_code 29 = .ok (.iconst 1, 1) := by decide +kernel
theorem d_Na_blendPh_30 : decode prog_6_method_9_code 30 = .ok (.isub, 1) := by decide +kernel
theorem d_Na_blendPh_31 : decode prog_6_method_9_code 31 = .ok (.iaload, 1) := by decide +kernel
theorem d_Na_blendPh_32 : decode prog_6_method_9_code 32 = .ok (.bipush 112, 2) := by decide +kernel
theorem d_Na_blendPh_34 : decode prog_6_method_9_code 34 = .ok (.if_icmp .ne 7, 3) := by decide +kernel
theorem d_Na_blendPh_37 : decode prog_6_method_9_code 37 = .ok (.iconst 1, 1) := by decide +kernel
theorem d_Na_blendPh_38 : decode prog_6_method_9_code 38 = .ok (.goto 4, 3) := by decide +kernel
theorem d_Na_blendPh_41 : decode prog_6_method_9_code 41 = .ok (.iconst 0, 1) := by decide +kernel
theorem d_Na_blendPh_42 : decode prog_6_method_9_code 42 = .ok (.istore 4, 2) := by decide +kernel
theorem d_Na_blendPh_44 : decode prog_6_method_9_code 44 = .ok (.iload 4, 2) := by decide +kernel
theorem d_Na_blendPh_46 : decode prog_6_method_9_code 46 = .ok (.ifCond .eq 16, 3) := by decide +kernel
theorem d_Na_blendPh_49 : decode prog_6_method_9_code 49 = .ok (.aload_n 0, 1) := by decide +kernel
theorem d_Na_blendPh_50 : decode prog_6_method_9_code 50 = .ok (.getfield 45, 3) := by decide +kernel
theorem d_Na_blendPh_53 : decode prog_6_method_9_code 53 = .ok (.iload_n 2, 1) := by decide +kernel
theorem d_Na_blendPh_54 : decode prog_6_method_9_code 54 = .ok (.iconst 1, 1) := by decide +kernel
theorem d_Na_blendPh_55 : decode prog_6_method_9_code 55 = .ok (.isub, 1) := by decide +kernel
theorem d_Na_blendPh_56 : decode prog_6_method_9_code 56 = .ok (.bipush 102, 2) := by decide +kernel
theorem d_Na_blendPh_58 : decode prog_6_method_9_code 58 = .ok (.iastore, 1) := by decide +kernel
theorem d_Na_blendPh_59 : decode prog_6_method_9_code 59 = .ok (.goto 18, 3) := by decide +kernel
theorem d_Na_blendPh_62 : decode prog_6_method_9_code 62 = .ok (.aload_n 0, 1) := by decide +kernel
theorem d_Na_blendPh_63 : decode prog_6_method_9_code 63 = .ok (.getfield 45, 3) := by decide +kernel
theorem d_Na_blendPh_66 : decode prog_6_method_9_code 66 = .ok (.iload_n 2, 1) := by decide +kernel
theorem d_Na_blendPh_67 : decode prog_6_method_9_code 67 = .ok (.aload_n 0, 1) := by decide +kernel
theorem d_Na_blendPh_68 : decode prog_6_method_9_code 68 = .ok (.getfield 45, 3) := by decide +kernel
theorem d_Na_blendPh_71 : decode prog_6_method_9_code 71 = .ok (.iload_n 3, 1) := by decide +kernel
theorem d_Na_blendPh_72 : decode prog_6_method_9_code 72 = .ok (.iaload, 1) := by decide +kernel
theorem d_Na_blendPh_73 : decode prog_6_method_9_code 73 = .ok (.iastore, 1) := by decide +kernel
theorem d_Na_blendPh_74 : decode prog_6_method_9_code 74 = .ok (.iinc 2 1, 3) := by decide +kernel
theorem d_Na_blendPh_77 : decode prog_6_method_9_code 77 = .ok (.iinc 3 1, 3) := by decide +kernel
theorem d_Na_blendPh_80 : decode prog_6_method_9_code 80 = .ok (.goto (-76), 3) := by decide +kernel
theorem d_Na_blendPh_83 : decode prog_6_method_9_code 83 = .ok (.iload_n 2, 1) := by decide +kernel
theorem d_Na_blendPh_84 : decode prog_6_method_9_code 84 = .ok (.ireturn, 1) := by decide +kernel
set_option maxHeartbeats 4000000 in
set_option maxRecDepth 100000 in
theorem K_Na_blendPh_4 {F : FT} (hD : ∀ σ, va_D F.2.2.1 (GW F.2.1 σ)) (hm : F.2.2.2.2.2.2.2.2.2.2.2.2.2.2.1 = 5) (ok : OkF F prog_6_method_9_code "LastSeen$Names" ({ frames := 0, cells := 0, slots := 0, locals := 0 } : Room)) {Q : Int → SS → Prop} (hQ : RetI F Q) {x1 x2 x3 : Int} {s : SS} (h : B_Na_blendPh_4 Q (fun x1 x2 x3 s => AtS F 4 [(0, .ref (F.2.1.1 3)), (1, vI x1), (2, vI x2), (3, vI x3)] [] s) (fun x1 x2 x3 y0 s => AtS F 42 [(0, .ref (F.2.1.1 3)), (1, vI x1), (2, vI x2), (3, vI x3)] [vI y0] s) x1 x2 x3 s) : AtS F 4 [(0, .ref (F.2.1.1 3)), (1, vI x1), (2, vI x2), (3, vI x3)] [] s := by
  unfold B_Na_blendPh_4 at h
  refine r_iload_n ok 3 d_Na_blendPh_4 rfl rfl ?_
  refine r_iload_n ok 1 d_Na_blendPh_5 rfl rfl ?_
  refine r_icmp_ge ok 83 d_Na_blendPh_6 (by decide) h.1 h.2.1 (fun c => ?_) (fun c => ?_)
  · replace h := h.2.2.1 c
    refine r_iload_n ok 2 d_Na_blendPh_83 rfl rfl ?_
    exact hQ _ _ _ _ _ (ok_code ok) d_Na_blendPh_84 h
  · replace h := h.2.2.2 c
    refine r_aload_n ok 0 d_Na_blendPh_9 rfl rfl ?_
    refine g_Na_spelled ok d_Na_blendPh_10 ?_
    refine r_iload_n ok 3 d_Na_blendPh_13 rfl rfl ?_
    refine r_iald ok 17 d_Na_blendPh_14 (by decide) rfl h.1 ?_
    replace h := h.2
    refine r_bipush ok 104 d_Na_blendPh_15 (by decide) ?_
    refine r_icmp_ne ok 41 d_Na_blendPh_17 (by decide) h.1 (by decide) (fun c => ?_) (fun c => ?_)
    · replace h := h.2.1 c
      refine r_iconst ok 0 d_Na_blendPh_41 rfl ?_
      exact r_sub [0, 1, 2, 3] rfl h
    · replace h := h.2.2 c
      refine r_iload_n ok 3 d_Na_blendPh_20 rfl rfl ?_
      refine r_if_le ok 41 d_Na_blendPh_21 (by decide) h.1 (fun c => ?_) (fun c => ?_)
      · replace h := h.2.1 c
        refine r_iconst ok 0 d_Na_blendPh_41 rfl ?_
        exact r_sub [0, 1, 2, 3] rfl h
      · replace h := h.2.2 c
        refine r_aload_n ok 0 d_Na_blendPh_24 rfl rfl ?_
        refine g_Na_spelled ok d_Na_blendPh_25 ?_
        refine r_iload_n ok 2 d_Na_blendPh_28 rfl rfl ?_
        refine r_iconst ok 1 d_Na_blendPh_29 rfl ?_
        refine r_isub ok d_Na_blendPh_30 ?_
        refine r_iald ok 17 d_Na_blendPh_31 (by decide) rfl h.1 ?_
        replace h := h.2
        refine r_bipush ok 112 d_Na_blendPh_32 (by decide) ?_
        refine r_icmp_ne ok 41 d_Na_blendPh_34 (by decide) h.1 (by decide) (fun c => ?_) (fun c => ?_)
        · replace h := h.2.1 c
          refine r_iconst ok 0 d_Na_blendPh_41 rfl ?_
          exact r_sub [0, 1, 2, 3] rfl h
        · replace h := h.2.2 c
          refine r_iconst ok 1 d_Na_blendPh_37 rfl ?_
          refine r_goto ok 42 d_Na_blendPh_38 (by decide) ?_
          exact r_sub [0, 1, 2, 3] rfl h
set_option maxHeartbeats 4000000 in
set_option maxRecDepth 100000 in
theorem K_Na_blendPh_42 {F : FT} (hD : ∀ σ, va_D F.2.2.1 (GW F.2.1 σ)) (hm : F.2.2.2.2.2.2.2.2.2.2.2.2.2.2.1 = 5) (ok : OkF F prog_6_method_9_code "LastSeen$Names" ({ frames := 0, cells := 0, slots := 0, locals := 0 } : Room)) {Q : Int → SS → Prop} (hQ : RetI F Q) {x1 x2 x3 y0 : Int} {s : SS} (h : B_Na_blendPh_42 Q (fun x1 x2 x3 s => AtS F 4 [(0, .ref (F.2.1.1 3)), (1, vI x1), (2, vI x2), (3, vI x3)] [] s) (fun x1 x2 x3 y0 s => AtS F 42 [(0, .ref (F.2.1.1 3)), (1, vI x1), (2, vI x2), (3, vI x3)] [vI y0] s) x1 x2 x3 y0 s) : AtS F 42 [(0, .ref (F.2.1.1 3)), (1, vI x1), (2, vI x2), (3, vI x3)] [vI y0] s := by
  unfold B_Na_blendPh_42 at h
  refine r_istore ok [(4, vI y0), (0, .ref (F.2.1.1 3)), (1, vI x1), (2, vI x2), (3, vI x3)] d_Na_blendPh_42 hm (by decide) rfl ?_
  refine r_iload ok 0 d_Na_blendPh_44 rfl ?_
  refine r_if_eq ok 62 d_Na_blendPh_46 (by decide) h.1 (fun c => ?_) (fun c => ?_)
  · replace h := h.2.1 c
    refine r_aload_n ok 1 d_Na_blendPh_62 rfl rfl ?_
    refine g_Na_spelled ok d_Na_blendPh_63 ?_
    refine r_iload_n ok 3 d_Na_blendPh_66 rfl rfl ?_
    refine r_aload_n ok 1 d_Na_blendPh_67 rfl rfl ?_
    refine g_Na_spelled ok d_Na_blendPh_68 ?_
    refine r_iload_n ok 4 d_Na_blendPh_71 rfl rfl ?_
    refine r_iald ok 17 d_Na_blendPh_72 (by decide) rfl h.1 ?_
    replace h := h.2
    refine r_iast ok 17 d_Na_blendPh_73 (by decide) rfl h.1 ?_
    replace h := h.2 _ rfl
    generalize sA s 17 x2 (s.2 17 x3) = s1 at h ⊢
    refine r_iinc ok 3 (x2 + 1) [(2, vI (x2 + 1)), (4, vI y0), (0, .ref (F.2.1.1 3)), (1, vI x1), (3, vI x3)] d_Na_blendPh_74 rfl rfl hm (by decide) rfl ?_
    refine r_iinc ok 4 (x3 + 1) [(3, vI (x3 + 1)), (2, vI (x2 + 1)), (4, vI y0), (0, .ref (F.2.1.1 3)), (1, vI x1)] d_Na_blendPh_77 rfl rfl hm (by decide) rfl ?_
    refine r_goto ok 4 d_Na_blendPh_80 (by decide) ?_
    exact r_sub [3, 4, 1, 0] rfl h
  · replace h := h.2.2 c
    refine r_aload_n ok 1 d_Na_blendPh_49 rfl rfl ?_
    refine g_Na_spelled ok d_Na_blendPh_50 ?_
    refine r_iload_n ok 3 d_Na_blendPh_53 rfl rfl ?_
    refine r_iconst ok 1 d_Na_blendPh_54 rfl ?_
    refine r_isub ok d_Na_blendPh_55 ?_
    refine r_bipush ok 102 d_Na_blendPh_56 (by decide) ?_
    refine r_iast ok 17 d_Na_blendPh_58 (by decide) rfl h.1 ?_
    replace h := h.2 _ rfl
    generalize sA s 17 (x2 - 1) 102 = s2 at h ⊢
    refine r_goto ok 77 d_Na_blendPh_59 (by decide) ?_
    refine r_iinc ok 4 (x3 + 1) [(3, vI (x3 + 1)), (4, vI y0), (0, .ref (F.2.1.1 3)), (1, vI x1), (2, vI x2)] d_Na_blendPh_77 rfl rfl hm (by decide) rfl ?_
    refine r_goto ok 4 d_Na_blendPh_80 (by decide) ?_
    exact r_sub [2, 3, 4, 0] rfl h
set_option maxHeartbeats 4000000 in
set_option maxRecDepth 100000 in
theorem K_Na_blendPh_e {F : FT} (hD : ∀ σ, va_D F.2.2.1 (GW F.2.1 σ)) (hm : F.2.2.2.2.2.2.2.2.2.2.2.2.2.2.1 = 5) (ok : OkF F prog_6_method_9_code "LastSeen$Names" ({ frames := 0, cells := 0, slots := 0, locals := 0 } : Room)) {Q : Int → SS → Prop} (hQ : RetI F Q) {x1 : Int} {s : SS} (h : B_Na_blendPh_e Q (fun x1 x2 x3 s => AtS F 4 [(0, .ref (F.2.1.1 3)), (1, vI x1), (2, vI x2), (3, vI x3)] [] s) (fun x1 x2 x3 y0 s => AtS F 42 [(0, .ref (F.2.1.1 3)), (1, vI x1), (2, vI x2), (3, vI x3)] [vI y0] s) x1 s) : AtS F 0 [(0, .ref (F.2.1.1 3)), (1, vI x1)] [] s := by
  unfold B_Na_blendPh_e at h
  refine r_iconst ok 0 d_Na_blendPh_0 rfl ?_
  refine r_istore_n ok [(2, vI 0), (0, .ref (F.2.1.1 3)), (1, vI x1)] d_Na_blendPh_1 rfl hm (by decide) rfl ?_
  refine r_iconst ok 0 d_Na_blendPh_2 rfl ?_
  refine r_istore_n ok [(3, vI 0), (2, vI 0), (0, .ref (F.2.1.1 3)), (1, vI x1)] d_Na_blendPh_3 rfl hm (by decide) rfl ?_
  exact r_sub [2, 3, 1, 0] rfl h
theorem L_Na_blendPh (l : Launch) (G : GE) (A : Nat → Prop) (hD : ∀ σ, va_D A (GW G σ)) {x1 : Int} {s : SS} {Q : Int → SS → Prop} (h : Sp_Na_blendPh x1 s Q) : Met l y_Na_blendPh (Cond.code y_Na_blendPh prog_6_method_9_code 5 (some .int) :: lw_ok) ({ frames := 0, cells := 0, slots := 0, locals := 0 } : Room) (va_Pc [.ref (G.1 3), vI x1] (gB G s)) (va_Qi (fun (r : Int32) (s2 : SS) => ∃ x : Int, r = iI x ∧ Q x s2) (fun s2 t => gB G s2 t) A) 0 0 A := by
  refine met_i hD (by decide) ⟨rfl, rfl⟩ (Nat.le_of_ble_eq_true rfl) (lv := [(0, .ref (G.1 3)), (1, vI x1)]) rfl (fun F h1 h2 h3 hm ok hQ => ?_)
  subst h1 h2 h3
  have hDF := hD
  exact K_Na_blendPh_e hDF hm ok hQ (h _ _ (fun _ _ _ _ hb => K_Na_blendPh_4 hDF hm ok hQ hb) (fun _ _ _ _ _ hb => K_Na_blendPh_42 hDF hm ok hQ hb))
theorem d_Na_dropBreaths_0 : decode prog_6_method_10_code 0 = .ok (.iconst 0, 1) := by decide +kernel
theorem d_Na_dropBreaths_1 : decode prog_6_method_10_code 1 = .ok (.istore_n 2, 1) := by decide +kernel
theorem d_Na_dropBreaths_2 : decode prog_6_method_10_code 2 = .ok (.iconst 0, 1) := by decide +kernel
theorem d_Na_dropBreaths_3 : decode prog_6_method_10_code 3 = .ok (.istore_n 3, 1) := by decide +kernel
theorem d_Na_dropBreaths_4 : decode prog_6_method_10_code 4 = .ok (.iload_n 3, 1) := by decide +kernel
theorem d_Na_dropBreaths_5 : decode prog_6_method_10_code 5 = .ok (.iload_n 1, 1) := by decide +kernel
theorem d_Na_dropBreaths_6 : decode prog_6_method_10_code 6 = .ok (.if_icmp .ge 42, 3) := by decide +kernel
theorem d_Na_dropBreaths_9 : decode prog_6_method_10_code 9 = .ok (.iload_n 3, 1) := by decide +kernel
theorem d_Na_dropBreaths_10 : decode prog_6_method_10_code 10 = .ok (.ifCond .le 17, 3) := by decide +kernel
theorem d_Na_dropBreaths_13 : decode prog_6_method_10_code 13 = .ok (.aload_n 0, 1) := by decide +kernel
theorem d_Na_dropBreaths_14 : decode prog_6_method_10_code 14 = .ok (.getfield 45, 3) := by decide +kernel
theorem d_Na_dropBreaths_17 : decode prog_6_method_10_code 17 = .ok (.iload_n 3, 1) := by decide +kernel
theorem d_Na_dropBreaths_18 : decode prog_6_method_10_code 18 = .ok (.iaload, 1) := by decide +kernel
theorem d_Na_dropBreaths_19 : decode prog_6_method_10_code 19 = .ok (.bipush 104, 2) := by decide +kernel
theorem d_Na_dropBreaths_21 : decode prog_6_method_10_code 21 = .ok (.if_icmp .ne 6, 3) := by decide +kernel
theorem d_Na_dropBreaths_24 : decode prog_6_method_10_code 24 = .ok (.goto 18, 3) := by decide +kernel
theorem d_Na_dropBreaths_27 : decode prog_6_method_10_code 27 = .ok (.aload_n 0, 1) := by decide +kernel
theorem d_Na_dropBreaths_28 : decode prog_6_method_10_code 28 = .ok (.getfield 45, 3) := by decide +kernel
theorem d_Na_dropBreaths_31 : decode prog_6_method_10_code 31 = .ok (.iload_n 2, 1) := by decide +kernel
theorem d_Na_dropBreaths_32 : decode prog_6_method_10_code 32 = .ok (.aload_n 0, 1) := by decide +kernel
theorem d_Na_dropBreaths_33 : decode prog_6_method_10_code 33 = .ok (.getfield 45, 3) := by decide +kernel
theorem d_Na_dropBreaths_36 : decode prog_6_method_10_code 36 = .ok (.iload_n 3, 1) := by decide +kernel
theorem d_Na_dropBreaths_37 : decode prog_6_method_10_code 37 = .ok (.iaload, 1) := by decide +kernel
theorem d_Na_dropBreaths_38 : decode prog_6_method_10_code 38 = .ok (.iastore, 1) := by decide +kernel
theorem d_Na_dropBreaths_39 : decode prog_6_method_10_code 39 = .ok (.iinc 2 1, 3) := by decide +kernel
theorem d_Na_dropBreaths_42 : decode prog_6_method_10_code 42 = .ok (.iinc 3 1, 3) := by decide +kernel
theorem d_Na_dropBreaths_45 : decode prog_6_method_10_code 45 = .ok (.goto (-41), 3) := by decide +kernel
theorem d_Na_dropBreaths_48 : decode prog_6_method_10_code 48 = .ok (.iload_n 2, 1) := by decide +kernel
theorem d_Na_dropBreaths_49 : decode prog_6_method_10_code 49 = .ok (.ireturn, 1) := by decide +kernel
set_option maxHeartbeats 4000000 in
set_option maxRecDepth 100000 in
theorem K_Na_dropBreaths_4 {F : FT} (hD : ∀ σ, va_D F.2.2.1 (GW F.2.1 σ)) (hm : F.2.2.2.2.2.2.2.2.2.2.2.2.2.2.1 = 4) (ok : OkF F prog_6_method_10_code "LastSeen$Names" ({ frames := 0, cells := 0, slots := 0, locals := 0 } : Room)) {Q : Int → SS → Prop} (hQ : RetI F Q) {x1 x2 x3 : Int} {s : SS} (h : B_Na_dropBreaths_4 Q (fun x1 x2 x3 s => AtS F 4 [(0, .ref (F.2.1.1 3)), (1, vI x1), (2, vI x2), (3, vI x3)] [] s) x1 x2 x3 s) : AtS F 4 [(0, .ref (F.2.1.1 3)), (1, vI x1), (2, vI x2), (3, vI x3)] [] s := by
  unfold B_Na_dropBreaths_4 at h
  refine r_iload_n ok 3 d_Na_dropBreaths_4 rfl rfl ?_
  refine r_iload_n ok 1 d_Na_dropBreaths_5 rfl rfl ?_
  refine r_icmp_ge ok 48 d_Na_dropBreaths_6 (by decide) h.1 h.2.1 (fun c => ?_) (fun c => ?_)
  · replace h := h.2.2.1 c
    refine r_iload_n ok 2 d_Na_dropBreaths_48 rfl rfl ?_
    exact hQ _ _ _ _ _ (ok_code ok) d_Na_dropBreaths_49 h
  · replace h := h.2.2.2 c
    refine r_iload_n ok 3 d_Na_dropBreaths_9 rfl rfl ?_
    refine r_if_le ok 27 d_Na_dropBreaths_10 (by decide) h.1 (fun c => ?_) (fun c => ?_)
    · replace h := h.2.1 c
      refine r_aload_n ok 0 d_Na_dropBreaths_27 rfl rfl ?_
      refine g_Na_spelled ok d_Na_dropBreaths_28 ?_
      refine r_iload_n ok 2 d_Na_dropBreaths_31 rfl rfl ?_
      refine r_aload_n ok 0 d_Na_dropBreaths_32 rfl rfl ?_
      refine g_Na_spelled ok d_Na_dropBreaths_33 ?_
      refine r_iload_n ok 3 d_Na_dropBreaths_36 rfl rfl ?_
      refine r_iald ok 17 d_Na_dropBreaths_37 (by decide) rfl h.1 ?_
      replace h := h.2
      refine r_iast ok 17 d_Na_dropBreaths_38 (by decide) rfl h.1 ?_
      replace h := h.2 _ rfl
      generalize sA s 17 x2 (s.2 17 x3) = s1 at h ⊢
      refine r_iinc ok 2 (x2 + 1) [(2, vI (x2 + 1)), (0, .ref (F.2.1.1 3)), (1, vI x1), (3, vI x3)] d_Na_dropBreaths_39 rfl rfl hm (by decide) rfl ?_
      refine r_iinc ok 3 (x3 + 1) [(3, vI (x3 + 1)), (2, vI (x2 + 1)), (0, .ref (F.2.1.1 3)), (1, vI x1)] d_Na_dropBreaths_42 rfl rfl hm (by decide) rfl ?_
      refine r_goto ok 4 d_Na_dropBreaths_45 (by decide) ?_
      exact r_sub [2, 3, 1, 0] rfl h
    · replace h := h.2.2 c
      refine r_aload_n ok 0 d_Na_dropBreaths_13 rfl rfl ?_
      refine g_Na_spelled ok d_Na_dropBreaths_14 ?_
      refine r_iload_n ok 3 d_Na_dropBreaths_17 rfl rfl ?_
      refine r_iald ok 17 d_Na_dropBreaths_18 (by decide) rfl h.1 ?_
      replace h := h.2
      refine r_bipush ok 104 d_Na_dropBreaths_19 (by decide) ?_
      refine r_icmp_ne ok 27 d_Na_dropBreaths_21 (by decide) h.1 (by decide) (fun c => ?_) (fun c => ?_)
      · replace h := h.2.1 c
        refine r_aload_n ok 0 d_Na_dropBreaths_27 rfl rfl ?_
        refine g_Na_spelled ok d_Na_dropBreaths_28 ?_
        refine r_iload_n ok 2 d_Na_dropBreaths_31 rfl rfl ?_
        refine r_aload_n ok 0 d_Na_dropBreaths_32 rfl rfl ?_
        refine g_Na_spelled ok d_Na_dropBreaths_33 ?_
        refine r_iload_n ok 3 d_Na_dropBreaths_36 rfl rfl ?_
        refine r_iald ok 17 d_Na_dropBreaths_37 (by decide) rfl h.1 ?_
        replace h := h.2
        refine r_iast ok 17 d_Na_dropBreaths_38 (by decide) rfl h.1 ?_
        replace h := h.2 _ rfl
        generalize sA s 17 x2 (s.2 17 x3) = s2 at h ⊢
        refine r_iinc ok 2 (x2 + 1) [(2, vI (x2 + 1)), (0, .ref (F.2.1.1 3)), (1, vI x1), (3, vI x3)] d_Na_dropBreaths_39 rfl rfl hm (by decide) rfl ?_
        refine r_iinc ok 3 (x3 + 1) [(3, vI (x3 + 1)), (2, vI (x2 + 1)), (0, .ref (F.2.1.1 3)), (1, vI x1)] d_Na_dropBreaths_42 rfl rfl hm (by decide) rfl ?_
        refine r_goto ok 4 d_Na_dropBreaths_45 (by decide) ?_
        exact r_sub [2, 3, 1, 0] rfl h
      · replace h := h.2.2 c
        refine r_goto ok 42 d_Na_dropBreaths_24 (by decide) ?_
        refine r_iinc ok 3 (x3 + 1) [(3, vI (x3 + 1)), (0, .ref (F.2.1.1 3)), (1, vI x1), (2, vI x2)] d_Na_dropBreaths_42 rfl rfl hm (by decide) rfl ?_
        refine r_goto ok 4 d_Na_dropBreaths_45 (by decide) ?_
        exact r_sub [1, 2, 3, 0] rfl h
set_option maxHeartbeats 4000000 in
set_option maxRecDepth 100000 in
theorem K_Na_dropBreaths_e {F : FT} (hD : ∀ σ, va_D F.2.2.1 (GW F.2.1 σ)) (hm : F.2.2.2.2.2.2.2.2.2.2.2.2.2.2.1 = 4) (ok : OkF F prog_6_method_10_code "LastSeen$Names" ({ frames := 0, cells := 0, slots := 0, locals := 0 } : Room)) {Q : Int → SS → Prop} (hQ : RetI F Q) {x1 : Int} {s : SS} (h : B_Na_dropBreaths_e Q (fun x1 x2 x3 s => AtS F 4 [(0, .ref (F.2.1.1 3)), (1, vI x1), (2, vI x2), (3, vI x3)] [] s) x1 s) : AtS F 0 [(0, .ref (F.2.1.1 3)), (1, vI x1)] [] s := by
  unfold B_Na_dropBreaths_e at h
  refine r_iconst ok 0 d_Na_dropBreaths_0 rfl ?_
  refine r_istore_n ok [(2, vI 0), (0, .ref (F.2.1.1 3)), (1, vI x1)] d_Na_dropBreaths_1 rfl hm (by decide) rfl ?_
  refine r_iconst ok 0 d_Na_dropBreaths_2 rfl ?_
  refine r_istore_n ok [(3, vI 0), (2, vI 0), (0, .ref (F.2.1.1 3)), (1, vI x1)] d_Na_dropBreaths_3 rfl hm (by decide) rfl ?_
  exact r_sub [2, 3, 1, 0] rfl h
theorem L_Na_dropBreaths (l : Launch) (G : GE) (A : Nat → Prop) (hD : ∀ σ, va_D A (GW G σ)) {x1 : Int} {s : SS} {Q : Int → SS → Prop} (h : Sp_Na_dropBreaths x1 s Q) : Met l y_Na_dropBreaths (Cond.code y_Na_dropBreaths prog_6_method_10_code 4 (some .int) :: lw_ok) ({ frames := 0, cells := 0, slots := 0, locals := 0 } : Room) (va_Pc [.ref (G.1 3), vI x1] (gB G s)) (va_Qi (fun (r : Int32) (s2 : SS) => ∃ x : Int, r = iI x ∧ Q x s2) (fun s2 t => gB G s2 t) A) 0 0 A := by
  refine met_i hD (by decide) ⟨rfl, rfl⟩ (Nat.le_of_ble_eq_true rfl) (lv := [(0, .ref (G.1 3)), (1, vI x1)]) rfl (fun F h1 h2 h3 hm ok hQ => ?_)
  subst h1 h2 h3
  have hDF := hD
  exact K_Na_dropBreaths_e hDF hm ok hQ (h _ (fun _ _ _ _ hb => K_Na_dropBreaths_4 hDF hm ok hQ hb))
theorem d_Na_dropTwins_0 : decode prog_6_method_11_code 0 = .ok (.iconst 0, 1) := by decide +kernel
theorem d_Na_dropTwins_1 : decode prog_6_method_11_code 1 = .ok (.istore_n 2, 1) := by decide +kernel
theorem d_Na_dropTwins_2 : decode prog_6_method_11_code 2 = .ok (.iconst 0, 1) := by decide +kernel
theorem d_Na_dropTwins_3 : decode prog_6_method_11_code 3 = .ok (.istore_n 3, 1) := by decide +kernel
theorem d_Na_dropTwins_4 : decode prog_6_method_11_code 4 = .ok (.iload_n 3, 1) := by decide +kernel
theorem d_Na_dropTwins_5 : decode prog_6_method_11_code 5 = .ok (.iload_n 1, 1) := by decide +kernel
theorem d_Na_dropTwins_6 : decode prog_6_method_11_code 6 = .ok (.if_icmp .ge 48, 3) := by decide +kernel
theorem d_Na_dropTwins_9 : decode prog_6_method_11_code 9 = .ok (.iload_n 2, 1) := by decide +kernel
theorem d_Na_dropTwins_10 : decode prog_6_method_11_code 10 = .ok (.ifCond .le 23, 3) := by decide +kernel
theorem d_Na_dropTwins_13 : decode prog_6_method_11_code 13 = .ok (.aload_n 0, 1) := by decide +kernel
theorem d_Na_dropTwins_14 : decode prog_6_method_11_code 14 = .ok (.getfield 45, 3) := by decide +kernel
theorem d_Na_dropTwins_17 : decode prog_6_method_11_code 17 = .ok (.iload_n 2, 1) := by decide +kernel
theorem d_Na_dropTwins_18 : decode prog_6_method_11_code 18 = .ok (.iconst 1, 1) := by decide +kernel
theorem d_Na_dropTwins_19 : decode prog_6_method_11_code 19 = .ok (.isub, 1) := by decide +kernel
theorem d_Na_dropTwins_20 : decode prog_6_method_11_code 20 = .ok (.iaload, 1) := by decide +kernel
theorem d_Na_dropTwins_21 : decode prog_6_method_11_code 21 = .ok (.aload_n 0, 1) := by decide +kernel
theorem d_Na_dropTwins_22 : decode prog_6_method_11_code 22 = .ok (.getfield 45, 3) := by decide +kernel
theorem d_Na_dropTwins_25 : decode prog_6_method_11_code 25 = .ok (.iload_n 3, 1) := by decide +kernel
theorem d_Na_dropTwins_26 : decode prog_6_method_11_code 26 = .ok (.iaload, 1) := by decide +kernel
theorem d_Na_dropTwins_27 : decode prog_6_method_11_code 27 = .ok (.if_icmp .ne 6, 3) := by decide +kernel
theorem d_Na_dropTwins_30 : decode prog_6_method_11_code 30 = .ok (.goto 18, 3) := by decide +kernel
theorem d_Na_dropTwins_33 : decode prog_6_method_11_code 33 = .ok (.aload_n 0, 1) := by decide +kernel
theorem d_Na_dropTwins_34 : decode prog_6_method_11_code 34 = .ok (.getfield 45, 3) := by decide +kernel
theorem d_Na_dropTwins_37 : decode prog_6_method_11_code 37 = .ok (.iload_n 2, 1) := by decide +kernel
theorem d_Na_dropTwins_38 : decode prog_6_method_11_code 38 = .ok (.aload_n 0, 1) := by decide +kernel
theorem d_Na_dropTwins_39 : decode prog_6_method_11_code 39 = .ok (.getfield 45, 3) := by decide +kernel
theorem d_Na_dropTwins_42 : decode prog_6_method_11_code 42 = .ok (.iload_n 3, 1) := by decide +kernel
theorem d_Na_dropTwins_43 : decode prog_6_method_11_code 43 = .ok (.iaload, 1) := by decide +kernel
theorem d_Na_dropTwins_44 : decode prog_6_method_11_code 44 = .ok (.iastore, 1) := by decide +kernel
theorem d_Na_dropTwins_45 : decode prog_6_method_11_code 45 = .ok (.iinc 2 1, 3) := by decide +kernel
theorem d_Na_dropTwins_48 : decode prog_6_method_11_code 48 = .ok (.iinc 3 1, 3) := by decide +kernel
theorem d_Na_dropTwins_51 : decode prog_6_method_11_code 51 = .ok (.goto (-47), 3) := by decide +kernel
theorem d_Na_dropTwins_54 : decode prog_6_method_11_code 54 = .ok (.iload_n 2, 1) := by decide +kernel
theorem d_Na_dropTwins_55 : decode prog_6_method_11_code 55 = .ok (.ireturn, 1) := by decide +kernel
set_option maxHeartbeats 4000000 in
set_option maxRecDepth 100000 in
theorem K_Na_dropTwins_4 {F : FT} (hD : ∀ σ, va_D F.2.2.1 (GW F.2.1 σ)) (hm : F.2.2.2.2.2.2.2.2.2.2.2.2.2.2.1 = 4) (ok : OkF F prog_6_method_11_code "LastSeen$Names" ({ frames := 0, cells := 0, slots := 0, locals := 0 } : Room)) {Q : Int → SS → Prop} (hQ : RetI F Q) {x1 x2 x3 : Int} {s : SS} (h : B_Na_dropTwins_4 Q (fun x1 x2 x3 s => AtS F 4 [(0, .ref (F.2.1.1 3)), (1, vI x1), (2, vI x2), (3, vI x3)] [] s) x1 x2 x3 s) : AtS F 4 [(0, .ref (F.2.1.1 3)), (1, vI x1), (2, vI x2), (3, vI x3)] [] s := by
  unfold B_Na_dropTwins_4 at h
  refine r_iload_n ok 3 d_Na_dropTwins_4 rfl rfl ?_
  refine r_iload_n ok 1 d_Na_dropTwins_5 rfl rfl ?_
  refine r_icmp_ge ok 54 d_Na_dropTwins_6 (by decide) h.1 h.2.1 (fun c => ?_) (fun c => ?_)
  · replace h := h.2.2.1 c
    refine r_iload_n ok 2 d_Na_dropTwins_54 rfl rfl ?_
    exact hQ _ _ _ _ _ (ok_code ok) d_Na_dropTwins_55 h
  · replace h := h.2.2.2 c
    refine r_iload_n ok 2 d_Na_dropTwins_9 rfl rfl ?_
    refine r_if_le ok 33 d_Na_dropTwins_10 (by decide) h.1 (fun c => ?_) (fun c => ?_)
    · replace h := h.2.1 c
      refine r_aload_n ok 0 d_Na_dropTwins_33 rfl rfl ?_
      refine g_Na_spelled ok d_Na_dropTwins_34 ?_
      refine r_iload_n ok 2 d_Na_dropTwins_37 rfl rfl ?_
      refine r_aload_n ok 0 d_Na_dropTwins_38 rfl rfl ?_
      refine g_Na_spelled ok d_Na_dropTwins_39 ?_
      refine r_iload_n ok 3 d_Na_dropTwins_42 rfl rfl ?_
      refine r_iald ok 17 d_Na_dropTwins_43 (by decide) rfl h.1 ?_
      replace h := h.2
      refine r_iast ok 17 d_Na_dropTwins_44 (by decide) rfl h.1 ?_
      replace h := h.2 _ rfl
      generalize sA s 17 x2 (s.2 17 x3) = s1 at h ⊢
      refine r_iinc ok 2 (x2 + 1) [(2, vI (x2 + 1)), (0, .ref (F.2.1.1 3)), (1, vI x1), (3, vI x3)] d_Na_dropTwins_45 rfl rfl hm (by decide) rfl ?_
      refine r_iinc ok 3 (x3 + 1) [(3, vI (x3 + 1)), (2, vI (x2 + 1)), (0, .ref (F.2.1.1 3)), (1, vI x1)] d_Na_dropTwins_48 rfl rfl hm (by decide) rfl ?_
      refine r_goto ok 4 d_Na_dropTwins_51 (by decide) ?_
      exact r_sub [2, 3, 1, 0] rfl h
    · replace h := h.2.2 c
      refine r_aload_n ok 0 d_Na_dropTwins_13 rfl rfl ?_
      refine g_Na_spelled ok d_Na_dropTwins_14 ?_
      refine r_iload_n ok 2 d_Na_dropTwins_17 rfl rfl ?_
      refine r_iconst ok 1 d_Na_dropTwins_18 rfl ?_
      refine r_isub ok d_Na_dropTwins_19 ?_
      refine r_iald ok 17 d_Na_dropTwins_20 (by decide) rfl h.1 ?_
      replace h := h.2
      refine r_aload_n ok 0 d_Na_dropTwins_21 rfl rfl ?_
      refine g_Na_spelled ok d_Na_dropTwins_22 ?_
      refine r_iload_n ok 3 d_Na_dropTwins_25 rfl rfl ?_
      refine r_iald ok 17 d_Na_dropTwins_26 (by decide) rfl h.1 ?_
      replace h := h.2
      refine r_icmp_ne ok 33 d_Na_dropTwins_27 (by decide) h.1 h.2.1 (fun c => ?_) (fun c => ?_)
      · replace h := h.2.2.1 c
        refine r_aload_n ok 0 d_Na_dropTwins_33 rfl rfl ?_
        refine g_Na_spelled ok d_Na_dropTwins_34 ?_
        refine r_iload_n ok 2 d_Na_dropTwins_37 rfl rfl ?_
        refine r_aload_n ok 0 d_Na_dropTwins_38 rfl rfl ?_
        refine g_Na_spelled ok d_Na_dropTwins_39 ?_
        refine r_iload_n ok 3 d_Na_dropTwins_42 rfl rfl ?_
        refine r_iald ok 17 d_Na_dropTwins_43 (by decide) rfl h.1 ?_
        replace h := h.2
        refine r_iast ok 17 d_Na_dropTwins_44 (by decide) rfl h.1 ?_
        replace h := h.2 _ rfl
        generalize sA s 17 x2 (s.2 17 x3) = s2 at h ⊢
        refine r_iinc ok 2 (x2 + 1) [(2, vI (x2 + 1)), (0, .ref (F.2.1.1 3)), (1, vI x1), (3, vI x3)] d_Na_dropTwins_45 rfl rfl hm (by decide) rfl ?_
        refine r_iinc ok 3 (x3 + 1) [(3, vI (x3 + 1)), (2, vI (x2 + 1)), (0, .ref (F.2.1.1 3)), (1, vI x1)] d_Na_dropTwins_48 rfl rfl hm (by decide) rfl ?_
        refine r_goto ok 4 d_Na_dropTwins_51 (by decide) ?_
        exact r_sub [2, 3, 1, 0] rfl h
      · replace h := h.2.2.2 c
        refine r_goto ok 48 d_Na_dropTwins_30 (by decide) ?_
        refine r_iinc ok 3 (x3 + 1) [(3, vI (x3 + 1)), (0, .ref (F.2.1.1 3)), (1, vI x1), (2, vI x2)] d_Na_dropTwins_48 rfl rfl hm (by decide) rfl ?_
        refine r_goto ok 4 d_Na_dropTwins_51 (by decide) ?_
        exact r_sub [1, 2, 3, 0] rfl h
set_option maxHeartbeats 4000000 in
set_option maxRecDepth 100000 in
theorem K_Na_dropTwins_e {F : FT} (hD : ∀ σ, va_D F.2.2.1 (GW F.2.1 σ)) (hm : F.2.2.2.2.2.2.2.2.2.2.2.2.2.2.1 = 4) (ok : OkF F prog_6_method_11_code "LastSeen$Names" ({ frames := 0, cells := 0, slots := 0, locals := 0 } : Room)) {Q : Int → SS → Prop} (hQ : RetI F Q) {x1 : Int} {s : SS} (h : B_Na_dropTwins_e Q (fun x1 x2 x3 s => AtS F 4 [(0, .ref (F.2.1.1 3)), (1, vI x1), (2, vI x2), (3, vI x3)] [] s) x1 s) : AtS F 0 [(0, .ref (F.2.1.1 3)), (1, vI x1)] [] s := by
  unfold B_Na_dropTwins_e at h
  refine r_iconst ok 0 d_Na_dropTwins_0 rfl ?_
  refine r_istore_n ok [(2, vI 0), (0, .ref (F.2.1.1 3)), (1, vI x1)] d_Na_dropTwins_1 rfl hm (by decide) rfl ?_
  refine r_iconst ok 0 d_Na_dropTwins_2 rfl ?_
  refine r_istore_n ok [(3, vI 0), (2, vI 0), (0, .ref (F.2.1.1 3)), (1, vI x1)] d_Na_dropTwins_3 rfl hm (by decide) rfl ?_
  exact r_sub [2, 3, 1, 0] rfl h
theorem L_Na_dropTwins (l : Launch) (G : GE) (A : Nat → Prop) (hD : ∀ σ, va_D A (GW G σ)) {x1 : Int} {s : SS} {Q : Int → SS → Prop} (h : Sp_Na_dropTwins x1 s Q) : Met l y_Na_dropTwins (Cond.code y_Na_dropTwins prog_6_method_11_code 4 (some .int) :: lw_ok) ({ frames := 0, cells := 0, slots := 0, locals := 0 } : Room) (va_Pc [.ref (G.1 3), vI x1] (gB G s)) (va_Qi (fun (r : Int32) (s2 : SS) => ∃ x : Int, r = iI x ∧ Q x s2) (fun s2 t => gB G s2 t) A) 0 0 A := by
  refine met_i hD (by decide) ⟨rfl, rfl⟩ (Nat.le_of_ble_eq_true rfl) (lv := [(0, .ref (G.1 3)), (1, vI x1)]) rfl (fun F h1 h2 h3 hm ok hQ => ?_)
  subst h1 h2 h3
  have hDF := hD
  exact K_Na_dropTwins_e hDF hm ok hQ (h _ (fun _ _ _ _ hb => K_Na_dropTwins_4 hDF hm ok hQ hb))
theorem d_Na_isVowel_0 : decode prog_6_method_13_code 0 = .ok (.iload_n 0, 1) := by decide +kernel
theorem d_Na_isVowel_1 : decode prog_6_method_13_code 1 = .ok (.bipush 97, 2) := by decide +kernel
theorem d_Na_isVowel_3 : decode prog_6_method_13_code 3 = .ok (.if_icmp .eq 27, 3) := by decide +kernel
theorem d_Na_isVowel_6 : decode prog_6_method_13_code 6 = .ok (.iload_n 0, 1) := by decide +kernel
theorem d_Na_isVowel_7 : decode prog_6_method_13_code 7 = .ok (.bipush 101, 2) := by decide +kernel
theorem d_Na_isVowel_9 : decode prog_6_method_13_code 9 = .ok (.if_icmp .eq 21, 3) := by decide +kernel
theorem d_Na_isVowel_12 : decode prog_6_method_13_code 12 = .ok (.iload_n 0, 1) := by decide +kernel
theorem d_Na_isVowel_13 : decode prog_6_method_13_code 13 = .ok (.bipush 105, 2) := by decide +kernel
theorem d_Na_isVowel_15 : decode prog_6_method_13_code 15 = .ok (.if_icmp .eq 15, 3) := by decide +kernel
theorem d_Na_isVowel_18 : decode prog_6_method_13_code 18 = .ok (.iload_n 0, 1) := by decide +kernel
theorem d_Na_isVowel_19 : decode prog_6_method_13_code 19 = .ok (.bipush 111, 2) := by decide +kernel
theorem d_Na_isVowel_21 : decode prog_6_method_13_code 21 = .ok (.if_icmp .eq 9, 3) := by decide +kernel
theorem d_Na_isVowel_24 : decode prog_6_method_13_code 24 = .ok (.iload_n 0, 1) := by decide +kernel
theorem d_Na_isVowel_25 : decode prog_6_method_13_code 25 = .ok (.bipush 117, 2) := by decide +kernel
theorem d_Na_isVowel_27 : decode prog_6_method_13_code 27 = .ok (.if_icmp .ne 7, 3) := by decide +kernel
theorem d_Na_isVowel_30 : decode prog_6_method_13_code 30 = .ok (.iconst 1, 1) := by decide +kernel
theorem d_Na_isVowel_31 : decode prog_6_method_13_code 31 = .ok (.goto 4, 3) := by decide +kernel
theorem d_Na_isVowel_34 : decode prog_6_method_13_code 34 = .ok (.iconst 0, 1) := by decide +kernel
theorem d_Na_isVowel_35 : decode prog_6_method_13_code 35 = .ok (.ireturn, 1) := by decide +kernel
set_option maxHeartbeats 4000000 in
set_option maxRecDepth 100000 in
theorem K_Na_isVowel_e {F : FT} (hD : ∀ σ, va_D F.2.2.1 (GW F.2.1 σ)) (hm : F.2.2.2.2.2.2.2.2.2.2.2.2.2.2.1 = 1) (ok : OkF F prog_6_method_13_code "LastSeen$Names" ({ frames := 0, cells := 0, slots := 0, locals := 0 } : Room)) {Q : Int → SS → Prop} (hQ : RetZ F Q) {x0 : Int} {s : SS} (h : Sp_Na_isVowel x0 s Q) : AtS F 0 [(0, vI x0)] [] s := by
  unfold Sp_Na_isVowel at h
  refine r_iload_n ok 0 d_Na_isVowel_0 rfl rfl ?_
  refine r_bipush ok 97 d_Na_isVowel_1 (by decide) ?_
  refine r_icmp_eq ok 30 d_Na_isVowel_3 (by decide) h.1 (by decide) (fun c => ?_) (fun c => ?_)
  · replace h := h.2.1 c
    refine r_iconst ok 1 d_Na_isVowel_30 rfl ?_
    refine r_goto ok 35 d_Na_isVowel_31 (by decide) ?_
    exact hQ _ _ _ _ _ (ok_code ok) d_Na_isVowel_35 (by decide) h
  · replace h := h.2.2 c
    refine r_iload_n ok 0 d_Na_isVowel_6 rfl rfl ?_
    refine r_bipush ok 101 d_Na_isVowel_7 (by decide) ?_
    refine r_icmp_eq ok 30 d_Na_isVowel_9 (by decide) h.1 (by decide) (fun c => ?_) (fun c => ?_)
    · replace h := h.2.1 c
      refine r_iconst ok 1 d_Na_isVowel_30 rfl ?_
      refine r_goto ok 35 d_Na_isVowel_31 (by decide) ?_
      exact hQ _ _ _ _ _ (ok_code ok) d_Na_isVowel_35 (by decide) h
    · replace h := h.2.2 c
      refine r_iload_n ok 0 d_Na_isVowel_12 rfl rfl ?_
      refine r_bipush ok 105 d_Na_isVowel_13 (by decide) ?_
      refine r_icmp_eq ok 30 d_Na_isVowel_15 (by decide) h.1 (by decide) (fun c => ?_) (fun c => ?_)
      · replace h := h.2.1 c
        refine r_iconst ok 1 d_Na_isVowel_30 rfl ?_
        refine r_goto ok 35 d_Na_isVowel_31 (by decide) ?_
        exact hQ _ _ _ _ _ (ok_code ok) d_Na_isVowel_35 (by decide) h
      · replace h := h.2.2 c
        refine r_iload_n ok 0 d_Na_isVowel_18 rfl rfl ?_
        refine r_bipush ok 111 d_Na_isVowel_19 (by decide) ?_
        refine r_icmp_eq ok 30 d_Na_isVowel_21 (by decide) h.1 (by decide) (fun c => ?_) (fun c => ?_)
        · replace h := h.2.1 c
          refine r_iconst ok 1 d_Na_isVowel_30 rfl ?_
          refine r_goto ok 35 d_Na_isVowel_31 (by decide) ?_
          exact hQ _ _ _ _ _ (ok_code ok) d_Na_isVowel_35 (by decide) h
        · replace h := h.2.2 c
          refine r_iload_n ok 0 d_Na_isVowel_24 rfl rfl ?_
          refine r_bipush ok 117 d_Na_isVowel_25 (by decide) ?_
          refine r_icmp_ne ok 34 d_Na_isVowel_27 (by decide) h.1 (by decide) (fun c => ?_) (fun c => ?_)
          · replace h := h.2.1 c
            refine r_iconst ok 0 d_Na_isVowel_34 rfl ?_
            exact hQ _ _ _ _ _ (ok_code ok) d_Na_isVowel_35 (by decide) h
          · replace h := h.2.2 c
            refine r_iconst ok 1 d_Na_isVowel_30 rfl ?_
            refine r_goto ok 35 d_Na_isVowel_31 (by decide) ?_
            exact hQ _ _ _ _ _ (ok_code ok) d_Na_isVowel_35 (by decide) h
theorem L_Na_isVowel (l : Launch) (G : GE) (A : Nat → Prop) (hD : ∀ σ, va_D A (GW G σ)) {x0 : Int} {s : SS} {Q : Int → SS → Prop} (h : Sp_Na_isVowel x0 s Q) : Met l y_Na_isVowel (Cond.code y_Na_isVowel prog_6_method_13_code 1 (some .boolean) :: lw_ok) ({ frames := 0, cells := 0, slots := 0, locals := 0 } : Room) (va_Pc [vI x0] (gB G s)) (va_Qi (fun (r : Int32) (s2 : SS) => ∃ x : Int, r = iI x ∧ Q x s2) (fun s2 t => gB G s2 t) A) 0 0 A := by
  refine met_z hD (by decide) ⟨rfl, rfl⟩ (Nat.le_of_ble_eq_true rfl) (lv := [(0, vI x0)]) rfl (fun F h1 h2 h3 hm ok hQ => ?_)
  subst h1 h2 h3
  have hDF := hD
  exact K_Na_isVowel_e hDF hm ok hQ h
theorem d_Na_dropVowels_0 : decode prog_6_method_12_code 0 = .ok (.iconst 0, 1) := by decide +kernel
theorem d_Na_dropVowels_1 : decode prog_6_method_12_code 1 = .ok (.istore_n 2, 1) := by decide +kernel
theorem d_Na_dropVowels_2 : decode prog_6_method_12_code 2 = .ok (.iconst 0, 1) := by decide +kernel
theorem d_Na_dropVowels_3 : decode prog_6_method_12_code 3 = .ok (.istore_n 3, 1) := by decide +kernel
theorem d_Na_dropVowels_4 : decode prog_6_method_12_code 4 = .ok (.iload_n 3, 1) := by decide +kernel
theorem d_Na_dropVowels_5 : decode prog_6_method_12_code 5 = .ok (.iload_n 1, 1) := by decide +kernel
theorem d_Na_dropVowels_6 : decode prog_6_method_12_code 6 = .ok (.if_icmp .ge 43, 3) := by decide +kernel
theorem d_Na_dropVowels_9 : decode prog_6_method_12_code 9 = .ok (.iload_n 3, 1) := by decide +kernel
theorem d_Na_dropVowels_10 : decode prog_6_method_12_code 10 = .ok (.ifCond .le 18, 3) := by decide +kernel
theorem d_Na_dropVowels_13 : decode prog_6_method_12_code 13 = .ok (.aload_n 0, 1) := by decide +kernel
theorem d_Na_dropVowels_14 : decode prog_6_method_12_code 14 = .ok (.getfield 45, 3) := by decide +kernel
theorem d_Na_dropVowels_17 : decode prog_6_method_12_code 17 = .ok (.iload_n 3, 1) := by decide +kernel
theorem d_Na_dropVowels_18 : decode prog_6_method_12_code 18 = .ok (.iaload, 1) := by decide +kernel
theorem d_Na_dropVowels_19 : decode prog_6_method_12_code 19 = .ok (.invokestatic 82, 3) := by decide +kernel
theorem d_Na_dropVowels_22 : decode prog_6_method_12_code 22 = .ok (.ifCond .eq 6, 3) := by decide +kernel
theorem d_Na_dropVowels_25 : decode prog_6_method_12_code 25 = .ok (.goto 18, 3) := by decide +kernel
theorem d_Na_dropVowels_28 : decode prog_6_method_12_code 28 = .ok (.aload_n 0, 1) := by decide +kernel
theorem d_Na_dropVowels_29 : decode prog_6_method_12_code 29 = .ok (.getfield 45, 3) := by decide +kernel
theorem d_Na_dropVowels_32 : decode prog_6_method_12_code 32 = .ok (.iload_n 2, 1) := by decide +kernel
theorem d_Na_dropVowels_33 : decode prog_6_method_12_code 33 = .ok (.aload_n 0, 1) := by decide +kernel
theorem d_Na_dropVowels_34 : decode prog_6_method_12_code 34 = .ok (.getfield 45, 3) := by decide +kernel
theorem d_Na_dropVowels_37 : decode prog_6_method_12_code 37 = .ok (.iload_n 3, 1) := by decide +kernel
theorem d_Na_dropVowels_38 : decode prog_6_method_12_code 38 = .ok (.iaload, 1) := by decide +kernel
theorem d_Na_dropVowels_39 : decode prog_6_method_12_code 39 = .ok (.iastore, 1) := by decide +kernel
theorem d_Na_dropVowels_40 : decode prog_6_method_12_code 40 = .ok (.iinc 2 1, 3) := by decide +kernel
theorem d_Na_dropVowels_43 : decode prog_6_method_12_code 43 = .ok (.iinc 3 1, 3) := by decide +kernel
theorem d_Na_dropVowels_46 : decode prog_6_method_12_code 46 = .ok (.goto (-42), 3) := by decide +kernel
theorem d_Na_dropVowels_49 : decode prog_6_method_12_code 49 = .ok (.iload_n 2, 1) := by decide +kernel
theorem d_Na_dropVowels_50 : decode prog_6_method_12_code 50 = .ok (.ireturn, 1) := by decide +kernel
set_option maxHeartbeats 4000000 in
set_option maxRecDepth 100000 in
theorem K_Na_dropVowels_4 {F : FT} (hD : ∀ σ, va_D F.2.2.1 (GW F.2.1 σ)) (hm : F.2.2.2.2.2.2.2.2.2.2.2.2.2.2.1 = 4) (ok : OkF F prog_6_method_12_code "LastSeen$Names" ({ frames := 1, cells := 0, slots := 0, locals := 20 } : Room)) {Q : Int → SS → Prop} (hQ : RetI F Q) {x1 x2 x3 : Int} {s : SS} (h : B_Na_dropVowels_4 Q (fun x1 x2 x3 s => AtS F 4 [(0, .ref (F.2.1.1 3)), (1, vI x1), (2, vI x2), (3, vI x3)] [] s) x1 x2 x3 s) : AtS F 4 [(0, .ref (F.2.1.1 3)), (1, vI x1), (2, vI x2), (3, vI x3)] [] s := by
  unfold B_Na_dropVowels_4 at h
  refine r_iload_n ok 3 d_Na_dropVowels_4 rfl rfl ?_
  refine r_iload_n ok 1 d_Na_dropVowels_5 rfl rfl ?_
  refine r_icmp_ge ok 49 d_Na_dropVowels_6 (by decide) h.1 h.2.1 (fun c => ?_) (fun c => ?_)
  · replace h := h.2.2.1 c
    refine r_iload_n ok 2 d_Na_dropVowels_49 rfl rfl ?_
    exact hQ _ _ _ _ _ (ok_code ok) d_Na_dropVowels_50 h
  · replace h := h.2.2.2 c
    refine r_iload_n ok 3 d_Na_dropVowels_9 rfl rfl ?_
    refine r_if_le ok 28 d_Na_dropVowels_10 (by decide) h.1 (fun c => ?_) (fun c => ?_)
    · replace h := h.2.1 c
      refine r_aload_n ok 0 d_Na_dropVowels_28 rfl rfl ?_
      refine g_Na_spelled ok d_Na_dropVowels_29 ?_
      refine r_iload_n ok 2 d_Na_dropVowels_32 rfl rfl ?_
      refine r_aload_n ok 0 d_Na_dropVowels_33 rfl rfl ?_
      refine g_Na_spelled ok d_Na_dropVowels_34 ?_
      refine r_iload_n ok 3 d_Na_dropVowels_37 rfl rfl ?_
      refine r_iald ok 17 d_Na_dropVowels_38 (by decide) rfl h.1 ?_
      replace h := h.2
      refine r_iast ok 17 d_Na_dropVowels_39 (by decide) rfl h.1 ?_
      replace h := h.2 _ rfl
      generalize sA s 17 x2 (s.2 17 x3) = s1 at h ⊢
      refine r_iinc ok 2 (x2 + 1) [(2, vI (x2 + 1)), (0, .ref (F.2.1.1 3)), (1, vI x1), (3, vI x3)] d_Na_dropVowels_40 rfl rfl hm (by decide) rfl ?_
      refine r_iinc ok 3 (x3 + 1) [(3, vI (x3 + 1)), (2, vI (x2 + 1)), (0, .ref (F.2.1.1 3)), (1, vI x1)] d_Na_dropVowels_43 rfl rfl hm (by decide) rfl ?_
      refine r_goto ok 4 d_Na_dropVowels_46 (by decide) ?_
      exact r_sub [2, 3, 1, 0] rfl h
    · replace h := h.2.2 c
      refine r_aload_n ok 0 d_Na_dropVowels_13 rfl rfl ?_
      refine g_Na_spelled ok d_Na_dropVowels_14 ?_
      refine r_iload_n ok 3 d_Na_dropVowels_17 rfl rfl ?_
      refine r_iald ok 17 d_Na_dropVowels_18 (by decide) rfl h.1 ?_
      replace h := h.2
      refine r_callSi (As := [vI (s.2 17 x3)]) (rest := []) ok wl_Na_82 wt_y_Na_isVowel wn_Na wc_y_Na_isVowel (by decide) (by decide) hh_Na_isVowel (Nat.le_of_ble_eq_true rfl) rfl d_Na_dropVowels_19 (L_Na_isVowel F.1 F.2.1 F.2.2.1 hD h) (fun r3 s2 h => ?_)
      refine r_if_eq ok 28 d_Na_dropVowels_22 (by decide) h.1 (fun c => ?_) (fun c => ?_)
      · replace h := h.2.1 c
        refine r_aload_n ok 0 d_Na_dropVowels_28 rfl rfl ?_
        refine g_Na_spelled ok d_Na_dropVowels_29 ?_
        refine r_iload_n ok 2 d_Na_dropVowels_32 rfl rfl ?_
        refine r_aload_n ok 0 d_Na_dropVowels_33 rfl rfl ?_
        refine g_Na_spelled ok d_Na_dropVowels_34 ?_
        refine r_iload_n ok 3 d_Na_dropVowels_37 rfl rfl ?_
        refine r_iald ok 17 d_Na_dropVowels_38 (by decide) rfl h.1 ?_
        replace h := h.2
        refine r_iast ok 17 d_Na_dropVowels_39 (by decide) rfl h.1 ?_
        replace h := h.2 _ rfl
        generalize sA s2 17 x2 (s2.2 17 x3) = s4 at h ⊢
        refine r_iinc ok 2 (x2 + 1) [(2, vI (x2 + 1)), (0, .ref (F.2.1.1 3)), (1, vI x1), (3, vI x3)] d_Na_dropVowels_40 rfl rfl hm (by decide) rfl ?_
        refine r_iinc ok 3 (x3 + 1) [(3, vI (x3 + 1)), (2, vI (x2 + 1)), (0, .ref (F.2.1.1 3)), (1, vI x1)] d_Na_dropVowels_43 rfl rfl hm (by decide) rfl ?_
        refine r_goto ok 4 d_Na_dropVowels_46 (by decide) ?_
        exact r_sub [2, 3, 1, 0] rfl h
      · replace h := h.2.2 c
        refine r_goto ok 43 d_Na_dropVowels_25 (by decide) ?_
        refine r_iinc ok 3 (x3 + 1) [(3, vI (x3 + 1)), (0, .ref (F.2.1.1 3)), (1, vI x1), (2, vI x2)] d_Na_dropVowels_43 rfl rfl hm (by decide) rfl ?_
        refine r_goto ok 4 d_Na_dropVowels_46 (by decide) ?_
        exact r_sub [1, 2, 3, 0] rfl h
set_option maxHeartbeats 4000000 in
set_option maxRecDepth 100000 in
theorem K_Na_dropVowels_e {F : FT} (hD : ∀ σ, va_D F.2.2.1 (GW F.2.1 σ)) (hm : F.2.2.2.2.2.2.2.2.2.2.2.2.2.2.1 = 4) (ok : OkF F prog_6_method_12_code "LastSeen$Names" ({ frames := 1, cells := 0, slots := 0, locals := 20 } : Room)) {Q : Int → SS → Prop} (hQ : RetI F Q) {x1 : Int} {s : SS} (h : B_Na_dropVowels_e Q (fun x1 x2 x3 s => AtS F 4 [(0, .ref (F.2.1.1 3)), (1, vI x1), (2, vI x2), (3, vI x3)] [] s) x1 s) : AtS F 0 [(0, .ref (F.2.1.1 3)), (1, vI x1)] [] s := by
  unfold B_Na_dropVowels_e at h
  refine r_iconst ok 0 d_Na_dropVowels_0 rfl ?_
  refine r_istore_n ok [(2, vI 0), (0, .ref (F.2.1.1 3)), (1, vI x1)] d_Na_dropVowels_1 rfl hm (by decide) rfl ?_
  refine r_iconst ok 0 d_Na_dropVowels_2 rfl ?_
  refine r_istore_n ok [(3, vI 0), (2, vI 0), (0, .ref (F.2.1.1 3)), (1, vI x1)] d_Na_dropVowels_3 rfl hm (by decide) rfl ?_
  exact r_sub [2, 3, 1, 0] rfl h
theorem L_Na_dropVowels (l : Launch) (G : GE) (A : Nat → Prop) (hD : ∀ σ, va_D A (GW G σ)) {x1 : Int} {s : SS} {Q : Int → SS → Prop} (h : Sp_Na_dropVowels x1 s Q) : Met l y_Na_dropVowels (Cond.code y_Na_dropVowels prog_6_method_12_code 4 (some .int) :: lw_ok) ({ frames := 1, cells := 0, slots := 0, locals := 20 } : Room) (va_Pc [.ref (G.1 3), vI x1] (gB G s)) (va_Qi (fun (r : Int32) (s2 : SS) => ∃ x : Int, r = iI x ∧ Q x s2) (fun s2 t => gB G s2 t) A) 0 0 A := by
  refine met_i hD (by decide) ⟨rfl, rfl⟩ (Nat.le_of_ble_eq_true rfl) (lv := [(0, .ref (G.1 3)), (1, vI x1)]) rfl (fun F h1 h2 h3 hm ok hQ => ?_)
  subst h1 h2 h3
  have hDF := hD
  exact K_Na_dropVowels_e hDF hm ok hQ (h _ (fun _ _ _ _ hb => K_Na_dropVowels_4 hDF hm ok hQ hb))
theorem d_Na_enter_0 : decode prog_6_method_7_code 0 = .ok (.aload_n 1, 1) := by decide +kernel
theorem d_Na_enter_1 : decode prog_6_method_7_code 1 = .ok (.invokevirtual 52, 3) := by decide +kernel
theorem d_Na_enter_4 : decode prog_6_method_7_code 4 = .ok (.bipush 12, 2) := by decide +kernel
theorem d_Na_enter_6 : decode prog_6_method_7_code 6 = .ok (.invokestatic 61, 3) := by decide +kernel
theorem d_Na_enter_9 : decode prog_6_method_7_code 9 = .ok (.istore_n 3, 1) := by decide +kernel
theorem d_Na_enter_10 : decode prog_6_method_7_code 10 = .ok (.iconst 0, 1) := by decide +kernel
theorem d_Na_enter_11 : decode prog_6_method_7_code 11 = .ok (.istore 4, 2) := by decide +kernel
theorem d_Na_enter_13 : decode prog_6_method_7_code 13 = .ok (.iload 4, 2) := by decide +kernel
theorem d_Na_enter_15 : decode prog_6_method_7_code 15 = .ok (.iload_n 3, 1) := by decide +kernel
theorem d_Na_enter_16 : decode prog_6_method_7_code 16 = .ok (.if_icmp .ge 25, 3) := by decide +kernel
theorem d_Na_enter_19 : decode prog_6_method_7_code 19 = .ok (.aload_n 0, 1) := by decide +kernel
theorem d_Na_enter_20 : decode prog_6_method_7_code 20 = .ok (.getfield 45, 3) := by decide +kernel
theorem d_Na_enter_23 : decode prog_6_method_7_code 23 = .ok (.iload 4, 2) := by decide +kernel
theorem d_Na_enter_25 : decode prog_6_method_7_code 25 = .ok (.aload_n 1, 1) := by decide +kernel
theorem d_Na_enter_26 : decode prog_6_method_7_code 26 = .ok (.iload 4, 2) := by decide +kernel
theorem d_Na_enter_28 : decode prog_6_method_7_code 28 = .ok (.invokevirtual 57, 3) := by decide +kernel
theorem d_Na_enter_31 : decode prog_6_method_7_code 31 = .ok (.invokestatic 67, 3) := by decide +kernel
theorem d_Na_enter_34 : decode prog_6_method_7_code 34 = .ok (.iastore, 1) := by decide +kernel
theorem d_Na_enter_35 : decode prog_6_method_7_code 35 = .ok (.iinc 4 1, 3) := by decide +kernel
theorem d_Na_enter_38 : decode prog_6_method_7_code 38 = .ok (.goto (-25), 3) := by decide +kernel
theorem d_Na_enter_41 : decode prog_6_method_7_code 41 = .ok (.aload_n 0, 1) := by decide +kernel
theorem d_Na_enter_42 : decode prog_6_method_7_code 42 = .ok (.aload_n 0, 1) := by decide +kernel
theorem d_Na_enter_43 : decode prog_6_method_7_code 43 = .ok (.aload_n 0, 1) := by decide +kernel
theorem d_Na_enter_44 : decode prog_6_method_7_code 44 = .ok (.iload_n 3, 1) := by decide +kernel
theorem d_Na_enter_45 : decode prog_6_method_7_code 45 = .ok (.invokevirtual 70, 3) := by decide +kernel
theorem d_Na_enter_48 : decode prog_6_method_7_code 48 = .ok (.invokevirtual 73, 3) := by decide +kernel
theorem d_Na_enter_51 : decode prog_6_method_7_code 51 = .ok (.invokevirtual 76, 3) := by decide +kernel
theorem d_Na_enter_54 : decode prog_6_method_7_code 54 = .ok (.istore_n 3, 1) := by decide +kernel
theorem d_Na_enter_55 : decode prog_6_method_7_code 55 = .ok (.aload_n 0, 1) := by decide +kernel
theorem d_Na_enter_56 : decode prog_6_method_7_code 56 = .ok (.iload_n 3, 1) := by decide +kernel
theorem d_Na_enter_57 : decode prog_6_method_7_code 57 = .ok (.invokevirtual 79, 3) := by decide +kernel
theorem d_Na_enter_60 : decode prog_6_method_7_code 60 = .ok (.istore_n 3, 1) := by decide +kernel
theorem d_Na_enter_61 : decode prog_6_method_7_code 61 = .ok (.iconst 0, 1) := by decide +kernel
theorem d_Na_enter_62 : decode prog_6_method_7_code 62 = .ok (.istore 4, 2) := by decide +kernel
theorem d_Na_enter_64 : decode prog_6_method_7_code 64 = .ok (.iload 4, 2) := by decide +kernel
theorem d_Na_enter_66 : decode prog_6_method_7_code 66 = .ok (.iload_n 3, 1) := by decide +kernel
theorem d_Na_enter_67 : decode prog_6_method_7_code 67 = .ok (.if_icmp .ge 31, 3) := by decide +kernel
theorem d_Na_enter_70 : decode prog_6_method_7_code 70 = .ok (.aload_n 0, 1) := by decide +kernel
theorem d_Na_enter_71 : decode prog_6_method_7_code 71 = .ok (.getfield 11, 3) := by decide +kernel
theorem d_Na_enter_74 : decode prog_6_method_7_code 74 = .ok (.aload_n 0, 1) := by decide +kernel
theorem d_Na_enter_75 : decode prog_6_method_7_code 75 = .ok (.getfield 48, 3) := by decide +kernel
theorem d_Na_enter_78 : decode prog_6_method_7_code 78 = .ok (.bipush 12, 2) := by decide +kernel
theorem d_Na_enter_80 : decode prog_6_method_7_code 80 = .ok (.imul, 1) := by decide +kernel
theorem d_Na_enter_81 : decode prog_6_method_7_code 81 = .ok (.iload 4, 2) := by decide +kernel
theorem d_Na_enter_83 : decode prog_6_method_7_code 83 = .ok (.iadd, 1) := by decide +kernel
theorem d_Na_enter_84 : decode prog_6_method_7_code 84 = .ok (.aload_n 0, 1) := by decide +kernel
theorem d_Na_enter_85 : decode prog_6_method_7_code 85 = .ok (.getfield 45, 3) := by decide +kernel
theorem d_Na_enter_88 : decode prog_6_method_7_code 88 = .ok (.iload 4, 2) := by decide +kernel
theorem d_Na_enter_90 : decode prog_6_method_7_code 90 = .ok (.iaload, 1) := by decide +kernel
theorem d_Na_enter_91 : decode prog_6_method_7_code 91 = .ok (.iastore, 1) := by decide +kernel
theorem d_Na_enter_92 : decode prog_6_method_7_code 92 = .ok (.iinc 4 1, 3) := by decide +kernel
theorem d_Na_enter_95 : decode prog_6_method_7_code 95 = .ok (.goto (-31), 3) := by decide +kernel
theorem d_Na_enter_98 : decode prog_6_method_7_code 98 = .ok (.aload_n 0, 1) := by decide +kernel
theorem d_Na_enter_99 : decode prog_6_method_7_code 99 = .ok (.getfield 15, 3) := by decide +kernel
theorem d_Na_enter_102 : decode prog_6_method_7_code 102 = .ok (.aload_n 0, 1) := by decide +kernel
theorem d_Na_enter_103 : decode prog_6_method_7_code 103 = .ok (.getfield 48, 3) := by decide +kernel
theorem d_Na_enter_106 : decode prog_6_method_7_code 106 = .ok (.iload_n 3, 1) := by decide +kernel
theorem d_Na_enter_107 : decode prog_6_method_7_code 107 = .ok (.iastore, 1) := by decide +kernel
theorem d_Na_enter_108 : decode prog_6_method_7_code 108 = .ok (.aload_n 0, 1) := by decide +kernel
theorem d_Na_enter_109 : decode prog_6_method_7_code 109 = .ok (.getfield 18, 3) := by decide +kernel
theorem d_Na_enter_112 : decode prog_6_method_7_code 112 = .ok (.aload_n 0, 1) := by decide +kernel
theorem d_Na_enter_113 : decode prog_6_method_7_code 113 = .ok (.getfield 48, 3) := by decide +kernel
theorem d_Na_enter_116 : decode prog_6_method_7_code 116 = .ok (.iload_n 2, 1) := by decide +kernel
theorem d_Na_enter_117 : decode prog_6_method_7_code 117 = .ok (.iastore, 1) := by decide +kernel
theorem d_Na_enter_118 : decode prog_6_method_7_code 118 = .ok (.aload_n 0, 1) := by decide +kernel
theorem d_Na_enter_119 : decode prog_6_method_7_code 119 = .ok (.dup, 1) := by decide +kernel
theorem d_Na_enter_120 : decode prog_6_method_7_code 120 = .ok (.getfield 48, 3) := by decide +kernel
theorem d_Na_enter_123 : decode prog_6_method_7_code 123 = .ok (.iconst 1, 1) := by decide +kernel
theorem d_Na_enter_124 : decode prog_6_method_7_code 124 = .ok (.iadd, 1) := by decide +kernel
theorem d_Na_enter_125 : decode prog_6_method_7_code 125 = .ok (.putfield 48, 3) := by decide +kernel
theorem d_Na_enter_128 : decode prog_6_method_7_code 128 = .ok (.aload_n 0, 1) := by decide +kernel
theorem d_Na_enter_129 : decode prog_6_method_7_code 129 = .ok (.getfield 48, 3) := by decide +kernel
theorem d_Na_enter_132 : decode prog_6_method_7_code 132 = .ok (.iconst 1, 1) := by decide +kernel
theorem d_Na_enter_133 : decode prog_6_method_7_code 133 = .ok (.isub, 1) := by decide +kernel
theorem d_Na_enter_134 : decode prog_6_method_7_code 134 = .ok (.ireturn, 1) := by decide +kernel
set_option maxHeartbeats 4000000 in
set_option maxRecDepth 100000 in
theorem K_Na_enter_13 {F : FT} (hD : ∀ σ, va_D F.2.2.1 (GW F.2.1 σ)) (hm : F.2.2.2.2.2.2.2.2.2.2.2.2.2.2.1 = 5) (ok : OkF F prog_6_method_7_code "LastSeen$Names" ({ frames := 2, cells := 0, slots := 0, locals := 43 } : Room)) {Q : Int → SS → Prop} (hQ : RetI F Q) {x2 x3 x4 : Int} {s : SS} (h : B_Na_enter_13 Q (fun x2 x3 x4 s => AtS F 13 [(0, .ref (F.2.1.1 3)), (1, .ref (F.2.1.1 2)), (2, vI x2), (3, vI x3), (4, vI x4)] [] s) (fun x2 x3 x4 s => AtS F 64 [(0, .ref (F.2.1.1 3)), (2, vI x2), (3, vI x3), (4, vI x4)] [] s) x2 x3 x4 s) : AtS F 13 [(0, .ref (F.2.1.1 3)), (1, .ref (F.2.1.1 2)), (2, vI x2), (3, vI x3), (4, vI x4)] [] s := by
  unfold B_Na_enter_13 at h
  refine r_iload ok 4 d_Na_enter_13 rfl ?_
  refine r_iload_n ok 3 d_Na_enter_15 rfl rfl ?_
  refine r_icmp_ge ok 41 d_Na_enter_16 (by decide) h.1 h.2.1 (fun c => ?_) (fun c => ?_)
  · replace h := h.2.2.1 c
    refine r_aload_n ok 0 d_Na_enter_41 rfl rfl ?_
    refine r_aload_n ok 0 d_Na_enter_42 rfl rfl ?_
    refine r_aload_n ok 0 d_Na_enter_43 rfl rfl ?_
    refine r_iload_n ok 3 d_Na_enter_44 rfl rfl ?_
    refine r_callVi (As := [vI x3]) (rest := [.ref (F.2.1.1 3), .ref (F.2.1.1 3)]) ok 3 rfl rfl rfl wl_Na_70 wi_y_Na_blendPh ws_y_Na_blendPh wn_Na wc_y_Na_blendPh (by decide) (by decide) hh_Na_blendPh (Nat.le_of_ble_eq_true rfl) rfl d_Na_enter_45 (L_Na_blendPh F.1 F.2.1 F.2.2.1 hD h) (fun r4 s3 h => ?_)
    refine r_callVi (As := [vI r4]) (rest := [.ref (F.2.1.1 3)]) ok 3 rfl rfl rfl wl_Na_73 wi_y_Na_dropBreaths ws_y_Na_dropBreaths wn_Na wc_y_Na_dropBreaths (by decide) (by decide) hh_Na_dropBreaths (Nat.le_of_ble_eq_true rfl) rfl d_Na_enter_48 (L_Na_dropBreaths F.1 F.2.1 F.2.2.1 hD h) (fun r6 s5 h => ?_)
    refine r_callVi (As := [vI r6]) (rest := []) ok 3 rfl rfl rfl wl_Na_76 wi_y_Na_dropTwins ws_y_Na_dropTwins wn_Na wc_y_Na_dropTwins (by decide) (by decide) hh_Na_dropTwins (Nat.le_of_ble_eq_true rfl) rfl d_Na_enter_51 (L_Na_dropTwins F.1 F.2.1 F.2.2.1 hD h) (fun r8 s7 h => ?_)
    refine r_istore_n ok [(3, vI r8), (0, .ref (F.2.1.1 3)), (1, .ref (F.2.1.1 2)), (2, vI x2), (4, vI x4)] d_Na_enter_54 rfl hm (by decide) rfl ?_
    refine r_aload_n ok 1 d_Na_enter_55 rfl rfl ?_
    refine r_iload_n ok 0 d_Na_enter_56 rfl rfl ?_
    refine r_callVi (As := [vI r8]) (rest := []) ok 3 rfl rfl rfl wl_Na_79 wi_y_Na_dropVowels ws_y_Na_dropVowels wn_Na wc_y_Na_dropVowels (by decide) (by decide) hh_Na_dropVowels (Nat.le_of_ble_eq_true rfl) rfl d_Na_enter_57 (L_Na_dropVowels F.1 F.2.1 F.2.2.1 hD h) (fun r10 s9 h => ?_)
    refine r_istore_n ok [(3, vI r10), (0, .ref (F.2.1.1 3)), (1, .ref (F.2.1.1 2)), (2, vI x2), (4, vI x4)] d_Na_enter_60 rfl hm (by decide) rfl ?_
    refine r_iconst ok 0 d_Na_enter_61 rfl ?_
    refine r_istore ok [(4, vI 0), (3, vI r10), (0, .ref (F.2.1.1 3)), (1, .ref (F.2.1.1 2)), (2, vI x2)] d_Na_enter_62 hm (by decide) rfl ?_
    exact r_sub [2, 4, 1, 0] rfl h
  · replace h := h.2.2.2 c
    refine r_aload_n ok 0 d_Na_enter_19 rfl rfl ?_
    refine g_Na_spelled ok d_Na_enter_20 ?_
    refine r_iload ok 4 d_Na_enter_23 rfl ?_
    refine r_aload_n ok 1 d_Na_enter_25 rfl rfl ?_
    refine r_iload ok 4 d_Na_enter_26 rfl ?_
    refine r_callVi (As := [vI x4]) (rest := [vI x4, .ref (F.2.1.1 28)]) ok 2 rfl rfl rfl wl_Na_57 wi_y_Ta_at ws_y_Ta_at wn_Ta wc_y_Ta_at (by decide) (by decide) hh_Ta_at (Nat.le_of_ble_eq_true rfl) rfl d_Na_enter_28 (L_Ta_at F.1 F.2.1 F.2.2.1 hD h) (fun r12 s11 h => ?_)
    refine r_callSi (As := [vI r12]) (rest := [vI x4, .ref (F.2.1.1 28)]) ok wl_Na_67 wt_y_Na_alike wn_Na wc_y_Na_alike (by decide) (by decide) hh_Na_alike (Nat.le_of_ble_eq_true rfl) rfl d_Na_enter_31 (L_Na_alike F.1 F.2.1 F.2.2.1 hD h) (fun r14 s13 h => ?_)
    refine r_iast ok 17 d_Na_enter_34 (by decide) rfl h.1 ?_
    replace h := h.2 _ rfl
    generalize sA s13 17 x4 r14 = s15 at h ⊢
    refine r_iinc ok 4 (x4 + 1) [(4, vI (x4 + 1)), (0, .ref (F.2.1.1 3)), (1, .ref (F.2.1.1 2)), (2, vI x2), (3, vI x3)] d_Na_enter_35 rfl rfl hm (by decide) rfl ?_
    refine r_goto ok 13 d_Na_enter_38 (by decide) ?_
    exact r_sub [1, 2, 3, 4, 0] rfl h
set_option maxHeartbeats 4000000 in
set_option maxRecDepth 100000 in
theorem K_Na_enter_64 {F : FT} (hD : ∀ σ, va_D F.2.2.1 (GW F.2.1 σ)) (hm : F.2.2.2.2.2.2.2.2.2.2.2.2.2.2.1 = 5) (ok : OkF F prog_6_method_7_code "LastSeen$Names" ({ frames := 2, cells := 0, slots := 0, locals := 43 } : Room)) {Q : Int → SS → Prop} (hQ : RetI F Q) {x2 x3 x4 : Int} {s : SS} (h : B_Na_enter_64 Q (fun x2 x3 x4 s => AtS F 13 [(0, .ref (F.2.1.1 3)), (1, .ref (F.2.1.1 2)), (2, vI x2), (3, vI x3), (4, vI x4)] [] s) (fun x2 x3 x4 s => AtS F 64 [(0, .ref (F.2.1.1 3)), (2, vI x2), (3, vI x3), (4, vI x4)] [] s) x2 x3 x4 s) : AtS F 64 [(0, .ref (F.2.1.1 3)), (2, vI x2), (3, vI x3), (4, vI x4)] [] s := by
  unfold B_Na_enter_64 at h
  refine r_iload ok 3 d_Na_enter_64 rfl ?_
  refine r_iload_n ok 2 d_Na_enter_66 rfl rfl ?_
  refine r_icmp_ge ok 98 d_Na_enter_67 (by decide) h.1 h.2.1 (fun c => ?_) (fun c => ?_)
  · replace h := h.2.2.1 c
    refine r_aload_n ok 0 d_Na_enter_98 rfl rfl ?_
    refine g_Na_keySizes ok d_Na_enter_99 ?_
    refine r_aload_n ok 0 d_Na_enter_102 rfl rfl ?_
    refine g_Na_size ok d_Na_enter_103 ?_
    refine r_iload_n ok 2 d_Na_enter_106 rfl rfl ?_
    refine r_iast ok 7 d_Na_enter_107 (by decide) rfl h.1 ?_
    replace h := h.2 _ rfl
    generalize sA s 7 (s.1 4) x3 = s16 at h ⊢
    refine r_aload_n ok 0 d_Na_enter_108 rfl rfl ?_
    refine g_Na_enteredAt ok d_Na_enter_109 ?_
    refine r_aload_n ok 0 d_Na_enter_112 rfl rfl ?_
    refine g_Na_size ok d_Na_enter_113 ?_
    refine r_iload_n ok 1 d_Na_enter_116 rfl rfl ?_
    refine r_iast ok 8 d_Na_enter_117 (by decide) rfl h.1 ?_
    replace h := h.2 _ rfl
    generalize sA s16 8 (s16.1 4) x2 = s17 at h ⊢
    refine r_aload_n ok 0 d_Na_enter_118 rfl rfl ?_
    refine r_dup ok d_Na_enter_119 rfl ?_
    refine g_Na_size ok d_Na_enter_120 ?_
    refine r_iconst ok 1 d_Na_enter_123 rfl ?_
    refine r_iadd ok d_Na_enter_124 ?_
    refine p_Na_size ok d_Na_enter_125 ?_
    replace h := h _ rfl
    generalize sF s17 4 ((s17.1 4) + 1) = s18 at h ⊢
    refine r_aload_n ok 0 d_Na_enter_128 rfl rfl ?_
    refine g_Na_size ok d_Na_enter_129 ?_
    refine r_iconst ok 1 d_Na_enter_132 rfl ?_
    refine r_isub ok d_Na_enter_133 ?_
    exact hQ _ _ _ _ _ (ok_code ok) d_Na_enter_134 h
  · replace h := h.2.2.2 c
    refine r_aload_n ok 0 d_Na_enter_70 rfl rfl ?_
    refine g_Na_letters ok d_Na_enter_71 ?_
    refine r_aload_n ok 0 d_Na_enter_74 rfl rfl ?_
    refine g_Na_size ok d_Na_enter_75 ?_
    refine r_bipush ok 12 d_Na_enter_78 (by decide) ?_
    refine r_imul ok d_Na_enter_80 ?_
    refine r_iload ok 3 d_Na_enter_81 rfl ?_
    refine r_iadd ok d_Na_enter_83 ?_
    refine r_aload_n ok 0 d_Na_enter_84 rfl rfl ?_
    refine g_Na_spelled ok d_Na_enter_85 ?_
    refine r_iload ok 3 d_Na_enter_88 rfl ?_
    refine r_iald ok 17 d_Na_enter_90 (by decide) rfl h.1 ?_
    replace h := h.2
    refine r_iast ok 6 d_Na_enter_91 (by decide) rfl h.1 ?_
    replace h := h.2 _ rfl
    generalize sA s 6 (((s.1 4) * 12) + x4) (s.2 17 x4) = s19 at h ⊢
    refine r_iinc ok 3 (x4 + 1) [(4, vI (x4 + 1)), (0, .ref (F.2.1.1 3)), (2, vI x2), (3, vI x3)] d_Na_enter_92 rfl rfl hm (by decide) rfl ?_
    refine r_goto ok 64 d_Na_enter_95 (by decide) ?_
    exact r_sub [1, 2, 3, 0] rfl h
set_option maxHeartbeats 4000000 in
set_option maxRecDepth 100000 in
theorem K_Na_enter_e {F : FT} (hD : ∀ σ, va_D F.2.2.1 (GW F.2.1 σ)) (hm : F.2.2.2.2.2.2.2.2.2.2.2.2.2.2.1 = 5) (ok : OkF F prog_6_method_7_code "LastSeen$Names" ({ frames := 2, cells := 0, slots := 0, locals := 43 } : Room)) {Q : Int → SS → Prop} (hQ : RetI F Q) {x2 : Int} {s : SS} (h : B_Na_enter_e Q (fun x2 x3 x4 s => AtS F 13 [(0, .ref (F.2.1.1 3)), (1, .ref (F.2.1.1 2)), (2, vI x2), (3, vI x3), (4, vI x4)] [] s) (fun x2 x3 x4 s => AtS F 64 [(0, .ref (F.2.1.1 3)), (2, vI x2), (3, vI x3), (4, vI x4)] [] s) x2 s) : AtS F 0 [(0, .ref (F.2.1.1 3)), (1, .ref (F.2.1.1 2)), (2, vI x2)] [] s := by
  unfold B_Na_enter_e at h
  refine r_aload_n ok 1 d_Na_enter_0 rfl rfl ?_
  refine r_callVi (As := []) (rest := []) ok 2 rfl rfl rfl wl_Na_52 wi_y_Ta_size ws_y_Ta_size wn_Ta wc_y_Ta_size (by decide) (by decide) hh_Ta_size (Nat.le_of_ble_eq_true rfl) rfl d_Na_enter_1 (L_Ta_size F.1 F.2.1 F.2.2.1 hD h) (fun r2 s1 h => ?_)
  refine r_bipush ok 12 d_Na_enter_4 (by decide) ?_
  refine r_min ok wl_Na_61 (by decide) (Nat.le_of_ble_eq_true rfl) d_Na_enter_6 h.1 (by decide) ?_
  replace h := h.2
  refine r_istore_n ok [(3, vI (min r2 12)), (0, .ref (F.2.1.1 3)), (1, .ref (F.2.1.1 2)), (2, vI x2)] d_Na_enter_9 rfl hm (by decide) rfl ?_
  refine r_iconst ok 0 d_Na_enter_10 rfl ?_
  refine r_istore ok [(4, vI 0), (3, vI (min r2 12)), (0, .ref (F.2.1.1 3)), (1, .ref (F.2.1.1 2)), (2, vI x2)] d_Na_enter_11 hm (by decide) rfl ?_
  exact r_sub [2, 3, 4, 1, 0] rfl h
theorem L_Na_enter (l : Launch) (G : GE) (A : Nat → Prop) (hD : ∀ σ, va_D A (GW G σ)) {x2 : Int} {s : SS} {Q : Int → SS → Prop} (h : Sp_Na_enter x2 s Q) : Met l y_Na_enter (Cond.code y_Na_enter prog_6_method_7_code 5 (some .int) :: lw_ok) ({ frames := 2, cells := 0, slots := 0, locals := 43 } : Room) (va_Pc [.ref (G.1 3), .ref (G.1 2), vI x2] (gB G s)) (va_Qi (fun (r : Int32) (s2 : SS) => ∃ x : Int, r = iI x ∧ Q x s2) (fun s2 t => gB G s2 t) A) 0 0 A := by
  refine met_i hD (by decide) ⟨rfl, rfl⟩ (Nat.le_of_ble_eq_true rfl) (lv := [(0, .ref (G.1 3)), (1, .ref (G.1 2)), (2, vI x2)]) rfl (fun F h1 h2 h3 hm ok hQ => ?_)
  subst h1 h2 h3
  have hDF := hD
  exact K_Na_enter_e hDF hm ok hQ (h _ _ (fun _ _ _ _ hb => K_Na_enter_13 hDF hm ok hQ hb) (fun _ _ _ _ hb => K_Na_enter_64 hDF hm ok hQ hb))
theorem d_Ta_empty_0 : decode prog_8_method_6_code 0 = .ok (.aload_n 0, 1) := by decide +kernel
theorem d_Ta_empty_1 : decode prog_8_method_6_code 1 = .ok (.iconst 0, 1) := by decide +kernel
theorem d_Ta_empty_2 : decode prog_8_method_6_code 2 = .ok (.putfield 13, 3) := by decide +kernel
theorem d_Ta_empty_5 : decode prog_8_method_6_code 5 = .ok (.return_, 1) := by decide +kernel
set_option maxHeartbeats 4000000 in
set_option maxRecDepth 100000 in
theorem K_Ta_empty_e {F : FT} (hD : ∀ σ, va_D F.2.2.1 (GW F.2.1 σ)) (hm : F.2.2.2.2.2.2.2.2.2.2.2.2.2.2.1 = 1) (ok : OkF F prog_8_method_6_code "LastSeen$Tape" ({ frames := 0, cells := 0, slots := 0, locals := 0 } : Room)) {Q : SS → Prop} (hQ : RetV F Q) {s : SS} (h : Sp_Ta_empty  s Q) : AtS F 0 [(0, .ref (F.2.1.1 2))] [] s := by
  unfold Sp_Ta_empty at h
  refine r_aload_n ok 0 d_Ta_empty_0 rfl rfl ?_
  refine r_iconst ok 0 d_Ta_empty_1 rfl ?_
  refine p_Ta_size ok d_Ta_empty_2 ?_
  replace h := h _ rfl
  generalize sF s 3 0 = s1 at h ⊢
  exact hQ _ _ _ _ (ok_code ok) d_Ta_empty_5 h
theorem L_Ta_empty (l : Launch) (G : GE) (A : Nat → Prop) (hD : ∀ σ, va_D A (GW G σ)) {s : SS} {Q : SS → Prop} (h : Sp_Ta_empty  s Q) : Met l y_Ta_empty (Cond.code y_Ta_empty prog_8_method_6_code 1 (none) :: lw_ok) ({ frames := 0, cells := 0, slots := 0, locals := 0 } : Room) (va_Pc [.ref (G.1 2)] (gB G s)) (va_Qv (fun (s2 : SS) => Q s2) (fun s2 t => gB G s2 t) A) 0 0 A := by
  refine met_v hD (by decide) ⟨rfl, rfl⟩ (Nat.le_of_ble_eq_true rfl) (lv := [(0, .ref (G.1 2))]) rfl (fun F h1 h2 h3 hm ok hQ => ?_)
  subst h1 h2 h3
  have hDF := hD
  exact K_Ta_empty_e hDF hm ok hQ h
theorem d_LS_name_0 : decode prog_1_method_5_code 0 = .ok (.aload_n 0, 1) := by decide +kernel
theorem d_LS_name_1 : decode prog_1_method_5_code 1 = .ok (.getfield 19, 3) := by decide +kernel
theorem d_LS_name_4 : decode prog_1_method_5_code 4 = .ok (.invokestatic 111, 3) := by decide +kernel
theorem d_LS_name_7 : decode prog_1_method_5_code 7 = .ok (.ifCond .ne 6, 3) := by decide +kernel
theorem d_LS_name_10 : decode prog_1_method_5_code 10 = .ok (.bipush (-2), 2) := by decide +kernel
theorem d_LS_name_12 : decode prog_1_method_5_code 12 = .ok (.ireturn, 1) := by decide +kernel
theorem d_LS_name_13 : decode prog_1_method_5_code 13 = .ok (.aload_n 0, 1) := by decide +kernel
theorem d_LS_name_14 : decode prog_1_method_5_code 14 = .ok (.getfield 26, 3) := by decide +kernel
theorem d_LS_name_17 : decode prog_1_method_5_code 17 = .ok (.invokevirtual 115, 3) := by decide +kernel
theorem d_LS_name_20 : decode prog_1_method_5_code 20 = .ok (.bipush 20, 2) := by decide +kernel
theorem d_LS_name_22 : decode prog_1_method_5_code 22 = .ok (.if_icmp .ge 10, 3) := by decide +kernel
theorem d_LS_name_25 : decode prog_1_method_5_code 25 = .ok (.aload_n 0, 1) := by decide +kernel
theorem d_LS_name_26 : decode prog_1_method_5_code 26 = .ok (.invokevirtual 119, 3) := by decide +kernel
theorem d_LS_name_29 : decode prog_1_method_5_code 29 = .ok (.ifCond .eq 6, 3) := by decide +kernel
theorem d_LS_name_32 : decode prog_1_method_5_code 32 = .ok (.bipush (-4), 2) := by decide +kernel
theorem d_LS_name_34 : decode prog_1_method_5_code 34 = .ok (.ireturn, 1) := by decide +kernel
theorem d_LS_name_35 : decode prog_1_method_5_code 35 = .ok (.aload_n 0, 1) := by decide +kernel
theorem d_LS_name_36 : decode prog_1_method_5_code 36 = .ok (.getfield 26, 3) := by decide +kernel
theorem d_LS_name_39 : decode prog_1_method_5_code 39 = .ok (.aload_n 0, 1) := by decide +kernel
theorem d_LS_name_40 : decode prog_1_method_5_code 40 = .ok (.getfield 19, 3) := by decide +kernel
theorem d_LS_name_43 : decode prog_1_method_5_code 43 = .ok (.aload_n 0, 1) := by decide +kernel
theorem d_LS_name_44 : decode prog_1_method_5_code 44 = .ok (.getfield 122, 3) := by decide +kernel
theorem d_LS_name_47 : decode prog_1_method_5_code 47 = .ok (.invokevirtual 126, 3) := by decide +kernel
theorem d_LS_name_50 : decode prog_1_method_5_code 50 = .ok (.istore_n 1, 1) := by decide +kernel
theorem d_LS_name_51 : decode prog_1_method_5_code 51 = .ok (.aload_n 0, 1) := by decide +kernel
theorem d_LS_name_52 : decode prog_1_method_5_code 52 = .ok (.dup, 1) := by decide +kernel
theorem d_LS_name_53 : decode prog_1_method_5_code 53 = .ok (.getfield 122, 3) := by decide +kernel
theorem d_LS_name_56 : decode prog_1_method_5_code 56 = .ok (.iconst 1, 1) := by decide +kernel
theorem d_LS_name_57 : decode prog_1_method_5_code 57 = .ok (.iadd, 1) := by decide +kernel
theorem d_LS_name_58 : decode prog_1_method_5_code 58 = .ok (.putfield 122, 3) := by decide +kernel
theorem d_LS_name_61 : decode prog_1_method_5_code 61 = .ok (.aload_n 0, 1) := by decide +kernel
theorem d_LS_name_62 : decode prog_1_method_5_code 62 = .ok (.getfield 19, 3) := by decide +kernel
theorem d_LS_name_65 : decode prog_1_method_5_code 65 = .ok (.invokevirtual 130, 3) := by decide +kernel
theorem d_LS_name_68 : decode prog_1_method_5_code 68 = .ok (.iload_n 1, 1) := by decide +kernel
theorem d_LS_name_69 : decode prog_1_method_5_code 69 = .ok (.ireturn, 1) := by decide +kernel
set_option maxHeartbeats 4000000 in
set_option maxRecDepth 100000 in
theorem K_LS_name_e {F : FT} (hD : ∀ σ, va_D F.2.2.1 (GW F.2.1 σ)) (hm : F.2.2.2.2.2.2.2.2.2.2.2.2.2.2.1 = 2) (ok : OkF F prog_1_method_5_code "LastSeen" ({ frames := 3, cells := 0, slots := 0, locals := 67 } : Room)) {Q : Int → SS → Prop} (hQ : RetI F Q) {s : SS} (h : Sp_LS_name  s Q) : AtS F 0 [(0, .ref (F.2.1.1 0))] [] s := by
  unfold Sp_LS_name at h
  refine r_aload_n ok 0 d_LS_name_0 rfl rfl ?_
  refine g_LS_tape ok d_LS_name_1 ?_
  refine r_callSi (As := [.ref (F.2.1.1 2)]) (rest := []) ok wl_LS_111 wt_y_Na_canRead wn_Na wc_y_Na_canRead (by decide) (by decide) hh_Na_canRead (Nat.le_of_ble_eq_true rfl) rfl d_LS_name_4 (L_Na_canRead F.1 F.2.1 F.2.2.1 hD h) (fun r2 s1 h => ?_)
  refine r_if_ne ok 13 d_LS_name_7 (by decide) h.1 (fun c => ?_) (fun c => ?_)
  · replace h := h.2.1 c
    refine r_aload_n ok 0 d_LS_name_13 rfl rfl ?_
    refine g_LS_names ok d_LS_name_14 ?_
    refine r_callVi (As := []) (rest := []) ok 3 rfl rfl rfl wl_LS_115 wi_y_Na_size ws_y_Na_size wn_Na wc_y_Na_size (by decide) (by decide) hh_Na_size (Nat.le_of_ble_eq_true rfl) rfl d_LS_name_17 (L_Na_size F.1 F.2.1 F.2.2.1 hD h) (fun r4 s3 h => ?_)
    refine r_bipush ok 20 d_LS_name_20 (by decide) ?_
    refine r_icmp_ge ok 32 d_LS_name_22 (by decide) h.1 (by decide) (fun c => ?_) (fun c => ?_)
    · replace h := h.2.1 c
      refine r_bipush ok (-4) d_LS_name_32 (by decide) ?_
      exact hQ _ _ _ _ _ (ok_code ok) d_LS_name_34 h
    · replace h := h.2.2 c
      refine r_aload_n ok 0 d_LS_name_25 rfl rfl ?_
      refine r_callVi (As := []) (rest := []) ok 0 rfl rfl rfl wl_LS_119 wi_y_LS_bookIsFull ws_y_LS_bookIsFull wn_LS wc_y_LS_bookIsFull (by decide) (by decide) hh_LS_bookIsFull (Nat.le_of_ble_eq_true rfl) rfl d_LS_name_26 (L_LS_bookIsFull F.1 F.2.1 F.2.2.1 hD h) (fun r6 s5 h => ?_)
      refine r_if_eq ok 35 d_LS_name_29 (by decide) h.1 (fun c => ?_) (fun c => ?_)
      · replace h := h.2.1 c
        refine r_aload_n ok 0 d_LS_name_35 rfl rfl ?_
        refine g_LS_names ok d_LS_name_36 ?_
        refine r_aload_n ok 0 d_LS_name_39 rfl rfl ?_
        refine g_LS_tape ok d_LS_name_40 ?_
        refine r_aload_n ok 0 d_LS_name_43 rfl rfl ?_
        refine g_LS_entries ok d_LS_name_44 ?_
        refine r_callVi (As := [.ref (F.2.1.1 2), vI (s5.1 1)]) (rest := []) ok 3 rfl rfl rfl wl_LS_126 wi_y_Na_enter ws_y_Na_enter wn_Na wc_y_Na_enter (by decide) (by decide) hh_Na_enter (Nat.le_of_ble_eq_true rfl) rfl d_LS_name_47 (L_Na_enter F.1 F.2.1 F.2.2.1 hD h) (fun r8 s7 h => ?_)
        refine r_istore_n ok [(1, vI r8), (0, .ref (F.2.1.1 0))] d_LS_name_50 rfl hm (by decide) rfl ?_
        refine r_aload_n ok 1 d_LS_name_51 rfl rfl ?_
        refine r_dup ok d_LS_name_52 rfl ?_
        refine g_LS_entries ok d_LS_name_53 ?_
        refine r_iconst ok 1 d_LS_name_56 rfl ?_
        refine r_iadd ok d_LS_name_57 ?_
        refine p_LS_entries ok d_LS_name_58 ?_
        replace h := h _ rfl
        generalize sF s7 1 ((s7.1 1) + 1) = s9 at h ⊢
        refine r_aload_n ok 1 d_LS_name_61 rfl rfl ?_
        refine g_LS_tape ok d_LS_name_62 ?_
        refine r_callVv (As := []) (rest := []) ok 2 rfl rfl rfl wl_LS_130 wi_y_Ta_empty ws_y_Ta_empty wn_Ta wc_y_Ta_empty (by decide) (by decide) hh_Ta_empty (Nat.le_of_ble_eq_true rfl) rfl d_LS_name_65 (L_Ta_empty F.1 F.2.1 F.2.2.1 hD h) (fun s10 h => ?_)
        refine r_iload_n ok 0 d_LS_name_68 rfl rfl ?_
        exact hQ _ _ _ _ _ (ok_code ok) d_LS_name_69 h
      · replace h := h.2.2 c
        refine r_bipush ok (-4) d_LS_name_32 (by decide) ?_
        exact hQ _ _ _ _ _ (ok_code ok) d_LS_name_34 h
  · replace h := h.2.2 c
    refine r_bipush ok (-2) d_LS_name_10 (by decide) ?_
    exact hQ _ _ _ _ _ (ok_code ok) d_LS_name_12 h
theorem L_LS_name (l : Launch) (G : GE) (A : Nat → Prop) (hD : ∀ σ, va_D A (GW G σ)) {s : SS} {Q : Int → SS → Prop} (h : Sp_LS_name  s Q) : Met l y_LS_name (Cond.code y_LS_name prog_1_method_5_code 2 (some .int) :: lw_ok) ({ frames := 3, cells := 0, slots := 0, locals := 67 } : Room) (va_Pc [.ref (G.1 0)] (gB G s)) (va_Qi (fun (r : Int32) (s2 : SS) => ∃ x : Int, r = iI x ∧ Q x s2) (fun s2 t => gB G s2 t) A) 0 0 A := by
  refine met_i hD (by decide) ⟨rfl, rfl⟩ (Nat.le_of_ble_eq_true rfl) (lv := [(0, .ref (G.1 0))]) rfl (fun F h1 h2 h3 hm ok hQ => ?_)
  subst h1 h2 h3
  have hDF := hD
  exact K_LS_name_e hDF hm ok hQ h
theorem d_Na_entryOf_0 : decode prog_6_method_3_code 0 = .ok (.aload_n 0, 1) := by decide +kernel
theorem d_Na_entryOf_1 : decode prog_6_method_3_code 1 = .ok (.getfield 18, 3) := by decide +kernel
theorem d_Na_entryOf_4 : decode prog_6_method_3_code 4 = .ok (.iload_n 1, 1) := by decide +kernel
theorem d_Na_entryOf_5 : decode prog_6_method_3_code 5 = .ok (.iaload, 1) := by decide +kernel
theorem d_Na_entryOf_6 : decode prog_6_method_3_code 6 = .ok (.ireturn, 1) := by decide +kernel
set_option maxHeartbeats 4000000 in
set_option maxRecDepth 100000 in
theorem K_Na_entryOf_e {F : FT} (hD : ∀ σ, va_D F.2.2.1 (GW F.2.1 σ)) (hm : F.2.2.2.2.2.2.2.2.2.2.2.2.2.2.1 = 2) (ok : OkF F prog_6_method_3_code "LastSeen$Names" ({ frames := 0, cells := 0, slots := 0, locals := 0 } : Room)) {Q : Int → SS → Prop} (hQ : RetI F Q) {x1 : Int} {s : SS} (h : Sp_Na_entryOf x1 s Q) : AtS F 0 [(0, .ref (F.2.1.1 3)), (1, vI x1)] [] s := by
  unfold Sp_Na_entryOf at h
  refine r_aload_n ok 0 d_Na_entryOf_0 rfl rfl ?_
  refine g_Na_enteredAt ok d_Na_entryOf_1 ?_
  refine r_iload_n ok 1 d_Na_entryOf_4 rfl rfl ?_
  refine r_iald ok 8 d_Na_entryOf_5 (by decide) rfl h.1 ?_
  replace h := h.2
  exact hQ _ _ _ _ _ (ok_code ok) d_Na_entryOf_6 h
theorem L_Na_entryOf (l : Launch) (G : GE) (A : Nat → Prop) (hD : ∀ σ, va_D A (GW G σ)) {x1 : Int} {s : SS} {Q : Int → SS → Prop} (h : Sp_Na_entryOf x1 s Q) : Met l y_Na_entryOf (Cond.code y_Na_entryOf prog_6_method_3_code 2 (some .int) :: lw_ok) ({ frames := 0, cells := 0, slots := 0, locals := 0 } : Room) (va_Pc [.ref (G.1 3), vI x1] (gB G s)) (va_Qi (fun (r : Int32) (s2 : SS) => ∃ x : Int, r = iI x ∧ Q x s2) (fun s2 t => gB G s2 t) A) 0 0 A := by
  refine met_i hD (by decide) ⟨rfl, rfl⟩ (Nat.le_of_ble_eq_true rfl) (lv := [(0, .ref (G.1 3)), (1, vI x1)]) rfl (fun F h1 h2 h3 hm ok hQ => ?_)
  subst h1 h2 h3
  have hDF := hD
  exact K_Na_entryOf_e hDF hm ok hQ h
theorem d_LS_isNameBy_0 : decode prog_1_method_44_code 0 = .ok (.iload_n 1, 1) := by decide +kernel
theorem d_LS_isNameBy_1 : decode prog_1_method_44_code 1 = .ok (.ifCond .lt 30, 3) := by decide +kernel
theorem d_LS_isNameBy_4 : decode prog_1_method_44_code 4 = .ok (.iload_n 1, 1) := by decide +kernel
theorem d_LS_isNameBy_5 : decode prog_1_method_44_code 5 = .ok (.aload_n 0, 1) := by decide +kernel
theorem d_LS_isNameBy_6 : decode prog_1_method_44_code 6 = .ok (.getfield 26, 3) := by decide +kernel
theorem d_LS_isNameBy_9 : decode prog_1_method_44_code 9 = .ok (.invokevirtual 115, 3) := by decide +kernel
theorem d_LS_isNameBy_12 : decode prog_1_method_44_code 12 = .ok (.if_icmp .ge 19, 3) := by decide +kernel
theorem d_LS_isNameBy_15 : decode prog_1_method_44_code 15 = .ok (.aload_n 0, 1) := by decide +kernel
theorem d_LS_isNameBy_16 : decode prog_1_method_44_code 16 = .ok (.getfield 26, 3) := by decide +kernel
theorem d_LS_isNameBy_19 : decode prog_1_method_44_code 19 = .ok (.iload_n 1, 1) := by decide +kernel
theorem d_LS_isNameBy_20 : decode prog_1_method_44_code 20 = .ok (.invokevirtual 373, 3) := by decide +kernel
theorem d_LS_isNameBy_23 : decode prog_1_method_44_code 23 = .ok (.iload_n 2, 1) := by decide +kernel
theorem d_LS_isNameBy_24 : decode prog_1_method_44_code 24 = .ok (.if_icmp .ge 7, 3) := by decide +kernel
theorem d_LS_isNameBy_27 : decode prog_1_method_44_code 27 = .ok (.iconst 1, 1) := by decide +kernel
theorem d_LS_isNameBy_28 : decode prog_1_method_44_code 28 = .ok (.goto 4, 3) := by decide +kernel
theorem d_LS_isNameBy_31 : decode prog_1_method_44_code 31 = .ok (.iconst 0, 1) := by decide +kernel
theorem d_LS_isNameBy_32 : decode prog_1_method_44_code 32 = .ok (.ireturn, 1) := by decide +kernel
set_option maxHeartbeats 4000000 in
set_option maxRecDepth 100000 in
theorem K_LS_isNameBy_e {F : FT} (hD : ∀ σ, va_D F.2.2.1 (GW F.2.1 σ)) (hm : F.2.2.2.2.2.2.2.2.2.2.2.2.2.2.1 = 3) (ok : OkF F prog_1_method_44_code "LastSeen" ({ frames := 1, cells := 0, slots := 0, locals := 21 } : Room)) {Q : Int → SS → Prop} (hQ : RetZ F Q) {x1 x2 : Int} {s : SS} (h : Sp_LS_isNameBy x1 x2 s Q) : AtS F 0 [(0, .ref (F.2.1.1 0)), (1, vI x1), (2, vI x2)] [] s := by
  unfold Sp_LS_isNameBy at h
  refine r_iload_n ok 1 d_LS_isNameBy_0 rfl rfl ?_
  refine r_if_lt ok 31 d_LS_isNameBy_1 (by decide) h.1 (fun c => ?_) (fun c => ?_)
  · replace h := h.2.1 c
    refine r_iconst ok 0 d_LS_isNameBy_31 rfl ?_
    exact hQ _ _ _ _ _ (ok_code ok) d_LS_isNameBy_32 (by decide) h
  · replace h := h.2.2 c
    refine r_iload_n ok 1 d_LS_isNameBy_4 rfl rfl ?_
    refine r_aload_n ok 0 d_LS_isNameBy_5 rfl rfl ?_
    refine g_LS_names ok d_LS_isNameBy_6 ?_
    refine r_callVi (As := []) (rest := [vI x1]) ok 3 rfl rfl rfl wl_LS_115 wi_y_Na_size ws_y_Na_size wn_Na wc_y_Na_size (by decide) (by decide) hh_Na_size (Nat.le_of_ble_eq_true rfl) rfl d_LS_isNameBy_9 (L_Na_size F.1 F.2.1 F.2.2.1 hD h) (fun r2 s1 h => ?_)
    refine r_icmp_ge ok 31 d_LS_isNameBy_12 (by decide) h.1 h.2.1 (fun c => ?_) (fun c => ?_)
    · replace h := h.2.2.1 c
      refine r_iconst ok 0 d_LS_isNameBy_31 rfl ?_
      exact hQ _ _ _ _ _ (ok_code ok) d_LS_isNameBy_32 (by decide) h
    · replace h := h.2.2.2 c
      refine r_aload_n ok 0 d_LS_isNameBy_15 rfl rfl ?_
      refine g_LS_names ok d_LS_isNameBy_16 ?_
      refine r_iload_n ok 1 d_LS_isNameBy_19 rfl rfl ?_
      refine r_callVi (As := [vI x1]) (rest := []) ok 3 rfl rfl rfl wl_LS_373 wi_y_Na_entryOf ws_y_Na_entryOf wn_Na wc_y_Na_entryOf (by decide) (by decide) hh_Na_entryOf (Nat.le_of_ble_eq_true rfl) rfl d_LS_isNameBy_20 (L_Na_entryOf F.1 F.2.1 F.2.2.1 hD h) (fun r4 s3 h => ?_)
      refine r_iload_n ok 2 d_LS_isNameBy_23 rfl rfl ?_
      refine r_icmp_ge ok 31 d_LS_isNameBy_24 (by decide) h.1 h.2.1 (fun c => ?_) (fun c => ?_)
      · replace h := h.2.2.1 c
        refine r_iconst ok 0 d_LS_isNameBy_31 rfl ?_
        exact hQ _ _ _ _ _ (ok_code ok) d_LS_isNameBy_32 (by decide) h
      · replace h := h.2.2.2 c
        refine r_iconst ok 1 d_LS_isNameBy_27 rfl ?_
        refine r_goto ok 32 d_LS_isNameBy_28 (by decide) ?_
        exact hQ _ _ _ _ _ (ok_code ok) d_LS_isNameBy_32 (by decide) h
theorem L_LS_isNameBy (l : Launch) (G : GE) (A : Nat → Prop) (hD : ∀ σ, va_D A (GW G σ)) {x1 x2 : Int} {s : SS} {Q : Int → SS → Prop} (h : Sp_LS_isNameBy x1 x2 s Q) : Met l y_LS_isNameBy (Cond.code y_LS_isNameBy prog_1_method_44_code 3 (some .boolean) :: lw_ok) ({ frames := 1, cells := 0, slots := 0, locals := 21 } : Room) (va_Pc [.ref (G.1 0), vI x1, vI x2] (gB G s)) (va_Qi (fun (r : Int32) (s2 : SS) => ∃ x : Int, r = iI x ∧ Q x s2) (fun s2 t => gB G s2 t) A) 0 0 A := by
  refine met_z hD (by decide) ⟨rfl, rfl⟩ (Nat.le_of_ble_eq_true rfl) (lv := [(0, .ref (G.1 0)), (1, vI x1), (2, vI x2)]) rfl (fun F h1 h2 h3 hm ok hQ => ?_)
  subst h1 h2 h3
  have hDF := hD
  exact K_LS_isNameBy_e hDF hm ok hQ h
theorem d_LS_isName_0 : decode prog_1_method_43_code 0 = .ok (.aload_n 0, 1) := by decide +kernel
theorem d_LS_isName_1 : decode prog_1_method_43_code 1 = .ok (.iload_n 1, 1) := by decide +kernel
theorem d_LS_isName_2 : decode prog_1_method_43_code 2 = .ok (.aload_n 0, 1) := by decide +kernel
theorem d_LS_isName_3 : decode prog_1_method_43_code 3 = .ok (.getfield 122, 3) := by decide +kernel
theorem d_LS_isName_6 : decode prog_1_method_43_code 6 = .ok (.invokevirtual 149, 3) := by decide +kernel
theorem d_LS_isName_9 : decode prog_1_method_43_code 9 = .ok (.ireturn, 1) := by decide +kernel
set_option maxHeartbeats 4000000 in
set_option maxRecDepth 100000 in
theorem K_LS_isName_e {F : FT} (hD : ∀ σ, va_D F.2.2.1 (GW F.2.1 σ)) (hm : F.2.2.2.2.2.2.2.2.2.2.2.2.2.2.1 = 2) (ok : OkF F prog_1_method_43_code "LastSeen" ({ frames := 2, cells := 0, slots := 0, locals := 43 } : Room)) {Q : Int → SS → Prop} (hQ : RetZ F Q) {x1 : Int} {s : SS} (h : Sp_LS_isName x1 s Q) : AtS F 0 [(0, .ref (F.2.1.1 0)), (1, vI x1)] [] s := by
  unfold Sp_LS_isName at h
  refine r_aload_n ok 0 d_LS_isName_0 rfl rfl ?_
  refine r_iload_n ok 1 d_LS_isName_1 rfl rfl ?_
  refine r_aload_n ok 0 d_LS_isName_2 rfl rfl ?_
  refine g_LS_entries ok d_LS_isName_3 ?_
  refine r_callVi (As := [vI x1, vI (s.1 1)]) (rest := []) ok 0 rfl rfl rfl wl_LS_149 wi_y_LS_isNameBy ws_y_LS_isNameBy wn_LS wc_y_LS_isNameBy (by decide) (by decide) hh_LS_isNameBy (Nat.le_of_ble_eq_true rfl) rfl d_LS_isName_6 (L_LS_isNameBy F.1 F.2.1 F.2.2.1 hD h) (fun r2 s1 h => ?_)
  exact hQ _ _ _ _ _ (ok_code ok) d_LS_isName_9 h.1 h.2
theorem L_LS_isName (l : Launch) (G : GE) (A : Nat → Prop) (hD : ∀ σ, va_D A (GW G σ)) {x1 : Int} {s : SS} {Q : Int → SS → Prop} (h : Sp_LS_isName x1 s Q) : Met l y_LS_isName (Cond.code y_LS_isName prog_1_method_43_code 2 (some .boolean) :: lw_ok) ({ frames := 2, cells := 0, slots := 0, locals := 43 } : Room) (va_Pc [.ref (G.1 0), vI x1] (gB G s)) (va_Qi (fun (r : Int32) (s2 : SS) => ∃ x : Int, r = iI x ∧ Q x s2) (fun s2 t => gB G s2 t) A) 0 0 A := by
  refine met_z hD (by decide) ⟨rfl, rfl⟩ (Nat.le_of_ble_eq_true rfl) (lv := [(0, .ref (G.1 0)), (1, vI x1)]) rfl (fun F h1 h2 h3 hm ok hQ => ?_)
  subst h1 h2 h3
  have hDF := hD
  exact K_LS_isName_e hDF hm ok hQ h
theorem d_Na_keySize_0 : decode prog_6_method_4_code 0 = .ok (.aload_n 0, 1) := by decide +kernel
theorem d_Na_keySize_1 : decode prog_6_method_4_code 1 = .ok (.getfield 15, 3) := by decide +kernel
theorem d_Na_keySize_4 : decode prog_6_method_4_code 4 = .ok (.iload_n 1, 1) := by decide +kernel
theorem d_Na_keySize_5 : decode prog_6_method_4_code 5 = .ok (.iaload, 1) := by decide +kernel
theorem d_Na_keySize_6 : decode prog_6_method_4_code 6 = .ok (.ireturn, 1) := by decide +kernel
set_option maxHeartbeats 4000000 in
set_option maxRecDepth 100000 in
theorem K_Na_keySize_e {F : FT} (hD : ∀ σ, va_D F.2.2.1 (GW F.2.1 σ)) (hm : F.2.2.2.2.2.2.2.2.2.2.2.2.2.2.1 = 2) (ok : OkF F prog_6_method_4_code "LastSeen$Names" ({ frames := 0, cells := 0, slots := 0, locals := 0 } : Room)) {Q : Int → SS → Prop} (hQ : RetI F Q) {x1 : Int} {s : SS} (h : Sp_Na_keySize x1 s Q) : AtS F 0 [(0, .ref (F.2.1.1 3)), (1, vI x1)] [] s := by
  unfold Sp_Na_keySize at h
  refine r_aload_n ok 0 d_Na_keySize_0 rfl rfl ?_
  refine g_Na_keySizes ok d_Na_keySize_1 ?_
  refine r_iload_n ok 1 d_Na_keySize_4 rfl rfl ?_
  refine r_iald ok 7 d_Na_keySize_5 (by decide) rfl h.1 ?_
  replace h := h.2
  exact hQ _ _ _ _ _ (ok_code ok) d_Na_keySize_6 h
theorem L_Na_keySize (l : Launch) (G : GE) (A : Nat → Prop) (hD : ∀ σ, va_D A (GW G σ)) {x1 : Int} {s : SS} {Q : Int → SS → Prop} (h : Sp_Na_keySize x1 s Q) : Met l y_Na_keySize (Cond.code y_Na_keySize prog_6_method_4_code 2 (some .int) :: lw_ok) ({ frames := 0, cells := 0, slots := 0, locals := 0 } : Room) (va_Pc [.ref (G.1 3), vI x1] (gB G s)) (va_Qi (fun (r : Int32) (s2 : SS) => ∃ x : Int, r = iI x ∧ Q x s2) (fun s2 t => gB G s2 t) A) 0 0 A := by
  refine met_i hD (by decide) ⟨rfl, rfl⟩ (Nat.le_of_ble_eq_true rfl) (lv := [(0, .ref (G.1 3)), (1, vI x1)]) rfl (fun F h1 h2 h3 hm ok hQ => ?_)
  subst h1 h2 h3
  have hDF := hD
  exact K_Na_keySize_e hDF hm ok hQ h
theorem d_Na_keyLetter_0 : decode prog_6_method_5_code 0 = .ok (.aload_n 0, 1) := by decide +kernel
theorem d_Na_keyLetter_1 : decode prog_6_method_5_code 1 = .ok (.getfield 11, 3) := by decide +kernel
theorem d_Na_keyLetter_4 : decode prog_6_method_5_code 4 = .ok (.iload_n 1, 1) := by decide +kernel
theorem d_Na_keyLetter_5 : decode prog_6_method_5_code 5 = .ok (.bipush 12, 2) := by decide +kernel
theorem d_Na_keyLetter_7 : decode prog_6_method_5_code 7 = .ok (.imul, 1) := by decide +kernel
theorem d_Na_keyLetter_8 : decode prog_6_method_5_code 8 = .ok (.iload_n 2, 1) := by decide +kernel
theorem d_Na_keyLetter_9 : decode prog_6_method_5_code 9 = .ok (.iadd, 1) := by decide +kernel
theorem d_Na_keyLetter_10 : decode prog_6_method_5_code 10 = .ok (.iaload, 1) := by decide +kernel
theorem d_Na_keyLetter_11 : decode prog_6_method_5_code 11 = .ok (.bipush 97, 2) := by decide +kernel
theorem d_Na_keyLetter_13 : decode prog_6_method_5_code 13 = .ok (.isub, 1) := by decide +kernel
theorem d_Na_keyLetter_14 : decode prog_6_method_5_code 14 = .ok (.ireturn, 1) := by decide +kernel
set_option maxHeartbeats 4000000 in
set_option maxRecDepth 100000 in
theorem K_Na_keyLetter_e {F : FT} (hD : ∀ σ, va_D F.2.2.1 (GW F.2.1 σ)) (hm : F.2.2.2.2.2.2.2.2.2.2.2.2.2.2.1 = 3) (ok : OkF F prog_6_method_5_code "LastSeen$Names" ({ frames := 0, cells := 0, slots := 0, locals := 0 } : Room)) {Q : Int → SS → Prop} (hQ : RetI F Q) {x1 x2 : Int} {s : SS} (h : Sp_Na_keyLetter x1 x2 s Q) : AtS F 0 [(0, .ref (F.2.1.1 3)), (1, vI x1), (2, vI x2)] [] s := by
  unfold Sp_Na_keyLetter at h
  refine r_aload_n ok 0 d_Na_keyLetter_0 rfl rfl ?_
  refine g_Na_letters ok d_Na_keyLetter_1 ?_
  refine r_iload_n ok 1 d_Na_keyLetter_4 rfl rfl ?_
  refine r_bipush ok 12 d_Na_keyLetter_5 (by decide) ?_
  refine r_imul ok d_Na_keyLetter_7 ?_
  refine r_iload_n ok 2 d_Na_keyLetter_8 rfl rfl ?_
  refine r_iadd ok d_Na_keyLetter_9 ?_
  refine r_iald ok 6 d_Na_keyLetter_10 (by decide) rfl h.1 ?_
  replace h := h.2
  refine r_bipush ok 97 d_Na_keyLetter_11 (by decide) ?_
  refine r_isub ok d_Na_keyLetter_13 ?_
  exact hQ _ _ _ _ _ (ok_code ok) d_Na_keyLetter_14 h
theorem L_Na_keyLetter (l : Launch) (G : GE) (A : Nat → Prop) (hD : ∀ σ, va_D A (GW G σ)) {x1 x2 : Int} {s : SS} {Q : Int → SS → Prop} (h : Sp_Na_keyLetter x1 x2 s Q) : Met l y_Na_keyLetter (Cond.code y_Na_keyLetter prog_6_method_5_code 3 (some .int) :: lw_ok) ({ frames := 0, cells := 0, slots := 0, locals := 0 } : Room) (va_Pc [.ref (G.1 3), vI x1, vI x2] (gB G s)) (va_Qi (fun (r : Int32) (s2 : SS) => ∃ x : Int, r = iI x ∧ Q x s2) (fun s2 t => gB G s2 t) A) 0 0 A := by
  refine met_i hD (by decide) ⟨rfl, rfl⟩ (Nat.le_of_ble_eq_true rfl) (lv := [(0, .ref (G.1 3)), (1, vI x1), (2, vI x2)]) rfl (fun F h1 h2 h3 hm ok hQ => ?_)
  subst h1 h2 h3
  have hDF := hD
  exact K_Na_keyLetter_e hDF hm ok hQ h
theorem d_LS_key_0 : decode prog_1_method_6_code 0 = .ok (.aload_n 0, 1) := by decide +kernel
theorem d_LS_key_1 : decode prog_1_method_6_code 1 = .ok (.iload_n 1, 1) := by decide +kernel
theorem d_LS_key_2 : decode prog_1_method_6_code 2 = .ok (.invokevirtual 133, 3) := by decide +kernel
theorem d_LS_key_5 : decode prog_1_method_6_code 5 = .ok (.ifCond .ne 6, 3) := by decide +kernel
theorem d_LS_key_8 : decode prog_1_method_6_code 8 = .ok (.bipush (-5), 2) := by decide +kernel
theorem d_LS_key_10 : decode prog_1_method_6_code 10 = .ok (.ireturn, 1) := by decide +kernel
theorem d_LS_key_11 : decode prog_1_method_6_code 11 = .ok (.aload_n 0, 1) := by decide +kernel
theorem d_LS_key_12 : decode prog_1_method_6_code 12 = .ok (.getfield 26, 3) := by decide +kernel
theorem d_LS_key_15 : decode prog_1_method_6_code 15 = .ok (.iload_n 1, 1) := by decide +kernel
theorem d_LS_key_16 : decode prog_1_method_6_code 16 = .ok (.invokevirtual 136, 3) := by decide +kernel
theorem d_LS_key_19 : decode prog_1_method_6_code 19 = .ok (.istore_n 3, 1) := by decide +kernel
theorem d_LS_key_20 : decode prog_1_method_6_code 20 = .ok (.iload_n 2, 1) := by decide +kernel
theorem d_LS_key_21 : decode prog_1_method_6_code 21 = .ok (.iconst (-1), 1) := by decide +kernel
theorem d_LS_key_22 : decode prog_1_method_6_code 22 = .ok (.if_icmp .ne 5, 3) := by decide +kernel
theorem d_LS_key_25 : decode prog_1_method_6_code 25 = .ok (.iload_n 3, 1) := by decide +kernel
theorem d_LS_key_26 : decode prog_1_method_6_code 26 = .ok (.ireturn, 1) := by decide +kernel
theorem d_LS_key_27 : decode prog_1_method_6_code 27 = .ok (.iload_n 2, 1) := by decide +kernel
theorem d_LS_key_28 : decode prog_1_method_6_code 28 = .ok (.ifCond .lt 8, 3) := by decide +kernel
theorem d_LS_key_31 : decode prog_1_method_6_code 31 = .ok (.iload_n 2, 1) := by decide +kernel
theorem d_LS_key_32 : decode prog_1_method_6_code 32 = .ok (.iload_n 3, 1) := by decide +kernel
theorem d_LS_key_33 : decode prog_1_method_6_code 33 = .ok (.if_icmp .lt 6, 3) := by decide +kernel
theorem d_LS_key_36 : decode prog_1_method_6_code 36 = .ok (.bipush (-5), 2) := by decide +kernel
theorem d_LS_key_38 : decode prog_1_method_6_code 38 = .ok (.ireturn, 1) := by decide +kernel
theorem d_LS_key_39 : decode prog_1_method_6_code 39 = .ok (.aload_n 0, 1) := by decide +kernel
theorem d_LS_key_40 : decode prog_1_method_6_code 40 = .ok (.getfield 26, 3) := by decide +kernel
theorem d_LS_key_43 : decode prog_1_method_6_code 43 = .ok (.iload_n 1, 1) := by decide +kernel
theorem d_LS_key_44 : decode prog_1_method_6_code 44 = .ok (.iload_n 2, 1) := by decide +kernel
theorem d_LS_key_45 : decode prog_1_method_6_code 45 = .ok (.invokevirtual 140, 3) := by decide +kernel
theorem d_LS_key_48 : decode prog_1_method_6_code 48 = .ok (.ireturn, 1) := by decide +kernel
set_option maxHeartbeats 4000000 in
set_option maxRecDepth 100000 in
theorem K_LS_key_e {F : FT} (hD : ∀ σ, va_D F.2.2.1 (GW F.2.1 σ)) (hm : F.2.2.2.2.2.2.2.2.2.2.2.2.2.2.1 = 4) (ok : OkF F prog_1_method_6_code "LastSeen" ({ frames := 3, cells := 0, slots := 0, locals := 64 } : Room)) {Q : Int → SS → Prop} (hQ : RetI F Q) {x1 x2 : Int} {s : SS} (h : Sp_LS_key x1 x2 s Q) : AtS F 0 [(0, .ref (F.2.1.1 0)), (1, vI x1), (2, vI x2)] [] s := by
  unfold Sp_LS_key at h
  refine r_aload_n ok 0 d_LS_key_0 rfl rfl ?_
  refine r_iload_n ok 1 d_LS_key_1 rfl rfl ?_
  refine r_callVi (As := [vI x1]) (rest := []) ok 0 rfl rfl rfl wl_LS_133 wi_y_LS_isName ws_y_LS_isName wn_LS wc_y_LS_isName (by decide) (by decide) hh_LS_isName (Nat.le_of_ble_eq_true rfl) rfl d_LS_key_2 (L_LS_isName F.1 F.2.1 F.2.2.1 hD h) (fun r2 s1 h => ?_)
  refine r_if_ne ok 11 d_LS_key_5 (by decide) h.1 (fun c => ?_) (fun c => ?_)
  · replace h := h.2.1 c
    refine r_aload_n ok 0 d_LS_key_11 rfl rfl ?_
    refine g_LS_names ok d_LS_key_12 ?_
    refine r_iload_n ok 1 d_LS_key_15 rfl rfl ?_
    refine r_callVi (As := [vI x1]) (rest := []) ok 3 rfl rfl rfl wl_LS_136 wi_y_Na_keySize ws_y_Na_keySize wn_Na wc_y_Na_keySize (by decide) (by decide) hh_Na_keySize (Nat.le_of_ble_eq_true rfl) rfl d_LS_key_16 (L_Na_keySize F.1 F.2.1 F.2.2.1 hD h) (fun r4 s3 h => ?_)
    refine r_istore_n ok [(3, vI r4), (0, .ref (F.2.1.1 0)), (1, vI x1), (2, vI x2)] d_LS_key_19 rfl hm (by decide) rfl ?_
    refine r_iload_n ok 3 d_LS_key_20 rfl rfl ?_
    refine r_iconst ok (-1) d_LS_key_21 rfl ?_
    refine r_icmp_ne ok 27 d_LS_key_22 (by decide) h.1 (by decide) (fun c => ?_) (fun c => ?_)
    · replace h := h.2.1 c
      refine r_iload_n ok 3 d_LS_key_27 rfl rfl ?_
      refine r_if_lt ok 36 d_LS_key_28 (by decide) h.1 (fun c => ?_) (fun c => ?_)
      · replace h := h.2.1 c
        refine r_bipush ok (-5) d_LS_key_36 (by decide) ?_
        exact hQ _ _ _ _ _ (ok_code ok) d_LS_key_38 h
      · replace h := h.2.2 c
        refine r_iload_n ok 3 d_LS_key_31 rfl rfl ?_
        refine r_iload_n ok 0 d_LS_key_32 rfl rfl ?_
        refine r_icmp_lt ok 39 d_LS_key_33 (by decide) h.1 h.2.1 (fun c => ?_) (fun c => ?_)
        · replace h := h.2.2.1 c
          refine r_aload_n ok 1 d_LS_key_39 rfl rfl ?_
          refine g_LS_names ok d_LS_key_40 ?_
          refine r_iload_n ok 2 d_LS_key_43 rfl rfl ?_
          refine r_iload_n ok 3 d_LS_key_44 rfl rfl ?_
          refine r_callVi (As := [vI x1, vI x2]) (rest := []) ok 3 rfl rfl rfl wl_LS_140 wi_y_Na_keyLetter ws_y_Na_keyLetter wn_Na wc_y_Na_keyLetter (by decide) (by decide) hh_Na_keyLetter (Nat.le_of_ble_eq_true rfl) rfl d_LS_key_45 (L_Na_keyLetter F.1 F.2.1 F.2.2.1 hD h) (fun r6 s5 h => ?_)
          exact hQ _ _ _ _ _ (ok_code ok) d_LS_key_48 h
        · replace h := h.2.2.2 c
          refine r_bipush ok (-5) d_LS_key_36 (by decide) ?_
          exact hQ _ _ _ _ _ (ok_code ok) d_LS_key_38 h
    · replace h := h.2.2 c
      refine r_iload_n ok 0 d_LS_key_25 rfl rfl ?_
      exact hQ _ _ _ _ _ (ok_code ok) d_LS_key_26 h
  · replace h := h.2.2 c
    refine r_bipush ok (-5) d_LS_key_8 (by decide) ?_
    exact hQ _ _ _ _ _ (ok_code ok) d_LS_key_10 h
theorem L_LS_key (l : Launch) (G : GE) (A : Nat → Prop) (hD : ∀ σ, va_D A (GW G σ)) {x1 x2 : Int} {s : SS} {Q : Int → SS → Prop} (h : Sp_LS_key x1 x2 s Q) : Met l y_LS_key (Cond.code y_LS_key prog_1_method_6_code 4 (some .int) :: lw_ok) ({ frames := 3, cells := 0, slots := 0, locals := 64 } : Room) (va_Pc [.ref (G.1 0), vI x1, vI x2] (gB G s)) (va_Qi (fun (r : Int32) (s2 : SS) => ∃ x : Int, r = iI x ∧ Q x s2) (fun s2 t => gB G s2 t) A) 0 0 A := by
  refine met_i hD (by decide) ⟨rfl, rfl⟩ (Nat.le_of_ble_eq_true rfl) (lv := [(0, .ref (G.1 0)), (1, vI x1), (2, vI x2)]) rfl (fun F h1 h2 h3 hm ok hQ => ?_)
  subst h1 h2 h3
  have hDF := hD
  exact K_LS_key_e hDF hm ok hQ h
theorem d_Na_decree_0 : decode prog_6_method_14_code 0 = .ok (.aload_n 0, 1) := by decide +kernel
theorem d_Na_decree_1 : decode prog_6_method_14_code 1 = .ok (.getfield 21, 3) := by decide +kernel
theorem d_Na_decree_4 : decode prog_6_method_14_code 4 = .ok (.aload_n 0, 1) := by decide +kernel
theorem d_Na_decree_5 : decode prog_6_method_14_code 5 = .ok (.getfield 86, 3) := by decide +kernel
theorem d_Na_decree_8 : decode prog_6_method_14_code 8 = .ok (.iload_n 1, 1) := by decide +kernel
theorem d_Na_decree_9 : decode prog_6_method_14_code 9 = .ok (.iastore, 1) := by decide +kernel
theorem d_Na_decree_10 : decode prog_6_method_14_code 10 = .ok (.aload_n 0, 1) := by decide +kernel
theorem d_Na_decree_11 : decode prog_6_method_14_code 11 = .ok (.getfield 24, 3) := by decide +kernel
theorem d_Na_decree_14 : decode prog_6_method_14_code 14 = .ok (.aload_n 0, 1) := by decide +kernel
theorem d_Na_decree_15 : decode prog_6_method_14_code 15 = .ok (.getfield 86, 3) := by decide +kernel
theorem d_Na_decree_18 : decode prog_6_method_14_code 18 = .ok (.iload_n 2, 1) := by decide +kernel
theorem d_Na_decree_19 : decode prog_6_method_14_code 19 = .ok (.iastore, 1) := by decide +kernel
theorem d_Na_decree_20 : decode prog_6_method_14_code 20 = .ok (.aload_n 0, 1) := by decide +kernel
theorem d_Na_decree_21 : decode prog_6_method_14_code 21 = .ok (.getfield 27, 3) := by decide +kernel
theorem d_Na_decree_24 : decode prog_6_method_14_code 24 = .ok (.aload_n 0, 1) := by decide +kernel
theorem d_Na_decree_25 : decode prog_6_method_14_code 25 = .ok (.getfield 86, 3) := by decide +kernel
theorem d_Na_decree_28 : decode prog_6_method_14_code 28 = .ok (.iload_n 3, 1) := by decide +kernel
theorem d_Na_decree_29 : decode prog_6_method_14_code 29 = .ok (.iastore, 1) := by decide +kernel
theorem d_Na_decree_30 : decode prog_6_method_14_code 30 = .ok (.aload_n 0, 1) := by decide +kernel
theorem d_Na_decree_31 : decode prog_6_method_14_code 31 = .ok (.getfield 30, 3) := by decide +kernel
theorem d_Na_decree_34 : decode prog_6_method_14_code 34 = .ok (.aload_n 0, 1) := by decide +kernel
theorem d_Na_decree_35 : decode prog_6_method_14_code 35 = .ok (.getfield 86, 3) := by decide +kernel
theorem d_Na_decree_38 : decode prog_6_method_14_code 38 = .ok (.iload 4, 2) := by decide +kernel
theorem d_Na_decree_40 : decode prog_6_method_14_code 40 = .ok (.iastore, 1) := by decide +kernel
theorem d_Na_decree_41 : decode prog_6_method_14_code 41 = .ok (.aload_n 0, 1) := by decide +kernel
theorem d_Na_decree_42 : decode prog_6_method_14_code 42 = .ok (.dup, 1) := by decide +kernel
theorem d_Na_decree_43 : decode prog_6_method_14_code 43 = .ok (.getfield 86, 3) := by decide +kernel
theorem d_Na_decree_46 : decode prog_6_method_14_code 46 = .ok (.iconst 1, 1) := by decide +kernel
theorem d_Na_decree_47 : decode prog_6_method_14_code 47 = .ok (.iadd, 1) := by decide +kernel
theorem d_Na_decree_48 : decode prog_6_method_14_code 48 = .ok (.putfield 86, 3) := by decide +kernel
theorem d_Na_decree_51 : decode prog_6_method_14_code 51 = .ok (.return_, 1) := by decide +kernel
set_option maxHeartbeats 4000000 in
set_option maxRecDepth 100000 in
theorem K_Na_decree_e {F : FT} (hD : ∀ σ, va_D F.2.2.1 (GW F.2.1 σ)) (hm : F.2.2.2.2.2.2.2.2.2.2.2.2.2.2.1 = 5) (ok : OkF F prog_6_method_14_code "LastSeen$Names" ({ frames := 0, cells := 0, slots := 0, locals := 0 } : Room)) {Q : SS → Prop} (hQ : RetV F Q) {x1 x2 x3 x4 : Int} {s : SS} (h : Sp_Na_decree x1 x2 x3 x4 s Q) : AtS F 0 [(0, .ref (F.2.1.1 3)), (1, vI x1), (2, vI x2), (3, vI x3), (4, vI x4)] [] s := by
  unfold Sp_Na_decree at h
  refine r_aload_n ok 0 d_Na_decree_0 rfl rfl ?_
  refine g_Na_decreeA ok d_Na_decree_1 ?_
  refine r_aload_n ok 0 d_Na_decree_4 rfl rfl ?_
  refine g_Na_decrees ok d_Na_decree_5 ?_
  refine r_iload_n ok 1 d_Na_decree_8 rfl rfl ?_
  refine r_iast ok 9 d_Na_decree_9 (by decide) rfl h.1 ?_
  replace h := h.2 _ rfl
  generalize sA s 9 (s.1 5) x1 = s1 at h ⊢
  refine r_aload_n ok 0 d_Na_decree_10 rfl rfl ?_
  refine g_Na_decreeB ok d_Na_decree_11 ?_
  refine r_aload_n ok 0 d_Na_decree_14 rfl rfl ?_
  refine g_Na_decrees ok d_Na_decree_15 ?_
  refine r_iload_n ok 2 d_Na_decree_18 rfl rfl ?_
  refine r_iast ok 10 d_Na_decree_19 (by decide) rfl h.1 ?_
  replace h := h.2 _ rfl
  generalize sA s1 10 (s1.1 5) x2 = s2 at h ⊢
  refine r_aload_n ok 0 d_Na_decree_20 rfl rfl ?_
  refine g_Na_decreeBond ok d_Na_decree_21 ?_
  refine r_aload_n ok 0 d_Na_decree_24 rfl rfl ?_
  refine g_Na_decrees ok d_Na_decree_25 ?_
  refine r_iload_n ok 3 d_Na_decree_28 rfl rfl ?_
  refine r_iast ok 11 d_Na_decree_29 (by decide) rfl h.1 ?_
  replace h := h.2 _ rfl
  generalize sA s2 11 (s2.1 5) x3 = s3 at h ⊢
  refine r_aload_n ok 0 d_Na_decree_30 rfl rfl ?_
  refine g_Na_decreedAt ok d_Na_decree_31 ?_
  refine r_aload_n ok 0 d_Na_decree_34 rfl rfl ?_
  refine g_Na_decrees ok d_Na_decree_35 ?_
  refine r_iload ok 4 d_Na_decree_38 rfl ?_
  refine r_iast ok 12 d_Na_decree_40 (by decide) rfl h.1 ?_
  replace h := h.2 _ rfl
  generalize sA s3 12 (s3.1 5) x4 = s4 at h ⊢
  refine r_aload_n ok 0 d_Na_decree_41 rfl rfl ?_
  refine r_dup ok d_Na_decree_42 rfl ?_
  refine g_Na_decrees ok d_Na_decree_43 ?_
  refine r_iconst ok 1 d_Na_decree_46 rfl ?_
  refine r_iadd ok d_Na_decree_47 ?_
  refine p_Na_decrees ok d_Na_decree_48 ?_
  replace h := h _ rfl
  generalize sF s4 5 ((s4.1 5) + 1) = s5 at h ⊢
  exact hQ _ _ _ _ (ok_code ok) d_Na_decree_51 h
theorem L_Na_decree (l : Launch) (G : GE) (A : Nat → Prop) (hD : ∀ σ, va_D A (GW G σ)) {x1 x2 x3 x4 : Int} {s : SS} {Q : SS → Prop} (h : Sp_Na_decree x1 x2 x3 x4 s Q) : Met l y_Na_decree (Cond.code y_Na_decree prog_6_method_14_code 5 (none) :: lw_ok) ({ frames := 0, cells := 0, slots := 0, locals := 0 } : Room) (va_Pc [.ref (G.1 3), vI x1, vI x2, vI x3, vI x4] (gB G s)) (va_Qv (fun (s2 : SS) => Q s2) (fun s2 t => gB G s2 t) A) 0 0 A := by
  refine met_v hD (by decide) ⟨rfl, rfl⟩ (Nat.le_of_ble_eq_true rfl) (lv := [(0, .ref (G.1 3)), (1, vI x1), (2, vI x2), (3, vI x3), (4, vI x4)]) rfl (fun F h1 h2 h3 hm ok hQ => ?_)
  subst h1 h2 h3
  have hDF := hD
  exact K_Na_decree_e hDF hm ok hQ h
theorem d_LS_decree_0 : decode prog_1_method_47_code 0 = .ok (.aload_n 0, 1) := by decide +kernel
theorem d_LS_decree_1 : decode prog_1_method_47_code 1 = .ok (.iload_n 1, 1) := by decide +kernel
theorem d_LS_decree_2 : decode prog_1_method_47_code 2 = .ok (.invokevirtual 133, 3) := by decide +kernel
theorem d_LS_decree_5 : decode prog_1_method_47_code 5 = .ok (.ifCond .eq 11, 3) := by decide +kernel
theorem d_LS_decree_8 : decode prog_1_method_47_code 8 = .ok (.aload_n 0, 1) := by decide +kernel
theorem d_LS_decree_9 : decode prog_1_method_47_code 9 = .ok (.iload_n 2, 1) := by decide +kernel
theorem d_LS_decree_10 : decode prog_1_method_47_code 10 = .ok (.invokevirtual 133, 3) := by decide +kernel
theorem d_LS_decree_13 : decode prog_1_method_47_code 13 = .ok (.ifCond .ne 5, 3) := by decide +kernel
theorem d_LS_decree_16 : decode prog_1_method_47_code 16 = .ok (.iconst (-1), 1) := by decide +kernel
theorem d_LS_decree_17 : decode prog_1_method_47_code 17 = .ok (.ireturn, 1) := by decide +kernel
theorem d_LS_decree_18 : decode prog_1_method_47_code 18 = .ok (.iload_n 1, 1) := by decide +kernel
theorem d_LS_decree_19 : decode prog_1_method_47_code 19 = .ok (.iload_n 2, 1) := by decide +kernel
theorem d_LS_decree_20 : decode prog_1_method_47_code 20 = .ok (.if_icmp .ne 6, 3) := by decide +kernel
theorem d_LS_decree_23 : decode prog_1_method_47_code 23 = .ok (.bipush (-2), 2) := by decide +kernel
theorem d_LS_decree_25 : decode prog_1_method_47_code 25 = .ok (.ireturn, 1) := by decide +kernel
theorem d_LS_decree_26 : decode prog_1_method_47_code 26 = .ok (.aload_n 0, 1) := by decide +kernel
theorem d_LS_decree_27 : decode prog_1_method_47_code 27 = .ok (.invokevirtual 119, 3) := by decide +kernel
theorem d_LS_decree_30 : decode prog_1_method_47_code 30 = .ok (.ifCond .eq 6, 3) := by decide +kernel
theorem d_LS_decree_33 : decode prog_1_method_47_code 33 = .ok (.bipush (-4), 2) := by decide +kernel
theorem d_LS_decree_35 : decode prog_1_method_47_code 35 = .ok (.ireturn, 1) := by decide +kernel
theorem d_LS_decree_36 : decode prog_1_method_47_code 36 = .ok (.aload_n 0, 1) := by decide +kernel
theorem d_LS_decree_37 : decode prog_1_method_47_code 37 = .ok (.getfield 26, 3) := by decide +kernel
theorem d_LS_decree_40 : decode prog_1_method_47_code 40 = .ok (.iload_n 1, 1) := by decide +kernel
theorem d_LS_decree_41 : decode prog_1_method_47_code 41 = .ok (.iload_n 2, 1) := by decide +kernel
theorem d_LS_decree_42 : decode prog_1_method_47_code 42 = .ok (.iload_n 3, 1) := by decide +kernel
theorem d_LS_decree_43 : decode prog_1_method_47_code 43 = .ok (.aload_n 0, 1) := by decide +kernel
theorem d_LS_decree_44 : decode prog_1_method_47_code 44 = .ok (.getfield 122, 3) := by decide +kernel
theorem d_LS_decree_47 : decode prog_1_method_47_code 47 = .ok (.invokevirtual 377, 3) := by decide +kernel
theorem d_LS_decree_50 : decode prog_1_method_47_code 50 = .ok (.aload_n 0, 1) := by decide +kernel
theorem d_LS_decree_51 : decode prog_1_method_47_code 51 = .ok (.dup, 1) := by decide +kernel
theorem d_LS_decree_52 : decode prog_1_method_47_code 52 = .ok (.getfield 122, 3) := by decide +kernel
theorem d_LS_decree_55 : decode prog_1_method_47_code 55 = .ok (.iconst 1, 1) := by decide +kernel
theorem d_LS_decree_56 : decode prog_1_method_47_code 56 = .ok (.iadd, 1) := by decide +kernel
theorem d_LS_decree_57 : decode prog_1_method_47_code 57 = .ok (.putfield 122, 3) := by decide +kernel
theorem d_LS_decree_60 : decode prog_1_method_47_code 60 = .ok (.aload_n 0, 1) := by decide +kernel
theorem d_LS_decree_61 : decode prog_1_method_47_code 61 = .ok (.getfield 122, 3) := by decide +kernel
theorem d_LS_decree_64 : decode prog_1_method_47_code 64 = .ok (.ireturn, 1) := by decide +kernel
set_option maxHeartbeats 4000000 in
set_option maxRecDepth 100000 in
theorem K_LS_decree_e {F : FT} (hD : ∀ σ, va_D F.2.2.1 (GW F.2.1 σ)) (hm : F.2.2.2.2.2.2.2.2.2.2.2.2.2.2.1 = 4) (ok : OkF F prog_1_method_47_code "LastSeen" ({ frames := 3, cells := 0, slots := 0, locals := 64 } : Room)) {Q : Int → SS → Prop} (hQ : RetI F Q) {x1 x2 x3 : Int} {s : SS} (h : Sp_LS_decree x1 x2 x3 s Q) : AtS F 0 [(0, .ref (F.2.1.1 0)), (1, vI x1), (2, vI x2), (3, vI x3)] [] s := by
  unfold Sp_LS_decree at h
  refine r_aload_n ok 0 d_LS_decree_0 rfl rfl ?_
  refine r_iload_n ok 1 d_LS_decree_1 rfl rfl ?_
  refine r_callVi (As := [vI x1]) (rest := []) ok 0 rfl rfl rfl wl_LS_133 wi_y_LS_isName ws_y_LS_isName wn_LS wc_y_LS_isName (by decide) (by decide) hh_LS_isName (Nat.le_of_ble_eq_true rfl) rfl d_LS_decree_2 (L_LS_isName F.1 F.2.1 F.2.2.1 hD h) (fun r2 s1 h => ?_)
  refine r_if_eq ok 16 d_LS_decree_5 (by decide) h.1 (fun c => ?_) (fun c => ?_)
  · replace h := h.2.1 c
    refine r_iconst ok (-1) d_LS_decree_16 rfl ?_
    exact hQ _ _ _ _ _ (ok_code ok) d_LS_decree_17 h
  · replace h := h.2.2 c
    refine r_aload_n ok 0 d_LS_decree_8 rfl rfl ?_
    refine r_iload_n ok 2 d_LS_decree_9 rfl rfl ?_
    refine r_callVi (As := [vI x2]) (rest := []) ok 0 rfl rfl rfl wl_LS_133 wi_y_LS_isName ws_y_LS_isName wn_LS wc_y_LS_isName (by decide) (by decide) hh_LS_isName (Nat.le_of_ble_eq_true rfl) rfl d_LS_decree_10 (L_LS_isName F.1 F.2.1 F.2.2.1 hD h) (fun r4 s3 h => ?_)
    refine r_if_ne ok 18 d_LS_decree_13 (by decide) h.1 (fun c => ?_) (fun c => ?_)
    · replace h := h.2.1 c
      refine r_iload_n ok 1 d_LS_decree_18 rfl rfl ?_
      refine r_iload_n ok 2 d_LS_decree_19 rfl rfl ?_
      refine r_icmp_ne ok 26 d_LS_decree_20 (by decide) h.1 h.2.1 (fun c => ?_) (fun c => ?_)
      · replace h := h.2.2.1 c
        refine r_aload_n ok 0 d_LS_decree_26 rfl rfl ?_
        refine r_callVi (As := []) (rest := []) ok 0 rfl rfl rfl wl_LS_119 wi_y_LS_bookIsFull ws_y_LS_bookIsFull wn_LS wc_y_LS_bookIsFull (by decide) (by decide) hh_LS_bookIsFull (Nat.le_of_ble_eq_true rfl) rfl d_LS_decree_27 (L_LS_bookIsFull F.1 F.2.1 F.2.2.1 hD h) (fun r6 s5 h => ?_)
        refine r_if_eq ok 36 d_LS_decree_30 (by decide) h.1 (fun c => ?_) (fun c => ?_)
        · replace h := h.2.1 c
          refine r_aload_n ok 0 d_LS_decree_36 rfl rfl ?_
          refine g_LS_names ok d_LS_decree_37 ?_
          refine r_iload_n ok 1 d_LS_decree_40 rfl rfl ?_
          refine r_iload_n ok 2 d_LS_decree_41 rfl rfl ?_
          refine r_iload_n ok 3 d_LS_decree_42 rfl rfl ?_
          refine r_aload_n ok 0 d_LS_decree_43 rfl rfl ?_
          refine g_LS_entries ok d_LS_decree_44 ?_
          refine r_callVv (As := [vI x1, vI x2, vI x3, vI (s5.1 1)]) (rest := []) ok 3 rfl rfl rfl wl_LS_377 wi_y_Na_decree ws_y_Na_decree wn_Na wc_y_Na_decree (by decide) (by decide) hh_Na_decree (Nat.le_of_ble_eq_true rfl) rfl d_LS_decree_47 (L_Na_decree F.1 F.2.1 F.2.2.1 hD h) (fun s7 h => ?_)
          refine r_aload_n ok 0 d_LS_decree_50 rfl rfl ?_
          refine r_dup ok d_LS_decree_51 rfl ?_
          refine g_LS_entries ok d_LS_decree_52 ?_
          refine r_iconst ok 1 d_LS_decree_55 rfl ?_
          refine r_iadd ok d_LS_decree_56 ?_
          refine p_LS_entries ok d_LS_decree_57 ?_
          replace h := h _ rfl
          generalize sF s7 1 ((s7.1 1) + 1) = s8 at h ⊢
          refine r_aload_n ok 0 d_LS_decree_60 rfl rfl ?_
          refine g_LS_entries ok d_LS_decree_61 ?_
          exact hQ _ _ _ _ _ (ok_code ok) d_LS_decree_64 h
        · replace h := h.2.2 c
          refine r_bipush ok (-4) d_LS_decree_33 (by decide) ?_
          exact hQ _ _ _ _ _ (ok_code ok) d_LS_decree_35 h
      · replace h := h.2.2.2 c
        refine r_bipush ok (-2) d_LS_decree_23 (by decide) ?_
        exact hQ _ _ _ _ _ (ok_code ok) d_LS_decree_25 h
    · replace h := h.2.2 c
      refine r_iconst ok (-1) d_LS_decree_16 rfl ?_
      exact hQ _ _ _ _ _ (ok_code ok) d_LS_decree_17 h
theorem L_LS_decree (l : Launch) (G : GE) (A : Nat → Prop) (hD : ∀ σ, va_D A (GW G σ)) {x1 x2 x3 : Int} {s : SS} {Q : Int → SS → Prop} (h : Sp_LS_decree x1 x2 x3 s Q) : Met l y_LS_decree (Cond.code y_LS_decree prog_1_method_47_code 4 (some .int) :: lw_ok) ({ frames := 3, cells := 0, slots := 0, locals := 64 } : Room) (va_Pc [.ref (G.1 0), vI x1, vI x2, vI x3] (gB G s)) (va_Qi (fun (r : Int32) (s2 : SS) => ∃ x : Int, r = iI x ∧ Q x s2) (fun s2 t => gB G s2 t) A) 0 0 A := by
  refine met_i hD (by decide) ⟨rfl, rfl⟩ (Nat.le_of_ble_eq_true rfl) (lv := [(0, .ref (G.1 0)), (1, vI x1), (2, vI x2), (3, vI x3)]) rfl (fun F h1 h2 h3 hm ok hQ => ?_)
  subst h1 h2 h3
  have hDF := hD
  exact K_LS_decree_e hDF hm ok hQ h
theorem d_LS_join_0 : decode prog_1_method_7_code 0 = .ok (.aload_n 0, 1) := by decide +kernel
theorem d_LS_join_1 : decode prog_1_method_7_code 1 = .ok (.iload_n 1, 1) := by decide +kernel
theorem d_LS_join_2 : decode prog_1_method_7_code 2 = .ok (.iload_n 2, 1) := by decide +kernel
theorem d_LS_join_3 : decode prog_1_method_7_code 3 = .ok (.iconst 1, 1) := by decide +kernel
theorem d_LS_join_4 : decode prog_1_method_7_code 4 = .ok (.invokevirtual 143, 3) := by decide +kernel
theorem d_LS_join_7 : decode prog_1_method_7_code 7 = .ok (.ireturn, 1) := by decide +kernel
set_option maxHeartbeats 4000000 in
set_option maxRecDepth 100000 in
theorem K_LS_join_e {F : FT} (hD : ∀ σ, va_D F.2.2.1 (GW F.2.1 σ)) (hm : F.2.2.2.2.2.2.2.2.2.2.2.2.2.2.1 = 3) (ok : OkF F prog_1_method_7_code "LastSeen" ({ frames := 4, cells := 0, slots := 0, locals := 87 } : Room)) {Q : Int → SS → Prop} (hQ : RetI F Q) {x1 x2 : Int} {s : SS} (h : Sp_LS_join x1 x2 s Q) : AtS F 0 [(0, .ref (F.2.1.1 0)), (1, vI x1), (2, vI x2)] [] s := by
  unfold Sp_LS_join at h
  refine r_aload_n ok 0 d_LS_join_0 rfl rfl ?_
  refine r_iload_n ok 1 d_LS_join_1 rfl rfl ?_
  refine r_iload_n ok 2 d_LS_join_2 rfl rfl ?_
  refine r_iconst ok 1 d_LS_join_3 rfl ?_
  refine r_callVi (As := [vI x1, vI x2, vI 1]) (rest := []) ok 0 rfl rfl rfl wl_LS_143 wi_y_LS_decree ws_y_LS_decree wn_LS wc_y_LS_decree (by decide) (by decide) hh_LS_decree (Nat.le_of_ble_eq_true rfl) rfl d_LS_join_4 (L_LS_decree F.1 F.2.1 F.2.2.1 hD h) (fun r2 s1 h => ?_)
  exact hQ _ _ _ _ _ (ok_code ok) d_LS_join_7 h
theorem L_LS_join (l : Launch) (G : GE) (A : Nat → Prop) (hD : ∀ σ, va_D A (GW G σ)) {x1 x2 : Int} {s : SS} {Q : Int → SS → Prop} (h : Sp_LS_join x1 x2 s Q) : Met l y_LS_join (Cond.code y_LS_join prog_1_method_7_code 3 (some .int) :: lw_ok) ({ frames := 4, cells := 0, slots := 0, locals := 87 } : Room) (va_Pc [.ref (G.1 0), vI x1, vI x2] (gB G s)) (va_Qi (fun (r : Int32) (s2 : SS) => ∃ x : Int, r = iI x ∧ Q x s2) (fun s2 t => gB G s2 t) A) 0 0 A := by
  refine met_i hD (by decide) ⟨rfl, rfl⟩ (Nat.le_of_ble_eq_true rfl) (lv := [(0, .ref (G.1 0)), (1, vI x1), (2, vI x2)]) rfl (fun F h1 h2 h3 hm ok hQ => ?_)
  subst h1 h2 h3
  have hDF := hD
  exact K_LS_join_e hDF hm ok hQ h
theorem d_LS_part_0 : decode prog_1_method_8_code 0 = .ok (.aload_n 0, 1) := by decide +kernel
theorem d_LS_part_1 : decode prog_1_method_8_code 1 = .ok (.iload_n 1, 1) := by decide +kernel
theorem d_LS_part_2 : decode prog_1_method_8_code 2 = .ok (.iload_n 2, 1) := by decide +kernel
theorem d_LS_part_3 : decode prog_1_method_8_code 3 = .ok (.iconst 2, 1) := by decide +kernel
theorem d_LS_part_4 : decode prog_1_method_8_code 4 = .ok (.invokevirtual 143, 3) := by decide +kernel
theorem d_LS_part_7 : decode prog_1_method_8_code 7 = .ok (.ireturn, 1) := by decide +kernel
set_option maxHeartbeats 4000000 in
set_option maxRecDepth 100000 in
theorem K_LS_part_e {F : FT} (hD : ∀ σ, va_D F.2.2.1 (GW F.2.1 σ)) (hm : F.2.2.2.2.2.2.2.2.2.2.2.2.2.2.1 = 3) (ok : OkF F prog_1_method_8_code "LastSeen" ({ frames := 4, cells := 0, slots := 0, locals := 87 } : Room)) {Q : Int → SS → Prop} (hQ : RetI F Q) {x1 x2 : Int} {s : SS} (h : Sp_LS_part x1 x2 s Q) : AtS F 0 [(0, .ref (F.2.1.1 0)), (1, vI x1), (2, vI x2)] [] s := by
  unfold Sp_LS_part at h
  refine r_aload_n ok 0 d_LS_part_0 rfl rfl ?_
  refine r_iload_n ok 1 d_LS_part_1 rfl rfl ?_
  refine r_iload_n ok 2 d_LS_part_2 rfl rfl ?_
  refine r_iconst ok 2 d_LS_part_3 rfl ?_
  refine r_callVi (As := [vI x1, vI x2, vI 2]) (rest := []) ok 0 rfl rfl rfl wl_LS_143 wi_y_LS_decree ws_y_LS_decree wn_LS wc_y_LS_decree (by decide) (by decide) hh_LS_decree (Nat.le_of_ble_eq_true rfl) rfl d_LS_part_4 (L_LS_decree F.1 F.2.1 F.2.2.1 hD h) (fun r2 s1 h => ?_)
  exact hQ _ _ _ _ _ (ok_code ok) d_LS_part_7 h
theorem L_LS_part (l : Launch) (G : GE) (A : Nat → Prop) (hD : ∀ σ, va_D A (GW G σ)) {x1 x2 : Int} {s : SS} {Q : Int → SS → Prop} (h : Sp_LS_part x1 x2 s Q) : Met l y_LS_part (Cond.code y_LS_part prog_1_method_8_code 3 (some .int) :: lw_ok) ({ frames := 4, cells := 0, slots := 0, locals := 87 } : Room) (va_Pc [.ref (G.1 0), vI x1, vI x2] (gB G s)) (va_Qi (fun (r : Int32) (s2 : SS) => ∃ x : Int, r = iI x ∧ Q x s2) (fun s2 t => gB G s2 t) A) 0 0 A := by
  refine met_i hD (by decide) ⟨rfl, rfl⟩ (Nat.le_of_ble_eq_true rfl) (lv := [(0, .ref (G.1 0)), (1, vI x1), (2, vI x2)]) rfl (fun F h1 h2 h3 hm ok hQ => ?_)
  subst h1 h2 h3
  have hDF := hD
  exact K_LS_part_e hDF hm ok hQ h
theorem d_LS_upTo_0 : decode prog_1_method_42_code 0 = .ok (.iload_n 1, 1) := by decide +kernel
theorem d_LS_upTo_1 : decode prog_1_method_42_code 1 = .ok (.iconst (-1), 1) := by decide +kernel
theorem d_LS_upTo_2 : decode prog_1_method_42_code 2 = .ok (.if_icmp .ne 8, 3) := by decide +kernel
theorem d_LS_upTo_5 : decode prog_1_method_42_code 5 = .ok (.aload_n 0, 1) := by decide +kernel
theorem d_LS_upTo_6 : decode prog_1_method_42_code 6 = .ok (.getfield 122, 3) := by decide +kernel
theorem d_LS_upTo_9 : decode prog_1_method_42_code 9 = .ok (.ireturn, 1) := by decide +kernel
theorem d_LS_upTo_10 : decode prog_1_method_42_code 10 = .ok (.iload_n 1, 1) := by decide +kernel
theorem d_LS_upTo_11 : decode prog_1_method_42_code 11 = .ok (.ifCond .lt 11, 3) := by decide +kernel
theorem d_LS_upTo_14 : decode prog_1_method_42_code 14 = .ok (.iload_n 1, 1) := by decide +kernel
theorem d_LS_upTo_15 : decode prog_1_method_42_code 15 = .ok (.aload_n 0, 1) := by decide +kernel
theorem d_LS_upTo_16 : decode prog_1_method_42_code 16 = .ok (.getfield 122, 3) := by decide +kernel
theorem d_LS_upTo_19 : decode prog_1_method_42_code 19 = .ok (.if_icmp .le 7, 3) := by decide +kernel
theorem d_LS_upTo_22 : decode prog_1_method_42_code 22 = .ok (.iconst (-1), 1) := by decide +kernel
theorem d_LS_upTo_23 : decode prog_1_method_42_code 23 = .ok (.goto 4, 3) := by decide +kernel
theorem d_LS_upTo_26 : decode prog_1_method_42_code 26 = .ok (.iload_n 1, 1) := by decide +kernel
theorem d_LS_upTo_27 : decode prog_1_method_42_code 27 = .ok (.ireturn, 1) := by decide +kernel
set_option maxHeartbeats 4000000 in
set_option maxRecDepth 100000 in
theorem K_LS_upTo_e {F : FT} (hD : ∀ σ, va_D F.2.2.1 (GW F.2.1 σ)) (hm : F.2.2.2.2.2.2.2.2.2.2.2.2.2.2.1 = 2) (ok : OkF F prog_1_method_42_code "LastSeen" ({ frames := 0, cells := 0, slots := 0, locals := 0 } : Room)) {Q : Int → SS → Prop} (hQ : RetI F Q) {x1 : Int} {s : SS} (h : Sp_LS_upTo x1 s Q) : AtS F 0 [(0, .ref (F.2.1.1 0)), (1, vI x1)] [] s := by
  unfold Sp_LS_upTo at h
  refine r_iload_n ok 1 d_LS_upTo_0 rfl rfl ?_
  refine r_iconst ok (-1) d_LS_upTo_1 rfl ?_
  refine r_icmp_ne ok 10 d_LS_upTo_2 (by decide) h.1 (by decide) (fun c => ?_) (fun c => ?_)
  · replace h := h.2.1 c
    refine r_iload_n ok 1 d_LS_upTo_10 rfl rfl ?_
    refine r_if_lt ok 22 d_LS_upTo_11 (by decide) h.1 (fun c => ?_) (fun c => ?_)
    · replace h := h.2.1 c
      refine r_iconst ok (-1) d_LS_upTo_22 rfl ?_
      refine r_goto ok 27 d_LS_upTo_23 (by decide) ?_
      exact hQ _ _ _ _ _ (ok_code ok) d_LS_upTo_27 h
    · replace h := h.2.2 c
      refine r_iload_n ok 1 d_LS_upTo_14 rfl rfl ?_
      refine r_aload_n ok 0 d_LS_upTo_15 rfl rfl ?_
      refine g_LS_entries ok d_LS_upTo_16 ?_
      refine r_icmp_le ok 26 d_LS_upTo_19 (by decide) h.1 h.2.1 (fun c => ?_) (fun c => ?_)
      · replace h := h.2.2.1 c
        refine r_iload_n ok 1 d_LS_upTo_26 rfl rfl ?_
        exact hQ _ _ _ _ _ (ok_code ok) d_LS_upTo_27 h
      · replace h := h.2.2.2 c
        refine r_iconst ok (-1) d_LS_upTo_22 rfl ?_
        refine r_goto ok 27 d_LS_upTo_23 (by decide) ?_
        exact hQ _ _ _ _ _ (ok_code ok) d_LS_upTo_27 h
  · replace h := h.2.2 c
    refine r_aload_n ok 0 d_LS_upTo_5 rfl rfl ?_
    refine g_LS_entries ok d_LS_upTo_6 ?_
    exact hQ _ _ _ _ _ (ok_code ok) d_LS_upTo_9 h
theorem L_LS_upTo (l : Launch) (G : GE) (A : Nat → Prop) (hD : ∀ σ, va_D A (GW G σ)) {x1 : Int} {s : SS} {Q : Int → SS → Prop} (h : Sp_LS_upTo x1 s Q) : Met l y_LS_upTo (Cond.code y_LS_upTo prog_1_method_42_code 2 (some .int) :: lw_ok) ({ frames := 0, cells := 0, slots := 0, locals := 0 } : Room) (va_Pc [.ref (G.1 0), vI x1] (gB G s)) (va_Qi (fun (r : Int32) (s2 : SS) => ∃ x : Int, r = iI x ∧ Q x s2) (fun s2 t => gB G s2 t) A) 0 0 A := by
  refine met_i hD (by decide) ⟨rfl, rfl⟩ (Nat.le_of_ble_eq_true rfl) (lv := [(0, .ref (G.1 0)), (1, vI x1)]) rfl (fun F h1 h2 h3 hm ok hQ => ?_)
  subst h1 h2 h3
  have hDF := hD
  exact K_LS_upTo_e hDF hm ok hQ h
theorem d_Na_sameKey_0 : decode prog_6_method_18_code 0 = .ok (.aload_n 0, 1) := by decide +kernel
theorem d_Na_sameKey_1 : decode prog_6_method_18_code 1 = .ok (.getfield 15, 3) := by decide +kernel
theorem d_Na_sameKey_4 : decode prog_6_method_18_code 4 = .ok (.iload_n 1, 1) := by decide +kernel
theorem d_Na_sameKey_5 : decode prog_6_method_18_code 5 = .ok (.iaload, 1) := by decide +kernel
theorem d_Na_sameKey_6 : decode prog_6_method_18_code 6 = .ok (.aload_n 0, 1) := by decide +kernel
theorem d_Na_sameKey_7 : decode prog_6_method_18_code 7 = .ok (.getfield 15, 3) := by decide +kernel
theorem d_Na_sameKey_10 : decode prog_6_method_18_code 10 = .ok (.iload_n 2, 1) := by decide +kernel
theorem d_Na_sameKey_11 : decode prog_6_method_18_code 11 = .ok (.iaload, 1) := by decide +kernel
theorem d_Na_sameKey_12 : decode prog_6_method_18_code 12 = .ok (.if_icmp .eq 5, 3) := by decide +kernel
theorem d_Na_sameKey_15 : decode prog_6_method_18_code 15 = .ok (.iconst 0, 1) := by decide +kernel
theorem d_Na_sameKey_16 : decode prog_6_method_18_code 16 = .ok (.ireturn, 1) := by decide +kernel
theorem d_Na_sameKey_17 : decode prog_6_method_18_code 17 = .ok (.iconst 0, 1) := by decide +kernel
theorem d_Na_sameKey_18 : decode prog_6_method_18_code 18 = .ok (.istore_n 3, 1) := by decide +kernel
theorem d_Na_sameKey_19 : decode prog_6_method_18_code 19 = .ok (.iload_n 3, 1) := by decide +kernel
theorem d_Na_sameKey_20 : decode prog_6_method_18_code 20 = .ok (.aload_n 0, 1) := by decide +kernel
theorem d_Na_sameKey_21 : decode prog_6_method_18_code 21 = .ok (.getfield 15, 3) := by decide +kernel
theorem d_Na_sameKey_24 : decode prog_6_method_18_code 24 = .ok (.iload_n 1, 1) := by decide +kernel
theorem d_Na_sameKey_25 : decode prog_6_method_18_code 25 = .ok (.iaload, 1) := by decide +kernel
theorem d_Na_sameKey_26 : decode prog_6_method_18_code 26 = .ok (.if_icmp .ge 36, 3) := by decide +kernel
theorem d_Na_sameKey_29 : decode prog_6_method_18_code 29 = .ok (.aload_n 0, 1) := by decide +kernel
theorem d_Na_sameKey_30 : decode prog_6_method_18_code 30 = .ok (.getfield 11, 3) := by decide +kernel
theorem d_Na_sameKey_33 : decode prog_6_method_18_code 33 = .ok (.iload_n 1, 1) := by decide +kernel
theorem d_Na_sameKey_34 : decode prog_6_method_18_code 34 = .ok (.bipush 12, 2) := by decide +kernel
theorem d_Na_sameKey_36 : decode prog_6_method_18_code 36 = .ok (.imul, 1) := by decide +kernel
theorem d_Na_sameKey_37 : decode prog_6_method_18_code 37 = .ok (.iload_n 3, 1) := by decide +kernel
theorem d_Na_sameKey_38 : decode prog_6_method_18_code 38 = .ok (.iadd, 1) := by decide +kernel
theorem d_Na_sameKey_39 : decode prog_6_method_18_code 39 = .ok (.iaload, 1) := by decide +kernel
theorem d_Na_sameKey_40 : decode prog_6_method_18_code 40 = .ok (.aload_n 0, 1) := by decide +kernel
theorem d_Na_sameKey_41 : decode prog_6_method_18_code 41 = .ok (.getfield 11, 3) := by decide +kernel
theorem d_Na_sameKey_44 : decode prog_6_method_18_code 44 = .ok (.iload_n 2, 1) := by decide +kernel
theorem d_Na_sameKey_45 : decode prog_6_method_18_code 45 = .ok (.bipush 12, 2) := by decide +kernel
theorem d_Na_sameKey_47 : decode prog_6_method_18_code 47 = .ok (.imul, 1) := by decide +kernel
theorem d_Na_sameKey_48 : decode prog_6_method_18_code 48 = .ok (.iload_n 3, 1) := by decide +kernel
theorem d_Na_sameKey_49 : decode prog_6_method_18_code 49 = .ok (.iadd, 1) := by decide +kernel
theorem d_Na_sameKey_50 : decode prog_6_method_18_code 50 = .ok (.iaload, 1) := by decide +kernel
theorem d_Na_sameKey_51 : decode prog_6_method_18_code 51 = .ok (.if_icmp .eq 5, 3) := by decide +kernel
theorem d_Na_sameKey_54 : decode prog_6_method_18_code 54 = .ok (.iconst 0, 1) := by decide +kernel
theorem d_Na_sameKey_55 : decode prog_6_method_18_code 55 = .ok (.ireturn, 1) := by decide +kernel
theorem d_Na_sameKey_56 : decode prog_6_method_18_code 56 = .ok (.iinc 3 1, 3) := by decide +kernel
theorem d_Na_sameKey_59 : decode prog_6_method_18_code 59 = .ok (.goto (-40), 3) := by decide +kernel
theorem d_Na_sameKey_62 : decode prog_6_method_18_code 62 = .ok (.iconst 1, 1) := by decide +kernel
theorem d_Na_sameKey_63 : decode prog_6_method_18_code 63 = .ok (.ireturn, 1) := by decide +kernel
set_option maxHeartbeats 4000000 in
set_option maxRecDepth 100000 in
theorem K_Na_sameKey_19 {F : FT} (hD : ∀ σ, va_D F.2.2.1 (GW F.2.1 σ)) (hm : F.2.2.2.2.2.2.2.2.2.2.2.2.2.2.1 = 4) (ok : OkF F prog_6_method_18_code "LastSeen$Names" ({ frames := 0, cells := 0, slots := 0, locals := 0 } : Room)) {Q : Int → SS → Prop} (hQ : RetZ F Q) {x1 x2 x3 : Int} {s : SS} (h : B_Na_sameKey_19 Q (fun x1 x2 x3 s => AtS F 19 [(0, .ref (F.2.1.1 3)), (1, vI x1), (2, vI x2), (3, vI x3)] [] s) x1 x2 x3 s) : AtS F 19 [(0, .ref (F.2.1.1 3)), (1, vI x1), (2, vI x2), (3, vI x3)] [] s := by
  unfold B_Na_sameKey_19 at h
  refine r_iload_n ok 3 d_Na_sameKey_19 rfl rfl ?_
  refine r_aload_n ok 0 d_Na_sameKey_20 rfl rfl ?_
  refine g_Na_keySizes ok d_Na_sameKey_21 ?_
  refine r_iload_n ok 1 d_Na_sameKey_24 rfl rfl ?_
  refine r_iald ok 7 d_Na_sameKey_25 (by decide) rfl h.1 ?_
  replace h := h.2
  refine r_icmp_ge ok 62 d_Na_sameKey_26 (by decide) h.1 h.2.1 (fun c => ?_) (fun c => ?_)
  · replace h := h.2.2.1 c
    refine r_iconst ok 1 d_Na_sameKey_62 rfl ?_
    exact hQ _ _ _ _ _ (ok_code ok) d_Na_sameKey_63 (by decide) h
  · replace h := h.2.2.2 c
    refine r_aload_n ok 0 d_Na_sameKey_29 rfl rfl ?_
    refine g_Na_letters ok d_Na_sameKey_30 ?_
    refine r_iload_n ok 1 d_Na_sameKey_33 rfl rfl ?_
    refine r_bipush ok 12 d_Na_sameKey_34 (by decide) ?_
    refine r_imul ok d_Na_sameKey_36 ?_
    refine r_iload_n ok 3 d_Na_sameKey_37 rfl rfl ?_
    refine r_iadd ok d_Na_sameKey_38 ?_
    refine r_iald ok 6 d_Na_sameKey_39 (by decide) rfl h.1 ?_
    replace h := h.2
    refine r_aload_n ok 0 d_Na_sameKey_40 rfl rfl ?_
    refine g_Na_letters ok d_Na_sameKey_41 ?_
    refine r_iload_n ok 2 d_Na_sameKey_44 rfl rfl ?_
    refine r_bipush ok 12 d_Na_sameKey_45 (by decide) ?_
    refine r_imul ok d_Na_sameKey_47 ?_
    refine r_iload_n ok 3 d_Na_sameKey_48 rfl rfl ?_
    refine r_iadd ok d_Na_sameKey_49 ?_
    refine r_iald ok 6 d_Na_sameKey_50 (by decide) rfl h.1 ?_
    replace h := h.2
    refine r_icmp_eq ok 56 d_Na_sameKey_51 (by decide) h.1 h.2.1 (fun c => ?_) (fun c => ?_)
    · replace h := h.2.2.1 c
      refine r_iinc ok 3 (x3 + 1) [(3, vI (x3 + 1)), (0, .ref (F.2.1.1 3)), (1, vI x1), (2, vI x2)] d_Na_sameKey_56 rfl rfl hm (by decide) rfl ?_
      refine r_goto ok 19 d_Na_sameKey_59 (by decide) ?_
      exact r_sub [1, 2, 3, 0] rfl h
    · replace h := h.2.2.2 c
      refine r_iconst ok 0 d_Na_sameKey_54 rfl ?_
      exact hQ _ _ _ _ _ (ok_code ok) d_Na_sameKey_55 (by decide) h
set_option maxHeartbeats 4000000 in
set_option maxRecDepth 100000 in
theorem K_Na_sameKey_e {F : FT} (hD : ∀ σ, va_D F.2.2.1 (GW F.2.1 σ)) (hm : F.2.2.2.2.2.2.2.2.2.2.2.2.2.2.1 = 4) (ok : OkF F prog_6_method_18_code "LastSeen$Names" ({ frames := 0, cells := 0, slots := 0, locals := 0 } : Room)) {Q : Int → SS → Prop} (hQ : RetZ F Q) {x1 x2 : Int} {s : SS} (h : B_Na_sameKey_e Q (fun x1 x2 x3 s => AtS F 19 [(0, .ref (F.2.1.1 3)), (1, vI x1), (2, vI x2), (3, vI x3)] [] s) x1 x2 s) : AtS F 0 [(0, .ref (F.2.1.1 3)), (1, vI x1), (2, vI x2)] [] s := by
  unfold B_Na_sameKey_e at h
  refine r_aload_n ok 0 d_Na_sameKey_0 rfl rfl ?_
  refine g_Na_keySizes ok d_Na_sameKey_1 ?_
  refine r_iload_n ok 1 d_Na_sameKey_4 rfl rfl ?_
  refine r_iald ok 7 d_Na_sameKey_5 (by decide) rfl h.1 ?_
  replace h := h.2
  refine r_aload_n ok 0 d_Na_sameKey_6 rfl rfl ?_
  refine g_Na_keySizes ok d_Na_sameKey_7 ?_
  refine r_iload_n ok 2 d_Na_sameKey_10 rfl rfl ?_
  refine r_iald ok 7 d_Na_sameKey_11 (by decide) rfl h.1 ?_
  replace h := h.2
  refine r_icmp_eq ok 17 d_Na_sameKey_12 (by decide) h.1 h.2.1 (fun c => ?_) (fun c => ?_)
  · replace h := h.2.2.1 c
    refine r_iconst ok 0 d_Na_sameKey_17 rfl ?_
    refine r_istore_n ok [(3, vI 0), (0, .ref (F.2.1.1 3)), (1, vI x1), (2, vI x2)] d_Na_sameKey_18 rfl hm (by decide) rfl ?_
    exact r_sub [1, 2, 3, 0] rfl h
  · replace h := h.2.2.2 c
    refine r_iconst ok 0 d_Na_sameKey_15 rfl ?_
    exact hQ _ _ _ _ _ (ok_code ok) d_Na_sameKey_16 (by decide) h
theorem L_Na_sameKey (l : Launch) (G : GE) (A : Nat → Prop) (hD : ∀ σ, va_D A (GW G σ)) {x1 x2 : Int} {s : SS} {Q : Int → SS → Prop} (h : Sp_Na_sameKey x1 x2 s Q) : Met l y_Na_sameKey (Cond.code y_Na_sameKey prog_6_method_18_code 4 (some .boolean) :: lw_ok) ({ frames := 0, cells := 0, slots := 0, locals := 0 } : Room) (va_Pc [.ref (G.1 3), vI x1, vI x2] (gB G s)) (va_Qi (fun (r : Int32) (s2 : SS) => ∃ x : Int, r = iI x ∧ Q x s2) (fun s2 t => gB G s2 t) A) 0 0 A := by
  refine met_z hD (by decide) ⟨rfl, rfl⟩ (Nat.le_of_ble_eq_true rfl) (lv := [(0, .ref (G.1 3)), (1, vI x1), (2, vI x2)]) rfl (fun F h1 h2 h3 hm ok hQ => ?_)
  subst h1 h2 h3
  have hDF := hD
  exact K_Na_sameKey_e hDF hm ok hQ (h _ (fun _ _ _ _ hb => K_Na_sameKey_19 hDF hm ok hQ hb))
theorem d_Na_tieTogether_0 : decode prog_6_method_17_code 0 = .ok (.aload_n 0, 1) := by decide +kernel
theorem d_Na_tieTogether_1 : decode prog_6_method_17_code 1 = .ok (.getfield 33, 3) := by decide +kernel
theorem d_Na_tieTogether_4 : decode prog_6_method_17_code 4 = .ok (.iload_n 1, 1) := by decide +kernel
theorem d_Na_tieTogether_5 : decode prog_6_method_17_code 5 = .ok (.bipush 20, 2) := by decide +kernel
theorem d_Na_tieTogether_7 : decode prog_6_method_17_code 7 = .ok (.imul, 1) := by decide +kernel
theorem d_Na_tieTogether_8 : decode prog_6_method_17_code 8 = .ok (.iload_n 2, 1) := by decide +kernel
theorem d_Na_tieTogether_9 : decode prog_6_method_17_code 9 = .ok (.iadd, 1) := by decide +kernel
theorem d_Na_tieTogether_10 : decode prog_6_method_17_code 10 = .ok (.iload_n 3, 1) := by decide +kernel
theorem d_Na_tieTogether_11 : decode prog_6_method_17_code 11 = .ok (.iastore, 1) := by decide +kernel
theorem d_Na_tieTogether_12 : decode prog_6_method_17_code 12 = .ok (.aload_n 0, 1) := by decide +kernel
theorem d_Na_tieTogether_13 : decode prog_6_method_17_code 13 = .ok (.getfield 33, 3) := by decide +kernel
theorem d_Na_tieTogether_16 : decode prog_6_method_17_code 16 = .ok (.iload_n 2, 1) := by decide +kernel
theorem d_Na_tieTogether_17 : decode prog_6_method_17_code 17 = .ok (.bipush 20, 2) := by decide +kernel
theorem d_Na_tieTogether_19 : decode prog_6_method_17_code 19 = .ok (.imul, 1) := by decide +kernel
theorem d_Na_tieTogether_20 : decode prog_6_method_17_code 20 = .ok (.iload_n 1, 1) := by decide +kernel
theorem d_Na_tieTogether_21 : decode prog_6_method_17_code 21 = .ok (.iadd, 1) := by decide +kernel
theorem d_Na_tieTogether_22 : decode prog_6_method_17_code 22 = .ok (.iload_n 3, 1) := by decide +kernel
theorem d_Na_tieTogether_23 : decode prog_6_method_17_code 23 = .ok (.iastore, 1) := by decide +kernel
theorem d_Na_tieTogether_24 : decode prog_6_method_17_code 24 = .ok (.return_, 1) := by decide +kernel
set_option maxHeartbeats 4000000 in
set_option maxRecDepth 100000 in
theorem K_Na_tieTogether_e {F : FT} (hD : ∀ σ, va_D F.2.2.1 (GW F.2.1 σ)) (hm : F.2.2.2.2.2.2.2.2.2.2.2.2.2.2.1 = 4) (ok : OkF F prog_6_method_17_code "LastSeen$Names" ({ frames := 0, cells := 0, slots := 0, locals := 0 } : Room)) {Q : SS → Prop} (hQ : RetV F Q) {x1 x2 x3 : Int} {s : SS} (h : Sp_Na_tieTogether x1 x2 x3 s Q) : AtS F 0 [(0, .ref (F.2.1.1 3)), (1, vI x1), (2, vI x2), (3, vI x3)] [] s := by
  unfold Sp_Na_tieTogether at h
  refine r_aload_n ok 0 d_Na_tieTogether_0 rfl rfl ?_
  refine g_Na_bonds ok d_Na_tieTogether_1 ?_
  refine r_iload_n ok 1 d_Na_tieTogether_4 rfl rfl ?_
  refine r_bipush ok 20 d_Na_tieTogether_5 (by decide) ?_
  refine r_imul ok d_Na_tieTogether_7 ?_
  refine r_iload_n ok 2 d_Na_tieTogether_8 rfl rfl ?_
  refine r_iadd ok d_Na_tieTogether_9 ?_
  refine r_iload_n ok 3 d_Na_tieTogether_10 rfl rfl ?_
  refine r_iast ok 13 d_Na_tieTogether_11 (by decide) rfl h.1 ?_
  replace h := h.2 _ rfl
  generalize sA s 13 ((x1 * 20) + x2) x3 = s1 at h ⊢
  refine r_aload_n ok 0 d_Na_tieTogether_12 rfl rfl ?_
  refine g_Na_bonds ok d_Na_tieTogether_13 ?_
  refine r_iload_n ok 2 d_Na_tieTogether_16 rfl rfl ?_
  refine r_bipush ok 20 d_Na_tieTogether_17 (by decide) ?_
  refine r_imul ok d_Na_tieTogether_19 ?_
  refine r_iload_n ok 1 d_Na_tieTogether_20 rfl rfl ?_
  refine r_iadd ok d_Na_tieTogether_21 ?_
  refine r_iload_n ok 3 d_Na_tieTogether_22 rfl rfl ?_
  refine r_iast ok 13 d_Na_tieTogether_23 (by decide) rfl h.1 ?_
  replace h := h.2 _ rfl
  generalize sA s1 13 ((x2 * 20) + x1) x3 = s2 at h ⊢
  exact hQ _ _ _ _ (ok_code ok) d_Na_tieTogether_24 h
theorem L_Na_tieTogether (l : Launch) (G : GE) (A : Nat → Prop) (hD : ∀ σ, va_D A (GW G σ)) {x1 x2 x3 : Int} {s : SS} {Q : SS → Prop} (h : Sp_Na_tieTogether x1 x2 x3 s Q) : Met l y_Na_tieTogether (Cond.code y_Na_tieTogether prog_6_method_17_code 4 (none) :: lw_ok) ({ frames := 0, cells := 0, slots := 0, locals := 0 } : Room) (va_Pc [.ref (G.1 3), vI x1, vI x2, vI x3] (gB G s)) (va_Qv (fun (s2 : SS) => Q s2) (fun s2 t => gB G s2 t) A) 0 0 A := by
  refine met_v hD (by decide) ⟨rfl, rfl⟩ (Nat.le_of_ble_eq_true rfl) (lv := [(0, .ref (G.1 3)), (1, vI x1), (2, vI x2), (3, vI x3)]) rfl (fun F h1 h2 h3 hm ok hQ => ?_)
  subst h1 h2 h3
  have hDF := hD
  exact K_Na_tieTogether_e hDF hm ok hQ h
theorem d_Na_readKeys_0 : decode prog_6_method_16_code 0 = .ok (.iconst 0, 1) := by decide +kernel
theorem d_Na_readKeys_1 : decode prog_6_method_16_code 1 = .ok (.istore_n 1, 1) := by decide +kernel
theorem d_Na_readKeys_2 : decode prog_6_method_16_code 2 = .ok (.iload_n 1, 1) := by decide +kernel
theorem d_Na_readKeys_3 : decode prog_6_method_16_code 3 = .ok (.aload_n 0, 1) := by decide +kernel
theorem d_Na_readKeys_4 : decode prog_6_method_16_code 4 = .ok (.getfield 89, 3) := by decide +kernel
theorem d_Na_readKeys_7 : decode prog_6_method_16_code 7 = .ok (.if_icmp .ge 47, 3) := by decide +kernel
theorem d_Na_readKeys_10 : decode prog_6_method_16_code 10 = .ok (.iload_n 1, 1) := by decide +kernel
theorem d_Na_readKeys_11 : decode prog_6_method_16_code 11 = .ok (.iconst 1, 1) := by decide +kernel
theorem d_Na_readKeys_12 : decode prog_6_method_16_code 12 = .ok (.iadd, 1) := by decide +kernel
theorem d_Na_readKeys_13 : decode prog_6_method_16_code 13 = .ok (.istore_n 2, 1) := by decide +kernel
theorem d_Na_readKeys_14 : decode prog_6_method_16_code 14 = .ok (.iload_n 2, 1) := by decide +kernel
theorem d_Na_readKeys_15 : decode prog_6_method_16_code 15 = .ok (.aload_n 0, 1) := by decide +kernel
theorem d_Na_readKeys_16 : decode prog_6_method_16_code 16 = .ok (.getfield 89, 3) := by decide +kernel
theorem d_Na_readKeys_19 : decode prog_6_method_16_code 19 = .ok (.if_icmp .ge 29, 3) := by decide +kernel
theorem d_Na_readKeys_22 : decode prog_6_method_16_code 22 = .ok (.aload_n 0, 1) := by decide +kernel
theorem d_Na_readKeys_23 : decode prog_6_method_16_code 23 = .ok (.iload_n 1, 1) := by decide +kernel
theorem d_Na_readKeys_24 : decode prog_6_method_16_code 24 = .ok (.iload_n 2, 1) := by decide +kernel
theorem d_Na_readKeys_25 : decode prog_6_method_16_code 25 = .ok (.aload_n 0, 1) := by decide +kernel
theorem d_Na_readKeys_26 : decode prog_6_method_16_code 26 = .ok (.iload_n 1, 1) := by decide +kernel
theorem d_Na_readKeys_27 : decode prog_6_method_16_code 27 = .ok (.iload_n 2, 1) := by decide +kernel
theorem d_Na_readKeys_28 : decode prog_6_method_16_code 28 = .ok (.invokevirtual 102, 3) := by decide +kernel
theorem d_Na_readKeys_31 : decode prog_6_method_16_code 31 = .ok (.ifCond .eq 7, 3) := by decide +kernel
theorem d_Na_readKeys_34 : decode prog_6_method_16_code 34 = .ok (.iconst 1, 1) := by decide +kernel
theorem d_Na_readKeys_35 : decode prog_6_method_16_code 35 = .ok (.goto 4, 3) := by decide +kernel
theorem d_Na_readKeys_38 : decode prog_6_method_16_code 38 = .ok (.iconst 0, 1) := by decide +kernel
theorem d_Na_readKeys_39 : decode prog_6_method_16_code 39 = .ok (.invokevirtual 95, 3) := by decide +kernel
theorem d_Na_readKeys_42 : decode prog_6_method_16_code 42 = .ok (.iinc 2 1, 3) := by decide +kernel
theorem d_Na_readKeys_45 : decode prog_6_method_16_code 45 = .ok (.goto (-31), 3) := by decide +kernel
theorem d_Na_readKeys_48 : decode prog_6_method_16_code 48 = .ok (.iinc 1 1, 3) := by decide +kernel
theorem d_Na_readKeys_51 : decode prog_6_method_16_code 51 = .ok (.goto (-49), 3) := by decide +kernel
theorem d_Na_readKeys_54 : decode prog_6_method_16_code 54 = .ok (.return_, 1) := by decide +kernel
set_option maxHeartbeats 4000000 in
set_option maxRecDepth 100000 in
theorem K_Na_readKeys_2 {F : FT} (hD : ∀ σ, va_D F.2.2.1 (GW F.2.1 σ)) (hm : F.2.2.2.2.2.2.2.2.2.2.2.2.2.2.1 = 3) (ok : OkF F prog_6_method_16_code "LastSeen$Names" ({ frames := 1, cells := 0, slots := 0, locals := 23 } : Room)) {Q : SS → Prop} (hQ : RetV F Q) {x1 : Int} {s : SS} (h : B_Na_readKeys_2 Q (fun x1 s => AtS F 2 [(0, .ref (F.2.1.1 3)), (1, vI x1)] [] s) (fun x1 x2 s => AtS F 14 [(0, .ref (F.2.1.1 3)), (1, vI x1), (2, vI x2)] [] s) x1 s) : AtS F 2 [(0, .ref (F.2.1.1 3)), (1, vI x1)] [] s := by
  unfold B_Na_readKeys_2 at h
  refine r_iload_n ok 1 d_Na_readKeys_2 rfl rfl ?_
  refine r_aload_n ok 0 d_Na_readKeys_3 rfl rfl ?_
  refine g_Na_sizeBy ok d_Na_readKeys_4 ?_
  refine r_icmp_ge ok 54 d_Na_readKeys_7 (by decide) h.1 h.2.1 (fun c => ?_) (fun c => ?_)
  · replace h := h.2.2.1 c
    exact hQ _ _ _ _ (ok_code ok) d_Na_readKeys_54 h
  · replace h := h.2.2.2 c
    refine r_iload_n ok 1 d_Na_readKeys_10 rfl rfl ?_
    refine r_iconst ok 1 d_Na_readKeys_11 rfl ?_
    refine r_iadd ok d_Na_readKeys_12 ?_
    refine r_istore_n ok [(2, vI (x1 + 1)), (0, .ref (F.2.1.1 3)), (1, vI x1)] d_Na_readKeys_13 rfl hm (by decide) rfl ?_
    exact r_sub [1, 2, 0] rfl h
set_option maxHeartbeats 4000000 in
set_option maxRecDepth 100000 in
theorem K_Na_readKeys_14 {F : FT} (hD : ∀ σ, va_D F.2.2.1 (GW F.2.1 σ)) (hm : F.2.2.2.2.2.2.2.2.2.2.2.2.2.2.1 = 3) (ok : OkF F prog_6_method_16_code "LastSeen$Names" ({ frames := 1, cells := 0, slots := 0, locals := 23 } : Room)) {Q : SS → Prop} (hQ : RetV F Q) {x1 x2 : Int} {s : SS} (h : B_Na_readKeys_14 Q (fun x1 s => AtS F 2 [(0, .ref (F.2.1.1 3)), (1, vI x1)] [] s) (fun x1 x2 s => AtS F 14 [(0, .ref (F.2.1.1 3)), (1, vI x1), (2, vI x2)] [] s) x1 x2 s) : AtS F 14 [(0, .ref (F.2.1.1 3)), (1, vI x1), (2, vI x2)] [] s := by
  unfold B_Na_readKeys_14 at h
  refine r_iload_n ok 2 d_Na_readKeys_14 rfl rfl ?_
  refine r_aload_n ok 0 d_Na_readKeys_15 rfl rfl ?_
  refine g_Na_sizeBy ok d_Na_readKeys_16 ?_
  refine r_icmp_ge ok 48 d_Na_readKeys_19 (by decide) h.1 h.2.1 (fun c => ?_) (fun c => ?_)
  · replace h := h.2.2.1 c
    refine r_iinc ok 1 (x1 + 1) [(1, vI (x1 + 1)), (0, .ref (F.2.1.1 3)), (2, vI x2)] d_Na_readKeys_48 rfl rfl hm (by decide) rfl ?_
    refine r_goto ok 2 d_Na_readKeys_51 (by decide) ?_
    exact r_sub [1, 0] rfl h
  · replace h := h.2.2.2 c
    refine r_aload_n ok 0 d_Na_readKeys_22 rfl rfl ?_
    refine r_iload_n ok 1 d_Na_readKeys_23 rfl rfl ?_
    refine r_iload_n ok 2 d_Na_readKeys_24 rfl rfl ?_
    refine r_aload_n ok 0 d_Na_readKeys_25 rfl rfl ?_
    refine r_iload_n ok 1 d_Na_readKeys_26 rfl rfl ?_
    refine r_iload_n ok 2 d_Na_readKeys_27 rfl rfl ?_
    refine r_callVi (As := [vI x1, vI x2]) (rest := [vI x2, vI x1, .ref (F.2.1.1 3)]) ok 3 rfl rfl rfl wl_Na_102 wi_y_Na_sameKey ws_y_Na_sameKey wn_Na wc_y_Na_sameKey (by decide) (by decide) hh_Na_sameKey (Nat.le_of_ble_eq_true rfl) rfl d_Na_readKeys_28 (L_Na_sameKey F.1 F.2.1 F.2.2.1 hD h) (fun r2 s1 h => ?_)
    refine r_if_eq ok 38 d_Na_readKeys_31 (by decide) h.1 (fun c => ?_) (fun c => ?_)
    · replace h := h.2.1 c
      refine r_iconst ok 0 d_Na_readKeys_38 rfl ?_
      refine r_callVv (As := [vI x1, vI x2, vI 0]) (rest := []) ok 3 rfl rfl rfl wl_Na_95 wi_y_Na_tieTogether ws_y_Na_tieTogether wn_Na wc_y_Na_tieTogether (by decide) (by decide) hh_Na_tieTogether (Nat.le_of_ble_eq_true rfl) rfl d_Na_readKeys_39 (L_Na_tieTogether F.1 F.2.1 F.2.2.1 hD h) (fun s3 h => ?_)
      refine r_iinc ok 2 (x2 + 1) [(2, vI (x2 + 1)), (0, .ref (F.2.1.1 3)), (1, vI x1)] d_Na_readKeys_42 rfl rfl hm (by decide) rfl ?_
      refine r_goto ok 14 d_Na_readKeys_45 (by decide) ?_
      exact r_sub [1, 2, 0] rfl h
    · replace h := h.2.2 c
      refine r_iconst ok 1 d_Na_readKeys_34 rfl ?_
      refine r_goto ok 39 d_Na_readKeys_35 (by decide) ?_
      refine r_callVv (As := [vI x1, vI x2, vI 1]) (rest := []) ok 3 rfl rfl rfl wl_Na_95 wi_y_Na_tieTogether ws_y_Na_tieTogether wn_Na wc_y_Na_tieTogether (by decide) (by decide) hh_Na_tieTogether (Nat.le_of_ble_eq_true rfl) rfl d_Na_readKeys_39 (L_Na_tieTogether F.1 F.2.1 F.2.2.1 hD h) (fun s4 h => ?_)
      refine r_iinc ok 2 (x2 + 1) [(2, vI (x2 + 1)), (0, .ref (F.2.1.1 3)), (1, vI x1)] d_Na_readKeys_42 rfl rfl hm (by decide) rfl ?_
      refine r_goto ok 14 d_Na_readKeys_45 (by decide) ?_
      exact r_sub [1, 2, 0] rfl h
set_option maxHeartbeats 4000000 in
set_option maxRecDepth 100000 in
theorem K_Na_readKeys_e {F : FT} (hD : ∀ σ, va_D F.2.2.1 (GW F.2.1 σ)) (hm : F.2.2.2.2.2.2.2.2.2.2.2.2.2.2.1 = 3) (ok : OkF F prog_6_method_16_code "LastSeen$Names" ({ frames := 1, cells := 0, slots := 0, locals := 23 } : Room)) {Q : SS → Prop} (hQ : RetV F Q) {s : SS} (h : B_Na_readKeys_e Q (fun x1 s => AtS F 2 [(0, .ref (F.2.1.1 3)), (1, vI x1)] [] s) (fun x1 x2 s => AtS F 14 [(0, .ref (F.2.1.1 3)), (1, vI x1), (2, vI x2)] [] s)  s) : AtS F 0 [(0, .ref (F.2.1.1 3))] [] s := by
  unfold B_Na_readKeys_e at h
  refine r_iconst ok 0 d_Na_readKeys_0 rfl ?_
  refine r_istore_n ok [(1, vI 0), (0, .ref (F.2.1.1 3))] d_Na_readKeys_1 rfl hm (by decide) rfl ?_
  exact r_sub [1, 0] rfl h
theorem L_Na_readKeys (l : Launch) (G : GE) (A : Nat → Prop) (hD : ∀ σ, va_D A (GW G σ)) {s : SS} {Q : SS → Prop} (h : Sp_Na_readKeys  s Q) : Met l y_Na_readKeys (Cond.code y_Na_readKeys prog_6_method_16_code 3 (none) :: lw_ok) ({ frames := 1, cells := 0, slots := 0, locals := 23 } : Room) (va_Pc [.ref (G.1 3)] (gB G s)) (va_Qv (fun (s2 : SS) => Q s2) (fun s2 t => gB G s2 t) A) 0 0 A := by
  refine met_v hD (by decide) ⟨rfl, rfl⟩ (Nat.le_of_ble_eq_true rfl) (lv := [(0, .ref (G.1 3))]) rfl (fun F h1 h2 h3 hm ok hQ => ?_)
  subst h1 h2 h3
  have hDF := hD
  exact K_Na_readKeys_e hDF hm ok hQ (h _ _ (fun _ _ hb => K_Na_readKeys_2 hDF hm ok hQ hb) (fun _ _ _ hb => K_Na_readKeys_14 hDF hm ok hQ hb))
theorem d_Na_spreadFrom_0 : decode prog_6_method_20_code 0 = .ok (.iconst 1, 1) := by decide +kernel
theorem d_Na_spreadFrom_1 : decode prog_6_method_20_code 1 = .ok (.istore_n 2, 1) := by decide +kernel
theorem d_Na_spreadFrom_2 : decode prog_6_method_20_code 2 = .ok (.aload_n 0, 1) := by decide +kernel
theorem d_Na_spreadFrom_3 : decode prog_6_method_20_code 3 = .ok (.getfield 39, 3) := by decide +kernel
theorem d_Na_spreadFrom_6 : decode prog_6_method_20_code 6 = .ok (.iconst 0, 1) := by decide +kernel
theorem d_Na_spreadFrom_7 : decode prog_6_method_20_code 7 = .ok (.iload_n 1, 1) := by decide +kernel
theorem d_Na_spreadFrom_8 : decode prog_6_method_20_code 8 = .ok (.iastore, 1) := by decide +kernel
theorem d_Na_spreadFrom_9 : decode prog_6_method_20_code 9 = .ok (.aload_n 0, 1) := by decide +kernel
theorem d_Na_spreadFrom_10 : decode prog_6_method_20_code 10 = .ok (.getfield 36, 3) := by decide +kernel
theorem d_Na_spreadFrom_13 : decode prog_6_method_20_code 13 = .ok (.iload_n 1, 1) := by decide +kernel
theorem d_Na_spreadFrom_14 : decode prog_6_method_20_code 14 = .ok (.iload_n 1, 1) := by decide +kernel
theorem d_Na_spreadFrom_15 : decode prog_6_method_20_code 15 = .ok (.iastore, 1) := by decide +kernel
theorem d_Na_spreadFrom_16 : decode prog_6_method_20_code 16 = .ok (.iconst 0, 1) := by decide +kernel
theorem d_Na_spreadFrom_17 : decode prog_6_method_20_code 17 = .ok (.istore_n 3, 1) := by decide +kernel
theorem d_Na_spreadFrom_18 : decode prog_6_method_20_code 18 = .ok (.iload_n 3, 1) := by decide +kernel
theorem d_Na_spreadFrom_19 : decode prog_6_method_20_code 19 = .ok (.iload_n 2, 1) := by decide +kernel
theorem d_Na_spreadFrom_20 : decode prog_6_method_20_code 20 = .ok (.if_icmp .ge 86, 3) := by decide +kernel
theorem d_Na_spreadFrom_23 : decode prog_6_method_20_code 23 = .ok (.iload_n 3, 1) := by decide +kernel
theorem d_Na_spreadFrom_24 : decode prog_6_method_20_code 24 = .ok (.bipush 20, 2) := by decide +kernel
theorem d_Na_spreadFrom_26 : decode prog_6_method_20_code 26 = .ok (.if_icmp .ge 80, 3) := by decide +kernel
theorem d_Na_spreadFrom_29 : decode prog_6_method_20_code 29 = .ok (.iconst 0, 1) := by decide +kernel
theorem d_Na_spreadFrom_30 : decode prog_6_method_20_code 30 = .ok (.istore 4, 2) := by decide +kernel
theorem d_Na_spreadFrom_32 : decode prog_6_method_20_code 32 = .ok (.iload 4, 2) := by decide +kernel
theorem d_Na_spreadFrom_34 : decode prog_6_method_20_code 34 = .ok (.aload_n 0, 1) := by decide +kernel
theorem d_Na_spreadFrom_35 : decode prog_6_method_20_code 35 = .ok (.getfield 89, 3) := by decide +kernel
theorem d_Na_spreadFrom_38 : decode prog_6_method_20_code 38 = .ok (.if_icmp .ge 62, 3) := by decide +kernel
theorem d_Na_spreadFrom_41 : decode prog_6_method_20_code 41 = .ok (.aload_n 0, 1) := by decide +kernel
theorem d_Na_spreadFrom_42 : decode prog_6_method_20_code 42 = .ok (.getfield 36, 3) := by decide +kernel
theorem d_Na_spreadFrom_45 : decode prog_6_method_20_code 45 = .ok (.iload 4, 2) := by decide +kernel
theorem d_Na_spreadFrom_47 : decode prog_6_method_20_code 47 = .ok (.iaload, 1) := by decide +kernel
theorem d_Na_spreadFrom_48 : decode prog_6_method_20_code 48 = .ok (.ifCond .ge 46, 3) := by decide +kernel
theorem d_Na_spreadFrom_51 : decode prog_6_method_20_code 51 = .ok (.aload_n 0, 1) := by decide +kernel
theorem d_Na_spreadFrom_52 : decode prog_6_method_20_code 52 = .ok (.getfield 33, 3) := by decide +kernel
theorem d_Na_spreadFrom_55 : decode prog_6_method_20_code 55 = .ok (.aload_n 0, 1) := by decide +kernel
theorem d_Na_spreadFrom_56 : decode prog_6_method_20_code 56 = .ok (.getfield 39, 3) := by decide +kernel
theorem d_Na_spreadFrom_59 : decode prog_6_method_20_code 59 = .ok (.iload_n 3, 1) := by decide +kernel
theorem d_Na_spreadFrom_60 : decode prog_6_method_20_code 60 = .ok (.iaload, 1) := by decide +kernel
theorem d_Na_spreadFrom_61 : decode prog_6_method_20_code 61 = .ok (.bipush 20, 2) := by decide +kernel
theorem d_Na_spreadFrom_63 : decode prog_6_method_20_code 63 = .ok (.imul, 1) := by decide +kernel
theorem d_Na_spreadFrom_64 : decode prog_6_method_20_code 64 = .ok (.iload 4, 2) := by decide +kernel
theorem d_Na_spreadFrom_66 : decode prog_6_method_20_code 66 = .ok (.iadd, 1) := by decide +kernel
theorem d_Na_spreadFrom_67 : decode prog_6_method_20_code 67 = .ok (.iaload, 1) := by decide +kernel
theorem d_Na_spreadFrom_68 : decode prog_6_method_20_code 68 = .ok (.iconst 1, 1) := by decide +kernel
theorem d_Na_spreadFrom_69 : decode prog_6_method_20_code 69 = .ok (.if_icmp .eq 6, 3) := by decide +kernel
theorem d_Na_spreadFrom_72 : decode prog_6_method_20_code 72 = .ok (.goto 22, 3) := by decide +kernel
theorem d_Na_spreadFrom_75 : decode prog_6_method_20_code 75 = .ok (.aload_n 0, 1) := by decide +kernel
theorem d_Na_spreadFrom_76 : decode prog_6_method_20_code 76 = .ok (.getfield 36, 3) := by decide +kernel
theorem d_Na_spreadFrom_79 : decode prog_6_method_20_code 79 = .ok (.iload 4, 2) := by decide +kernel
theorem d_Na_spreadFrom_81 : decode prog_6_method_20_code 81 = .ok (.iload_n 1, 1) := by decide +kernel
theorem d_Na_spreadFrom_82 : decode prog_6_method_20_code 82 = .ok (.iastore, 1) := by decide +kernel
theorem d_Na_spreadFrom_83 : decode prog_6_method_20_code 83 = .ok (.aload_n 0, 1) := by decide +kernel
theorem d_Na_spreadFrom_84 : decode prog_6_method_20_code 84 = .ok (.getfield 39, 3) := by decide +kernel
theorem d_Na_spreadFrom_87 : decode prog_6_method_20_code 87 = .ok (.iload_n 2, 1) := by decide +kernel
theorem d_Na_spreadFrom_88 : decode prog_6_method_20_code 88 = .ok (.iload 4, 2) := by decide +kernel
theorem d_Na_spreadFrom_90 : decode prog_6_method_20_code 90 = .ok (.iastore, 1) := by decide +kernel
theorem d_Na_spreadFrom_91 : decode prog_6_method_20_code 91 = .ok (.iinc 2 1, 3) := by decide +kernel
theorem d_Na_spreadFrom_94 : decode prog_6_method_20_code 94 = .ok (.iinc 4 1, 3) := by decide +kernel
theorem d_Na_spreadFrom_97 : decode prog_6_method_20_code 97 = .ok (.goto (-65), 3) := by decide +kernel
theorem d_Na_spreadFrom_100 : decode prog_6_method_20_code 100 = .ok (.iinc 3 1, 3) := by decide +kernel
theorem d_Na_spreadFrom_103 : decode prog_6_method_20_code 103 = .ok (.goto (-85), 3) := by decide +kernel
theorem d_Na_spreadFrom_106 : decode prog_6_method_20_code 106 = .ok (.return_, 1) := by decide +kernel
set_option maxHeartbeats 4000000 in
set_option maxRecDepth 100000 in
theorem K_Na_spreadFrom_18 {F : FT} (hD : ∀ σ, va_D F.2.2.1 (GW F.2.1 σ)) (hm : F.2.2.2.2.2.2.2.2.2.2.2.2.2.2.1 = 5) (ok : OkF F prog_6_method_20_code "LastSeen$Names" ({ frames := 0, cells := 0, slots := 0, locals := 0 } : Room)) {Q : SS → Prop} (hQ : RetV F Q) {x1 x2 x3 : Int} {s : SS} (h : B_Na_spreadFrom_18 Q (fun x1 x2 x3 s => AtS F 18 [(0, .ref (F.2.1.1 3)), (1, vI x1), (2, vI x2), (3, vI x3)] [] s) (fun x1 x2 x3 x4 s => AtS F 32 [(0, .ref (F.2.1.1 3)), (1, vI x1), (2, vI x2), (3, vI x3), (4, vI x4)] [] s) x1 x2 x3 s) : AtS F 18 [(0, .ref (F.2.1.1 3)), (1, vI x1), (2, vI x2), (3, vI x3)] [] s := by
  unfold B_Na_spreadFrom_18 at h
  refine r_iload_n ok 3 d_Na_spreadFrom_18 rfl rfl ?_
  refine r_iload_n ok 2 d_Na_spreadFrom_19 rfl rfl ?_
  refine r_icmp_ge ok 106 d_Na_spreadFrom_20 (by decide) h.1 h.2.1 (fun c => ?_) (fun c => ?_)
  · replace h := h.2.2.1 c
    exact hQ _ _ _ _ (ok_code ok) d_Na_spreadFrom_106 h
  · replace h := h.2.2.2 c
    refine r_iload_n ok 3 d_Na_spreadFrom_23 rfl rfl ?_
    refine r_bipush ok 20 d_Na_spreadFrom_24 (by decide) ?_
    refine r_icmp_ge ok 106 d_Na_spreadFrom_26 (by decide) h.1 (by decide) (fun c => ?_) (fun c => ?_)
    · replace h := h.2.1 c
      exact hQ _ _ _ _ (ok_code ok) d_Na_spreadFrom_106 h
    · replace h := h.2.2 c
      refine r_iconst ok 0 d_Na_spreadFrom_29 rfl ?_
      refine r_istore ok [(4, vI 0), (0, .ref (F.2.1.1 3)), (1, vI x1), (2, vI x2), (3, vI x3)] d_Na_spreadFrom_30 hm (by decide) rfl ?_
      exact r_sub [1, 2, 3, 4, 0] rfl h
set_option maxHeartbeats 4000000 in
set_option maxRecDepth 100000 in
theorem K_Na_spreadFrom_32 {F : FT} (hD : ∀ σ, va_D F.2.2.1 (GW F.2.1 σ)) (hm : F.2.2.2.2.2.2.2.2.2.2.2.2.2.2.1 = 5) (ok : OkF F prog_6_method_20_code "LastSeen$Names" ({ frames := 0, cells := 0, slots := 0, locals := 0 } : Room)) {Q : SS → Prop} (hQ : RetV F Q) {x1 x2 x3 x4 : Int} {s : SS} (h : B_Na_spreadFrom_32 Q (fun x1 x2 x3 s => AtS F 18 [(0, .ref (F.2.1.1 3)), (1, vI x1), (2, vI x2), (3, vI x3)] [] s) (fun x1 x2 x3 x4 s => AtS F 32 [(0, .ref (F.2.1.1 3)), (1, vI x1), (2, vI x2), (3, vI x3), (4, vI x4)] [] s) x1 x2 x3 x4 s) : AtS F 32 [(0, .ref (F.2.1.1 3)), (1, vI x1), (2, vI x2), (3, vI x3), (4, vI x4)] [] s := by
  unfold B_Na_spreadFrom_32 at h
  refine r_iload ok 4 d_Na_spreadFrom_32 rfl ?_
  refine r_aload_n ok 0 d_Na_spreadFrom_34 rfl rfl ?_
  refine g_Na_sizeBy ok d_Na_spreadFrom_35 ?_
  refine r_icmp_ge ok 100 d_Na_spreadFrom_38 (by decide) h.1 h.2.1 (fun c => ?_) (fun c => ?_)
  · replace h := h.2.2.1 c
    refine r_iinc ok 3 (x3 + 1) [(3, vI (x3 + 1)), (0, .ref (F.2.1.1 3)), (1, vI x1), (2, vI x2), (4, vI x4)] d_Na_spreadFrom_100 rfl rfl hm (by decide) rfl ?_
    refine r_goto ok 18 d_Na_spreadFrom_103 (by decide) ?_
    exact r_sub [1, 2, 3, 0] rfl h
  · replace h := h.2.2.2 c
    refine r_aload_n ok 0 d_Na_spreadFrom_41 rfl rfl ?_
    refine g_Na_persons ok d_Na_spreadFrom_42 ?_
    refine r_iload ok 4 d_Na_spreadFrom_45 rfl ?_
    refine r_iald ok 14 d_Na_spreadFrom_47 (by decide) rfl h.1 ?_
    replace h := h.2
    refine r_if_ge ok 94 d_Na_spreadFrom_48 (by decide) h.1 (fun c => ?_) (fun c => ?_)
    · replace h := h.2.1 c
      refine r_iinc ok 4 (x4 + 1) [(4, vI (x4 + 1)), (0, .ref (F.2.1.1 3)), (1, vI x1), (2, vI x2), (3, vI x3)] d_Na_spreadFrom_94 rfl rfl hm (by decide) rfl ?_
      refine r_goto ok 32 d_Na_spreadFrom_97 (by decide) ?_
      exact r_sub [1, 2, 3, 4, 0] rfl h
    · replace h := h.2.2 c
      refine r_aload_n ok 0 d_Na_spreadFrom_51 rfl rfl ?_
      refine g_Na_bonds ok d_Na_spreadFrom_52 ?_
      refine r_aload_n ok 0 d_Na_spreadFrom_55 rfl rfl ?_
      refine g_Na_row ok d_Na_spreadFrom_56 ?_
      refine r_iload_n ok 3 d_Na_spreadFrom_59 rfl rfl ?_
      refine r_iald ok 15 d_Na_spreadFrom_60 (by decide) rfl h.1 ?_
      replace h := h.2
      refine r_bipush ok 20 d_Na_spreadFrom_61 (by decide) ?_
      refine r_imul ok d_Na_spreadFrom_63 ?_
      refine r_iload ok 4 d_Na_spreadFrom_64 rfl ?_
      refine r_iadd ok d_Na_spreadFrom_66 ?_
      refine r_iald ok 13 d_Na_spreadFrom_67 (by decide) rfl h.1 ?_
      replace h := h.2
      refine r_iconst ok 1 d_Na_spreadFrom_68 rfl ?_
      refine r_icmp_eq ok 75 d_Na_spreadFrom_69 (by decide) h.1 (by decide) (fun c => ?_) (fun c => ?_)
      · replace h := h.2.1 c
        refine r_aload_n ok 0 d_Na_spreadFrom_75 rfl rfl ?_
        refine g_Na_persons ok d_Na_spreadFrom_76 ?_
        refine r_iload ok 4 d_Na_spreadFrom_79 rfl ?_
        refine r_iload_n ok 1 d_Na_spreadFrom_81 rfl rfl ?_
        refine r_iast ok 14 d_Na_spreadFrom_82 (by decide) rfl h.1 ?_
        replace h := h.2 _ rfl
        generalize sA s 14 x4 x1 = s3 at h ⊢
        refine r_aload_n ok 0 d_Na_spreadFrom_83 rfl rfl ?_
        refine g_Na_row ok d_Na_spreadFrom_84 ?_
        refine r_iload_n ok 2 d_Na_spreadFrom_87 rfl rfl ?_
        refine r_iload ok 4 d_Na_spreadFrom_88 rfl ?_
        refine r_iast ok 15 d_Na_spreadFrom_90 (by decide) rfl h.1 ?_
        replace h := h.2 _ rfl
        generalize sA s3 15 x2 x4 = s4 at h ⊢
        refine r_iinc ok 2 (x2 + 1) [(2, vI (x2 + 1)), (0, .ref (F.2.1.1 3)), (1, vI x1), (3, vI x3), (4, vI x4)] d_Na_spreadFrom_91 rfl rfl hm (by decide) rfl ?_
        refine r_iinc ok 4 (x4 + 1) [(4, vI (x4 + 1)), (2, vI (x2 + 1)), (0, .ref (F.2.1.1 3)), (1, vI x1), (3, vI x3)] d_Na_spreadFrom_94 rfl rfl hm (by decide) rfl ?_
        refine r_goto ok 32 d_Na_spreadFrom_97 (by decide) ?_
        exact r_sub [2, 3, 1, 4, 0] rfl h
      · replace h := h.2.2 c
        refine r_goto ok 94 d_Na_spreadFrom_72 (by decide) ?_
        refine r_iinc ok 4 (x4 + 1) [(4, vI (x4 + 1)), (0, .ref (F.2.1.1 3)), (1, vI x1), (2, vI x2), (3, vI x3)] d_Na_spreadFrom_94 rfl rfl hm (by decide) rfl ?_
        refine r_goto ok 32 d_Na_spreadFrom_97 (by decide) ?_
        exact r_sub [1, 2, 3, 4, 0] rfl h
set_option maxHeartbeats 4000000 in
set_option maxRecDepth 100000 in
theorem K_Na_spreadFrom_e {F : FT} (hD : ∀ σ, va_D F.2.2.1 (GW F.2.1 σ)) (hm : F.2.2.2.2.2.2.2.2.2.2.2.2.2.2.1 = 5) (ok : OkF F prog_6_method_20_code "LastSeen$Names" ({ frames := 0, cells := 0, slots := 0, locals := 0 } : Room)) {Q : SS → Prop} (hQ : RetV F Q) {x1 : Int} {s : SS} (h : B_Na_spreadFrom_e Q (fun x1 x2 x3 s => AtS F 18 [(0, .ref (F.2.1.1 3)), (1, vI x1), (2, vI x2), (3, vI x3)] [] s) (fun x1 x2 x3 x4 s => AtS F 32 [(0, .ref (F.2.1.1 3)), (1, vI x1), (2, vI x2), (3, vI x3), (4, vI x4)] [] s) x1 s) : AtS F 0 [(0, .ref (F.2.1.1 3)), (1, vI x1)] [] s := by
  unfold B_Na_spreadFrom_e at h
  refine r_iconst ok 1 d_Na_spreadFrom_0 rfl ?_
  refine r_istore_n ok [(2, vI 1), (0, .ref (F.2.1.1 3)), (1, vI x1)] d_Na_spreadFrom_1 rfl hm (by decide) rfl ?_
  refine r_aload_n ok 1 d_Na_spreadFrom_2 rfl rfl ?_
  refine g_Na_row ok d_Na_spreadFrom_3 ?_
  refine r_iconst ok 0 d_Na_spreadFrom_6 rfl ?_
  refine r_iload_n ok 2 d_Na_spreadFrom_7 rfl rfl ?_
  refine r_iast ok 15 d_Na_spreadFrom_8 (by decide) rfl (by decide) ?_
  replace h := h _ rfl
  generalize sA s 15 0 x1 = s1 at h ⊢
  refine r_aload_n ok 1 d_Na_spreadFrom_9 rfl rfl ?_
  refine g_Na_persons ok d_Na_spreadFrom_10 ?_
  refine r_iload_n ok 2 d_Na_spreadFrom_13 rfl rfl ?_
  refine r_iload_n ok 2 d_Na_spreadFrom_14 rfl rfl ?_
  refine r_iast ok 14 d_Na_spreadFrom_15 (by decide) rfl h.1 ?_
  replace h := h.2 _ rfl
  generalize sA s1 14 x1 x1 = s2 at h ⊢
  refine r_iconst ok 0 d_Na_spreadFrom_16 rfl ?_
  refine r_istore_n ok [(3, vI 0), (2, vI 1), (0, .ref (F.2.1.1 3)), (1, vI x1)] d_Na_spreadFrom_17 rfl hm (by decide) rfl ?_
  exact r_sub [2, 3, 1, 0] rfl h
theorem L_Na_spreadFrom (l : Launch) (G : GE) (A : Nat → Prop) (hD : ∀ σ, va_D A (GW G σ)) {x1 : Int} {s : SS} {Q : SS → Prop} (h : Sp_Na_spreadFrom x1 s Q) : Met l y_Na_spreadFrom (Cond.code y_Na_spreadFrom prog_6_method_20_code 5 (none) :: lw_ok) ({ frames := 0, cells := 0, slots := 0, locals := 0 } : Room) (va_Pc [.ref (G.1 3), vI x1] (gB G s)) (va_Qv (fun (s2 : SS) => Q s2) (fun s2 t => gB G s2 t) A) 0 0 A := by
  refine met_v hD (by decide) ⟨rfl, rfl⟩ (Nat.le_of_ble_eq_true rfl) (lv := [(0, .ref (G.1 3)), (1, vI x1)]) rfl (fun F h1 h2 h3 hm ok hQ => ?_)
  subst h1 h2 h3
  have hDF := hD
  exact K_Na_spreadFrom_e hDF hm ok hQ (h _ _ (fun _ _ _ _ hb => K_Na_spreadFrom_18 hDF hm ok hQ hb) (fun _ _ _ _ _ hb => K_Na_spreadFrom_32 hDF hm ok hQ hb))
theorem d_Na_readPersons_0 : decode prog_6_method_19_code 0 = .ok (.iconst 0, 1) := by decide +kernel
theorem d_Na_readPersons_1 : decode prog_6_method_19_code 1 = .ok (.istore_n 1, 1) := by decide +kernel
theorem d_Na_readPersons_2 : decode prog_6_method_19_code 2 = .ok (.iload_n 1, 1) := by decide +kernel
theorem d_Na_readPersons_3 : decode prog_6_method_19_code 3 = .ok (.aload_n 0, 1) := by decide +kernel
theorem d_Na_readPersons_4 : decode prog_6_method_19_code 4 = .ok (.getfield 89, 3) := by decide +kernel
theorem d_Na_readPersons_7 : decode prog_6_method_19_code 7 = .ok (.if_icmp .ge 16, 3) := by decide +kernel
theorem d_Na_readPersons_10 : decode prog_6_method_19_code 10 = .ok (.aload_n 0, 1) := by decide +kernel
theorem d_Na_readPersons_11 : decode prog_6_method_19_code 11 = .ok (.getfield 36, 3) := by decide +kernel
theorem d_Na_readPersons_14 : decode prog_6_method_19_code 14 = .ok (.iload_n 1, 1) := by decide +kernel
theorem d_Na_readPersons_15 : decode prog_6_method_19_code 15 = .ok (.iconst (-1), 1) := by decide +kernel
theorem d_Na_readPersons_16 : decode prog_6_method_19_code 16 = .ok (.iastore, 1) := by decide +kernel
theorem d_Na_readPersons_17 : decode prog_6_method_19_code 17 = .ok (.iinc 1 1, 3) := by decide +kernel
theorem d_Na_readPersons_20 : decode prog_6_method_19_code 20 = .ok (.goto (-18), 3) := by decide +kernel
theorem d_Na_readPersons_23 : decode prog_6_method_19_code 23 = .ok (.iconst 0, 1) := by decide +kernel
theorem d_Na_readPersons_24 : decode prog_6_method_19_code 24 = .ok (.istore_n 1, 1) := by decide +kernel
theorem d_Na_readPersons_25 : decode prog_6_method_19_code 25 = .ok (.iload_n 1, 1) := by decide +kernel
theorem d_Na_readPersons_26 : decode prog_6_method_19_code 26 = .ok (.aload_n 0, 1) := by decide +kernel
theorem d_Na_readPersons_27 : decode prog_6_method_19_code 27 = .ok (.getfield 89, 3) := by decide +kernel
theorem d_Na_readPersons_30 : decode prog_6_method_19_code 30 = .ok (.if_icmp .ge 23, 3) := by decide +kernel
theorem d_Na_readPersons_33 : decode prog_6_method_19_code 33 = .ok (.aload_n 0, 1) := by decide +kernel
theorem d_Na_readPersons_34 : decode prog_6_method_19_code 34 = .ok (.getfield 36, 3) := by decide +kernel
theorem d_Na_readPersons_37 : decode prog_6_method_19_code 37 = .ok (.iload_n 1, 1) := by decide +kernel
theorem d_Na_readPersons_38 : decode prog_6_method_19_code 38 = .ok (.iaload, 1) := by decide +kernel
theorem d_Na_readPersons_39 : decode prog_6_method_19_code 39 = .ok (.ifCond .ge 8, 3) := by decide +kernel
theorem d_Na_readPersons_42 : decode prog_6_method_19_code 42 = .ok (.aload_n 0, 1) := by decide +kernel
theorem d_Na_readPersons_43 : decode prog_6_method_19_code 43 = .ok (.iload_n 1, 1) := by decide +kernel
theorem d_Na_readPersons_44 : decode prog_6_method_19_code 44 = .ok (.invokevirtual 106, 3) := by decide +kernel
theorem d_Na_readPersons_47 : decode prog_6_method_19_code 47 = .ok (.iinc 1 1, 3) := by decide +kernel
theorem d_Na_readPersons_50 : decode prog_6_method_19_code 50 = .ok (.goto (-25), 3) := by decide +kernel
theorem d_Na_readPersons_53 : decode prog_6_method_19_code 53 = .ok (.return_, 1) := by decide +kernel
set_option maxHeartbeats 4000000 in
set_option maxRecDepth 100000 in
theorem K_Na_readPersons_2 {F : FT} (hD : ∀ σ, va_D F.2.2.1 (GW F.2.1 σ)) (hm : F.2.2.2.2.2.2.2.2.2.2.2.2.2.2.1 = 2) (ok : OkF F prog_6_method_19_code "LastSeen$Names" ({ frames := 1, cells := 0, slots := 0, locals := 24 } : Room)) {Q : SS → Prop} (hQ : RetV F Q) {x1 : Int} {s : SS} (h : B_Na_readPersons_2 Q (fun x1 s => AtS F 2 [(0, .ref (F.2.1.1 3)), (1, vI x1)] [] s) (fun x1 s => AtS F 25 [(0, .ref (F.2.1.1 3)), (1, vI x1)] [] s) x1 s) : AtS F 2 [(0, .ref (F.2.1.1 3)), (1, vI x1)] [] s := by
  unfold B_Na_readPersons_2 at h
  refine r_iload_n ok 1 d_Na_readPersons_2 rfl rfl ?_
  refine r_aload_n ok 0 d_Na_readPersons_3 rfl rfl ?_
  refine g_Na_sizeBy ok d_Na_readPersons_4 ?_
  refine r_icmp_ge ok 23 d_Na_readPersons_7 (by decide) h.1 h.2.1 (fun c => ?_) (fun c => ?_)
  · replace h := h.2.2.1 c
    refine r_iconst ok 0 d_Na_readPersons_23 rfl ?_
    refine r_istore_n ok [(1, vI 0), (0, .ref (F.2.1.1 3))] d_Na_readPersons_24 rfl hm (by decide) rfl ?_
    exact r_sub [1, 0] rfl h
  · replace h := h.2.2.2 c
    refine r_aload_n ok 0 d_Na_readPersons_10 rfl rfl ?_
    refine g_Na_persons ok d_Na_readPersons_11 ?_
    refine r_iload_n ok 1 d_Na_readPersons_14 rfl rfl ?_
    refine r_iconst ok (-1) d_Na_readPersons_15 rfl ?_
    refine r_iast ok 14 d_Na_readPersons_16 (by decide) rfl h.1 ?_
    replace h := h.2 _ rfl
    generalize sA s 14 x1 (-1) = s1 at h ⊢
    refine r_iinc ok 1 (x1 + 1) [(1, vI (x1 + 1)), (0, .ref (F.2.1.1 3))] d_Na_readPersons_17 rfl rfl hm (by decide) rfl ?_
    refine r_goto ok 2 d_Na_readPersons_20 (by decide) ?_
    exact r_sub [1, 0] rfl h
set_option maxHeartbeats 4000000 in
set_option maxRecDepth 100000 in
theorem K_Na_readPersons_25 {F : FT} (hD : ∀ σ, va_D F.2.2.1 (GW F.2.1 σ)) (hm : F.2.2.2.2.2.2.2.2.2.2.2.2.2.2.1 = 2) (ok : OkF F prog_6_method_19_code "LastSeen$Names" ({ frames := 1, cells := 0, slots := 0, locals := 24 } : Room)) {Q : SS → Prop} (hQ : RetV F Q) {x1 : Int} {s : SS} (h : B_Na_readPersons_25 Q (fun x1 s => AtS F 2 [(0, .ref (F.2.1.1 3)), (1, vI x1)] [] s) (fun x1 s => AtS F 25 [(0, .ref (F.2.1.1 3)), (1, vI x1)] [] s) x1 s) : AtS F 25 [(0, .ref (F.2.1.1 3)), (1, vI x1)] [] s := by
  unfold B_Na_readPersons_25 at h
  refine r_iload_n ok 1 d_Na_readPersons_25 rfl rfl ?_
  refine r_aload_n ok 0 d_Na_readPersons_26 rfl rfl ?_
  refine g_Na_sizeBy ok d_Na_readPersons_27 ?_
  refine r_icmp_ge ok 53 d_Na_readPersons_30 (by decide) h.1 h.2.1 (fun c => ?_) (fun c => ?_)
  · replace h := h.2.2.1 c
    exact hQ _ _ _ _ (ok_code ok) d_Na_readPersons_53 h
  · replace h := h.2.2.2 c
    refine r_aload_n ok 0 d_Na_readPersons_33 rfl rfl ?_
    refine g_Na_persons ok d_Na_readPersons_34 ?_
    refine r_iload_n ok 1 d_Na_readPersons_37 rfl rfl ?_
    refine r_iald ok 14 d_Na_readPersons_38 (by decide) rfl h.1 ?_
    replace h := h.2
    refine r_if_ge ok 47 d_Na_readPersons_39 (by decide) h.1 (fun c => ?_) (fun c => ?_)
    · replace h := h.2.1 c
      refine r_iinc ok 1 (x1 + 1) [(1, vI (x1 + 1)), (0, .ref (F.2.1.1 3))] d_Na_readPersons_47 rfl rfl hm (by decide) rfl ?_
      refine r_goto ok 25 d_Na_readPersons_50 (by decide) ?_
      exact r_sub [1, 0] rfl h
    · replace h := h.2.2 c
      refine r_aload_n ok 0 d_Na_readPersons_42 rfl rfl ?_
      refine r_iload_n ok 1 d_Na_readPersons_43 rfl rfl ?_
      refine r_callVv (As := [vI x1]) (rest := []) ok 3 rfl rfl rfl wl_Na_106 wi_y_Na_spreadFrom ws_y_Na_spreadFrom wn_Na wc_y_Na_spreadFrom (by decide) (by decide) hh_Na_spreadFrom (Nat.le_of_ble_eq_true rfl) rfl d_Na_readPersons_44 (L_Na_spreadFrom F.1 F.2.1 F.2.2.1 hD h) (fun s2 h => ?_)
      refine r_iinc ok 1 (x1 + 1) [(1, vI (x1 + 1)), (0, .ref (F.2.1.1 3))] d_Na_readPersons_47 rfl rfl hm (by decide) rfl ?_
      refine r_goto ok 25 d_Na_readPersons_50 (by decide) ?_
      exact r_sub [1, 0] rfl h
set_option maxHeartbeats 4000000 in
set_option maxRecDepth 100000 in
theorem K_Na_readPersons_e {F : FT} (hD : ∀ σ, va_D F.2.2.1 (GW F.2.1 σ)) (hm : F.2.2.2.2.2.2.2.2.2.2.2.2.2.2.1 = 2) (ok : OkF F prog_6_method_19_code "LastSeen$Names" ({ frames := 1, cells := 0, slots := 0, locals := 24 } : Room)) {Q : SS → Prop} (hQ : RetV F Q) {s : SS} (h : B_Na_readPersons_e Q (fun x1 s => AtS F 2 [(0, .ref (F.2.1.1 3)), (1, vI x1)] [] s) (fun x1 s => AtS F 25 [(0, .ref (F.2.1.1 3)), (1, vI x1)] [] s)  s) : AtS F 0 [(0, .ref (F.2.1.1 3))] [] s := by
  unfold B_Na_readPersons_e at h
  refine r_iconst ok 0 d_Na_readPersons_0 rfl ?_
  refine r_istore_n ok [(1, vI 0), (0, .ref (F.2.1.1 3))] d_Na_readPersons_1 rfl hm (by decide) rfl ?_
  exact r_sub [1, 0] rfl h
theorem L_Na_readPersons (l : Launch) (G : GE) (A : Nat → Prop) (hD : ∀ σ, va_D A (GW G σ)) {s : SS} {Q : SS → Prop} (h : Sp_Na_readPersons  s Q) : Met l y_Na_readPersons (Cond.code y_Na_readPersons prog_6_method_19_code 2 (none) :: lw_ok) ({ frames := 1, cells := 0, slots := 0, locals := 24 } : Room) (va_Pc [.ref (G.1 3)] (gB G s)) (va_Qv (fun (s2 : SS) => Q s2) (fun s2 t => gB G s2 t) A) 0 0 A := by
  refine met_v hD (by decide) ⟨rfl, rfl⟩ (Nat.le_of_ble_eq_true rfl) (lv := [(0, .ref (G.1 3))]) rfl (fun F h1 h2 h3 hm ok hQ => ?_)
  subst h1 h2 h3
  have hDF := hD
  exact K_Na_readPersons_e hDF hm ok hQ (h _ _ (fun _ _ hb => K_Na_readPersons_2 hDF hm ok hQ hb) (fun _ _ hb => K_Na_readPersons_25 hDF hm ok hQ hb))
theorem d_Na_readBy_0 : decode prog_6_method_15_code 0 = .ok (.aload_n 0, 1) := by decide +kernel
theorem d_Na_readBy_1 : decode prog_6_method_15_code 1 = .ok (.iconst 0, 1) := by decide +kernel
theorem d_Na_readBy_2 : decode prog_6_method_15_code 2 = .ok (.putfield 89, 3) := by decide +kernel
theorem d_Na_readBy_5 : decode prog_6_method_15_code 5 = .ok (.aload_n 0, 1) := by decide +kernel
theorem d_Na_readBy_6 : decode prog_6_method_15_code 6 = .ok (.getfield 89, 3) := by decide +kernel
theorem d_Na_readBy_9 : decode prog_6_method_15_code 9 = .ok (.aload_n 0, 1) := by decide +kernel
theorem d_Na_readBy_10 : decode prog_6_method_15_code 10 = .ok (.getfield 48, 3) := by decide +kernel
theorem d_Na_readBy_13 : decode prog_6_method_15_code 13 = .ok (.if_icmp .ge 29, 3) := by decide +kernel
theorem d_Na_readBy_16 : decode prog_6_method_15_code 16 = .ok (.aload_n 0, 1) := by decide +kernel
theorem d_Na_readBy_17 : decode prog_6_method_15_code 17 = .ok (.getfield 18, 3) := by decide +kernel
theorem d_Na_readBy_20 : decode prog_6_method_15_code 20 = .ok (.aload_n 0, 1) := by decide +kernel
theorem d_Na_readBy_21 : decode prog_6_method_15_code 21 = .ok (.getfield 89, 3) := by decide +kernel
theorem d_Na_readBy_24 : decode prog_6_method_15_code 24 = .ok (.iaload, 1) := by decide +kernel
theorem d_Na_readBy_25 : decode prog_6_method_15_code 25 = .ok (.iload_n 1, 1) := by decide +kernel
theorem d_Na_readBy_26 : decode prog_6_method_15_code 26 = .ok (.if_icmp .ge 16, 3) := by decide +kernel
theorem d_Na_readBy_29 : decode prog_6_method_15_code 29 = .ok (.aload_n 0, 1) := by decide +kernel
theorem d_Na_readBy_30 : decode prog_6_method_15_code 30 = .ok (.dup, 1) := by decide +kernel
theorem d_Na_readBy_31 : decode prog_6_method_15_code 31 = .ok (.getfield 89, 3) := by decide +kernel
theorem d_Na_readBy_34 : decode prog_6_method_15_code 34 = .ok (.iconst 1, 1) := by decide +kernel
theorem d_Na_readBy_35 : decode prog_6_method_15_code 35 = .ok (.iadd, 1) := by decide +kernel
theorem d_Na_readBy_36 : decode prog_6_method_15_code 36 = .ok (.putfield 89, 3) := by decide +kernel
theorem d_Na_readBy_39 : decode prog_6_method_15_code 39 = .ok (.goto (-34), 3) := by decide +kernel
theorem d_Na_readBy_42 : decode prog_6_method_15_code 42 = .ok (.aload_n 0, 1) := by decide +kernel
theorem d_Na_readBy_43 : decode prog_6_method_15_code 43 = .ok (.invokevirtual 92, 3) := by decide +kernel
theorem d_Na_readBy_46 : decode prog_6_method_15_code 46 = .ok (.iconst 0, 1) := by decide +kernel
theorem d_Na_readBy_47 : decode prog_6_method_15_code 47 = .ok (.istore_n 2, 1) := by decide +kernel
theorem d_Na_readBy_48 : decode prog_6_method_15_code 48 = .ok (.iload_n 2, 1) := by decide +kernel
theorem d_Na_readBy_49 : decode prog_6_method_15_code 49 = .ok (.aload_n 0, 1) := by decide +kernel
theorem d_Na_readBy_50 : decode prog_6_method_15_code 50 = .ok (.getfield 86, 3) := by decide +kernel
theorem d_Na_readBy_53 : decode prog_6_method_15_code 53 = .ok (.if_icmp .ge 41, 3) := by decide +kernel
theorem d_Na_readBy_56 : decode prog_6_method_15_code 56 = .ok (.aload_n 0, 1) := by decide +kernel
theorem d_Na_readBy_57 : decode prog_6_method_15_code 57 = .ok (.getfield 30, 3) := by decide +kernel
theorem d_Na_readBy_60 : decode prog_6_method_15_code 60 = .ok (.iload_n 2, 1) := by decide +kernel
theorem d_Na_readBy_61 : decode prog_6_method_15_code 61 = .ok (.iaload, 1) := by decide +kernel
theorem d_Na_readBy_62 : decode prog_6_method_15_code 62 = .ok (.iload_n 1, 1) := by decide +kernel
theorem d_Na_readBy_63 : decode prog_6_method_15_code 63 = .ok (.if_icmp .ge 25, 3) := by decide +kernel
theorem d_Na_readBy_66 : decode prog_6_method_15_code 66 = .ok (.aload_n 0, 1) := by decide +kernel
theorem d_Na_readBy_67 : decode prog_6_method_15_code 67 = .ok (.aload_n 0, 1) := by decide +kernel
theorem d_Na_readBy_68 : decode prog_6_method_15_code 68 = .ok (.getfield 21, 3) := by decide +kernel
theorem d_Na_readBy_71 : decode prog_6_method_15_code 71 = .ok (.iload_n 2, 1) := by decide +kernel
theorem d_Na_readBy_72 : decode prog_6_method_15_code 72 = .ok (.iaload, 1) := by decide +kernel
theorem d_Na_readBy_73 : decode prog_6_method_15_code 73 = .ok (.aload_n 0, 1) := by decide +kernel
theorem d_Na_readBy_74 : decode prog_6_method_15_code 74 = .ok (.getfield 24, 3) := by decide +kernel
theorem d_Na_readBy_77 : decode prog_6_method_15_code 77 = .ok (.iload_n 2, 1) := by decide +kernel
theorem d_Na_readBy_78 : decode prog_6_method_15_code 78 = .ok (.iaload, 1) := by decide +kernel
theorem d_Na_readBy_79 : decode prog_6_method_15_code 79 = .ok (.aload_n 0, 1) := by decide +kernel
theorem d_Na_readBy_80 : decode prog_6_method_15_code 80 = .ok (.getfield 27, 3) := by decide +kernel
theorem d_Na_readBy_83 : decode prog_6_method_15_code 83 = .ok (.iload_n 2, 1) := by decide +kernel
theorem d_Na_readBy_84 : decode prog_6_method_15_code 84 = .ok (.iaload, 1) := by decide +kernel
theorem d_Na_readBy_85 : decode prog_6_method_15_code 85 = .ok (.invokevirtual 95, 3) := by decide +kernel
theorem d_Na_readBy_88 : decode prog_6_method_15_code 88 = .ok (.iinc 2 1, 3) := by decide +kernel
theorem d_Na_readBy_91 : decode prog_6_method_15_code 91 = .ok (.goto (-43), 3) := by decide +kernel
theorem d_Na_readBy_94 : decode prog_6_method_15_code 94 = .ok (.aload_n 0, 1) := by decide +kernel
theorem d_Na_readBy_95 : decode prog_6_method_15_code 95 = .ok (.invokevirtual 99, 3) := by decide +kernel
theorem d_Na_readBy_98 : decode prog_6_method_15_code 98 = .ok (.return_, 1) := by decide +kernel
set_option maxHeartbeats 4000000 in
set_option maxRecDepth 100000 in
theorem K_Na_readBy_5 {F : FT} (hD : ∀ σ, va_D F.2.2.1 (GW F.2.1 σ)) (hm : F.2.2.2.2.2.2.2.2.2.2.2.2.2.2.1 = 3) (ok : OkF F prog_6_method_15_code "LastSeen$Names" ({ frames := 2, cells := 0, slots := 0, locals := 45 } : Room)) {Q : SS → Prop} (hQ : RetV F Q) {x1 : Int} {s : SS} (h : B_Na_readBy_5 Q (fun x1 s => AtS F 5 [(0, .ref (F.2.1.1 3)), (1, vI x1)] [] s) (fun x1 x2 s => AtS F 48 [(0, .ref (F.2.1.1 3)), (1, vI x1), (2, vI x2)] [] s) x1 s) : AtS F 5 [(0, .ref (F.2.1.1 3)), (1, vI x1)] [] s := by
  unfold B_Na_readBy_5 at h
  refine r_aload_n ok 0 d_Na_readBy_5 rfl rfl ?_
  refine g_Na_sizeBy ok d_Na_readBy_6 ?_
  refine r_aload_n ok 0 d_Na_readBy_9 rfl rfl ?_
  refine g_Na_size ok d_Na_readBy_10 ?_
  refine r_icmp_ge ok 42 d_Na_readBy_13 (by decide) h.1 h.2.1 (fun c => ?_) (fun c => ?_)
  · replace h := h.2.2.1 c
    refine r_aload_n ok 0 d_Na_readBy_42 rfl rfl ?_
    refine r_callVv (As := []) (rest := []) ok 3 rfl rfl rfl wl_Na_92 wi_y_Na_readKeys ws_y_Na_readKeys wn_Na wc_y_Na_readKeys (by decide) (by decide) hh_Na_readKeys (Nat.le_of_ble_eq_true rfl) rfl d_Na_readBy_43 (L_Na_readKeys F.1 F.2.1 F.2.2.1 hD h) (fun s2 h => ?_)
    refine r_iconst ok 0 d_Na_readBy_46 rfl ?_
    refine r_istore_n ok [(2, vI 0), (0, .ref (F.2.1.1 3)), (1, vI x1)] d_Na_readBy_47 rfl hm (by decide) rfl ?_
    exact r_sub [1, 2, 0] rfl h
  · replace h := h.2.2.2 c
    refine r_aload_n ok 0 d_Na_readBy_16 rfl rfl ?_
    refine g_Na_enteredAt ok d_Na_readBy_17 ?_
    refine r_aload_n ok 0 d_Na_readBy_20 rfl rfl ?_
    refine g_Na_sizeBy ok d_Na_readBy_21 ?_
    refine r_iald ok 8 d_Na_readBy_24 (by decide) rfl h.1 ?_
    replace h := h.2
    refine r_iload_n ok 1 d_Na_readBy_25 rfl rfl ?_
    refine r_icmp_ge ok 42 d_Na_readBy_26 (by decide) h.1 h.2.1 (fun c => ?_) (fun c => ?_)
    · replace h := h.2.2.1 c
      refine r_aload_n ok 0 d_Na_readBy_42 rfl rfl ?_
      refine r_callVv (As := []) (rest := []) ok 3 rfl rfl rfl wl_Na_92 wi_y_Na_readKeys ws_y_Na_readKeys wn_Na wc_y_Na_readKeys (by decide) (by decide) hh_Na_readKeys (Nat.le_of_ble_eq_true rfl) rfl d_Na_readBy_43 (L_Na_readKeys F.1 F.2.1 F.2.2.1 hD h) (fun s3 h => ?_)
      refine r_iconst ok 0 d_Na_readBy_46 rfl ?_
      refine r_istore_n ok [(2, vI 0), (0, .ref (F.2.1.1 3)), (1, vI x1)] d_Na_readBy_47 rfl hm (by decide) rfl ?_
      exact r_sub [1, 2, 0] rfl h
    · replace h := h.2.2.2 c
      refine r_aload_n ok 0 d_Na_readBy_29 rfl rfl ?_
      refine r_dup ok d_Na_readBy_30 rfl ?_
      refine g_Na_sizeBy ok d_Na_readBy_31 ?_
      refine r_iconst ok 1 d_Na_readBy_34 rfl ?_
      refine r_iadd ok d_Na_readBy_35 ?_
      refine p_Na_sizeBy ok d_Na_readBy_36 ?_
      replace h := h _ rfl
      generalize sF s 6 ((s.1 6) + 1) = s4 at h ⊢
      refine r_goto ok 5 d_Na_readBy_39 (by decide) ?_
      exact r_sub [0, 1] rfl h
set_option maxHeartbeats 4000000 in
set_option maxRecDepth 100000 in
theorem K_Na_readBy_48 {F : FT} (hD : ∀ σ, va_D F.2.2.1 (GW F.2.1 σ)) (hm : F.2.2.2.2.2.2.2.2.2.2.2.2.2.2.1 = 3) (ok : OkF F prog_6_method_15_code "LastSeen$Names" ({ frames := 2, cells := 0, slots := 0, locals := 45 } : Room)) {Q : SS → Prop} (hQ : RetV F Q) {x1 x2 : Int} {s : SS} (h : B_Na_readBy_48 Q (fun x1 s => AtS F 5 [(0, .ref (F.2.1.1 3)), (1, vI x1)] [] s) (fun x1 x2 s => AtS F 48 [(0, .ref (F.2.1.1 3)), (1, vI x1), (2, vI x2)] [] s) x1 x2 s) : AtS F 48 [(0, .ref (F.2.1.1 3)), (1, vI x1), (2, vI x2)] [] s := by
  unfold B_Na_readBy_48 at h
  refine r_iload_n ok 2 d_Na_readBy_48 rfl rfl ?_
  refine r_aload_n ok 0 d_Na_readBy_49 rfl rfl ?_
  refine g_Na_decrees ok d_Na_readBy_50 ?_
  refine r_icmp_ge ok 94 d_Na_readBy_53 (by decide) h.1 h.2.1 (fun c => ?_) (fun c => ?_)
  · replace h := h.2.2.1 c
    refine r_aload_n ok 0 d_Na_readBy_94 rfl rfl ?_
    refine r_callVv (As := []) (rest := []) ok 3 rfl rfl rfl wl_Na_99 wi_y_Na_readPersons ws_y_Na_readPersons wn_Na wc_y_Na_readPersons (by decide) (by decide) hh_Na_readPersons (Nat.le_of_ble_eq_true rfl) rfl d_Na_readBy_95 (L_Na_readPersons F.1 F.2.1 F.2.2.1 hD h) (fun s5 h => ?_)
    exact hQ _ _ _ _ (ok_code ok) d_Na_readBy_98 h
  · replace h := h.2.2.2 c
    refine r_aload_n ok 0 d_Na_readBy_56 rfl rfl ?_
    refine g_Na_decreedAt ok d_Na_readBy_57 ?_
    refine r_iload_n ok 2 d_Na_readBy_60 rfl rfl ?_
    refine r_iald ok 12 d_Na_readBy_61 (by decide) rfl h.1 ?_
    replace h := h.2
    refine r_iload_n ok 1 d_Na_readBy_62 rfl rfl ?_
    refine r_icmp_ge ok 88 d_Na_readBy_63 (by decide) h.1 h.2.1 (fun c => ?_) (fun c => ?_)
    · replace h := h.2.2.1 c
      refine r_iinc ok 2 (x2 + 1) [(2, vI (x2 + 1)), (0, .ref (F.2.1.1 3)), (1, vI x1)] d_Na_readBy_88 rfl rfl hm (by decide) rfl ?_
      refine r_goto ok 48 d_Na_readBy_91 (by decide) ?_
      exact r_sub [1, 2, 0] rfl h
    · replace h := h.2.2.2 c
      refine r_aload_n ok 0 d_Na_readBy_66 rfl rfl ?_
      refine r_aload_n ok 0 d_Na_readBy_67 rfl rfl ?_
      refine g_Na_decreeA ok d_Na_readBy_68 ?_
      refine r_iload_n ok 2 d_Na_readBy_71 rfl rfl ?_
      refine r_iald ok 9 d_Na_readBy_72 (by decide) rfl h.1 ?_
      replace h := h.2
      refine r_aload_n ok 0 d_Na_readBy_73 rfl rfl ?_
      refine g_Na_decreeB ok d_Na_readBy_74 ?_
      refine r_iload_n ok 2 d_Na_readBy_77 rfl rfl ?_
      refine r_iald ok 10 d_Na_readBy_78 (by decide) rfl h.1 ?_
      replace h := h.2
      refine r_aload_n ok 0 d_Na_readBy_79 rfl rfl ?_
      refine g_Na_decreeBond ok d_Na_readBy_80 ?_
      refine r_iload_n ok 2 d_Na_readBy_83 rfl rfl ?_
      refine r_iald ok 11 d_Na_readBy_84 (by decide) rfl h.1 ?_
      replace h := h.2
      refine r_callVv (As := [vI (s.2 9 x2), vI (s.2 10 x2), vI (s.2 11 x2)]) (rest := []) ok 3 rfl rfl rfl wl_Na_95 wi_y_Na_tieTogether ws_y_Na_tieTogether wn_Na wc_y_Na_tieTogether (by decide) (by decide) hh_Na_tieTogether (Nat.le_of_ble_eq_true rfl) rfl d_Na_readBy_85 (L_Na_tieTogether F.1 F.2.1 F.2.2.1 hD h) (fun s6 h => ?_)
      refine r_iinc ok 2 (x2 + 1) [(2, vI (x2 + 1)), (0, .ref (F.2.1.1 3)), (1, vI x1)] d_Na_readBy_88 rfl rfl hm (by decide) rfl ?_
      refine r_goto ok 48 d_Na_readBy_91 (by decide) ?_
      exact r_sub [1, 2, 0] rfl h
set_option maxHeartbeats 4000000 in
set_option maxRecDepth 100000 in
theorem K_Na_readBy_e {F : FT} (hD : ∀ σ, va_D F.2.2.1 (GW F.2.1 σ)) (hm : F.2.2.2.2.2.2.2.2.2.2.2.2.2.2.1 = 3) (ok : OkF F prog_6_method_15_code "LastSeen$Names" ({ frames := 2, cells := 0, slots := 0, locals := 45 } : Room)) {Q : SS → Prop} (hQ : RetV F Q) {x1 : Int} {s : SS} (h : B_Na_readBy_e Q (fun x1 s => AtS F 5 [(0, .ref (F.2.1.1 3)), (1, vI x1)] [] s) (fun x1 x2 s => AtS F 48 [(0, .ref (F.2.1.1 3)), (1, vI x1), (2, vI x2)] [] s) x1 s) : AtS F 0 [(0, .ref (F.2.1.1 3)), (1, vI x1)] [] s := by
  unfold B_Na_readBy_e at h
  refine r_aload_n ok 0 d_Na_readBy_0 rfl rfl ?_
  refine r_iconst ok 0 d_Na_readBy_1 rfl ?_
  refine p_Na_sizeBy ok d_Na_readBy_2 ?_
  replace h := h _ rfl
  generalize sF s 6 0 = s1 at h ⊢
  exact r_sub [0, 1] rfl h
theorem L_Na_readBy (l : Launch) (G : GE) (A : Nat → Prop) (hD : ∀ σ, va_D A (GW G σ)) {x1 : Int} {s : SS} {Q : SS → Prop} (h : Sp_Na_readBy x1 s Q) : Met l y_Na_readBy (Cond.code y_Na_readBy prog_6_method_15_code 3 (none) :: lw_ok) ({ frames := 2, cells := 0, slots := 0, locals := 45 } : Room) (va_Pc [.ref (G.1 3), vI x1] (gB G s)) (va_Qv (fun (s2 : SS) => Q s2) (fun s2 t => gB G s2 t) A) 0 0 A := by
  refine met_v hD (by decide) ⟨rfl, rfl⟩ (Nat.le_of_ble_eq_true rfl) (lv := [(0, .ref (G.1 3)), (1, vI x1)]) rfl (fun F h1 h2 h3 hm ok hQ => ?_)
  subst h1 h2 h3
  have hDF := hD
  exact K_Na_readBy_e hDF hm ok hQ (h _ _ (fun _ _ hb => K_Na_readBy_5 hDF hm ok hQ hb) (fun _ _ _ hb => K_Na_readBy_48 hDF hm ok hQ hb))
theorem d_Na_bond_0 : decode prog_6_method_21_code 0 = .ok (.aload_n 0, 1) := by decide +kernel
theorem d_Na_bond_1 : decode prog_6_method_21_code 1 = .ok (.getfield 33, 3) := by decide +kernel
theorem d_Na_bond_4 : decode prog_6_method_21_code 4 = .ok (.iload_n 1, 1) := by decide +kernel
theorem d_Na_bond_5 : decode prog_6_method_21_code 5 = .ok (.bipush 20, 2) := by decide +kernel
theorem d_Na_bond_7 : decode prog_6_method_21_code 7 = .ok (.imul, 1) := by decide +kernel
theorem d_Na_bond_8 : decode prog_6_method_21_code 8 = .ok (.iload_n 2, 1) := by decide +kernel
theorem d_Na_bond_9 : decode prog_6_method_21_code 9 = .ok (.iadd, 1) := by decide +kernel
theorem d_Na_bond_10 : decode prog_6_method_21_code 10 = .ok (.iaload, 1) := by decide +kernel
theorem d_Na_bond_11 : decode prog_6_method_21_code 11 = .ok (.ireturn, 1) := by decide +kernel
set_option maxHeartbeats 4000000 in
set_option maxRecDepth 100000 in
theorem K_Na_bond_e {F : FT} (hD : ∀ σ, va_D F.2.2.1 (GW F.2.1 σ)) (hm : F.2.2.2.2.2.2.2.2.2.2.2.2.2.2.1 = 3) (ok : OkF F prog_6_method_21_code "LastSeen$Names" ({ frames := 0, cells := 0, slots := 0, locals := 0 } : Room)) {Q : Int → SS → Prop} (hQ : RetI F Q) {x1 x2 : Int} {s : SS} (h : Sp_Na_bond x1 x2 s Q) : AtS F 0 [(0, .ref (F.2.1.1 3)), (1, vI x1), (2, vI x2)] [] s := by
  unfold Sp_Na_bond at h
  refine r_aload_n ok 0 d_Na_bond_0 rfl rfl ?_
  refine g_Na_bonds ok d_Na_bond_1 ?_
  refine r_iload_n ok 1 d_Na_bond_4 rfl rfl ?_
  refine r_bipush ok 20 d_Na_bond_5 (by decide) ?_
  refine r_imul ok d_Na_bond_7 ?_
  refine r_iload_n ok 2 d_Na_bond_8 rfl rfl ?_
  refine r_iadd ok d_Na_bond_9 ?_
  refine r_iald ok 13 d_Na_bond_10 (by decide) rfl h.1 ?_
  replace h := h.2
  exact hQ _ _ _ _ _ (ok_code ok) d_Na_bond_11 h
theorem L_Na_bond (l : Launch) (G : GE) (A : Nat → Prop) (hD : ∀ σ, va_D A (GW G σ)) {x1 x2 : Int} {s : SS} {Q : Int → SS → Prop} (h : Sp_Na_bond x1 x2 s Q) : Met l y_Na_bond (Cond.code y_Na_bond prog_6_method_21_code 3 (some .int) :: lw_ok) ({ frames := 0, cells := 0, slots := 0, locals := 0 } : Room) (va_Pc [.ref (G.1 3), vI x1, vI x2] (gB G s)) (va_Qi (fun (r : Int32) (s2 : SS) => ∃ x : Int, r = iI x ∧ Q x s2) (fun s2 t => gB G s2 t) A) 0 0 A := by
  refine met_i hD (by decide) ⟨rfl, rfl⟩ (Nat.le_of_ble_eq_true rfl) (lv := [(0, .ref (G.1 3)), (1, vI x1), (2, vI x2)]) rfl (fun F h1 h2 h3 hm ok hQ => ?_)
  subst h1 h2 h3
  have hDF := hD
  exact K_Na_bond_e hDF hm ok hQ h
theorem d_LS_bit_0 : decode prog_1_method_38_code 0 = .ok (.iload_n 0, 1) := by decide +kernel
theorem d_LS_bit_1 : decode prog_1_method_38_code 1 = .ok (.ifCond .eq 7, 3) := by decide +kernel
theorem d_LS_bit_4 : decode prog_1_method_38_code 4 = .ok (.iconst 1, 1) := by decide +kernel
theorem d_LS_bit_5 : decode prog_1_method_38_code 5 = .ok (.goto 4, 3) := by decide +kernel
theorem d_LS_bit_8 : decode prog_1_method_38_code 8 = .ok (.iconst 0, 1) := by decide +kernel
theorem d_LS_bit_9 : decode prog_1_method_38_code 9 = .ok (.ireturn, 1) := by decide +kernel
set_option maxHeartbeats 4000000 in
set_option maxRecDepth 100000 in
theorem K_LS_bit_e {F : FT} (hD : ∀ σ, va_D F.2.2.1 (GW F.2.1 σ)) (hm : F.2.2.2.2.2.2.2.2.2.2.2.2.2.2.1 = 1) (ok : OkF F prog_1_method_38_code "LastSeen" ({ frames := 0, cells := 0, slots := 0, locals := 0 } : Room)) {Q : Int → SS → Prop} (hQ : RetI F Q) {x0 : Int} {s : SS} (h : Sp_LS_bit x0 s Q) : AtS F 0 [(0, vI x0)] [] s := by
  unfold Sp_LS_bit at h
  refine r_iload_n ok 0 d_LS_bit_0 rfl rfl ?_
  refine r_if_eq ok 8 d_LS_bit_1 (by decide) h.1 (fun c => ?_) (fun c => ?_)
  · replace h := h.2.1 c
    refine r_iconst ok 0 d_LS_bit_8 rfl ?_
    exact hQ _ _ _ _ _ (ok_code ok) d_LS_bit_9 h
  · replace h := h.2.2 c
    refine r_iconst ok 1 d_LS_bit_4 rfl ?_
    refine r_goto ok 9 d_LS_bit_5 (by decide) ?_
    exact hQ _ _ _ _ _ (ok_code ok) d_LS_bit_9 h
theorem L_LS_bit (l : Launch) (G : GE) (A : Nat → Prop) (hD : ∀ σ, va_D A (GW G σ)) {x0 : Int} {s : SS} {Q : Int → SS → Prop} (h : Sp_LS_bit x0 s Q) : Met l y_LS_bit (Cond.code y_LS_bit prog_1_method_38_code 1 (some .int) :: lw_ok) ({ frames := 0, cells := 0, slots := 0, locals := 0 } : Room) (va_Pc [vI x0] (gB G s)) (va_Qi (fun (r : Int32) (s2 : SS) => ∃ x : Int, r = iI x ∧ Q x s2) (fun s2 t => gB G s2 t) A) 0 0 A := by
  refine met_i hD (by decide) ⟨rfl, rfl⟩ (Nat.le_of_ble_eq_true rfl) (lv := [(0, vI x0)]) rfl (fun F h1 h2 h3 hm ok hQ => ?_)
  subst h1 h2 h3
  have hDF := hD
  exact K_LS_bit_e hDF hm ok hQ h
theorem d_LS_link_0 : decode prog_1_method_9_code 0 = .ok (.aload_n 0, 1) := by decide +kernel
theorem d_LS_link_1 : decode prog_1_method_9_code 1 = .ok (.iload_n 3, 1) := by decide +kernel
theorem d_LS_link_2 : decode prog_1_method_9_code 2 = .ok (.invokevirtual 146, 3) := by decide +kernel
theorem d_LS_link_5 : decode prog_1_method_9_code 5 = .ok (.istore 4, 2) := by decide +kernel
theorem d_LS_link_7 : decode prog_1_method_9_code 7 = .ok (.aload_n 0, 1) := by decide +kernel
theorem d_LS_link_8 : decode prog_1_method_9_code 8 = .ok (.iload_n 1, 1) := by decide +kernel
theorem d_LS_link_9 : decode prog_1_method_9_code 9 = .ok (.iload 4, 2) := by decide +kernel
theorem d_LS_link_11 : decode prog_1_method_9_code 11 = .ok (.invokevirtual 149, 3) := by decide +kernel
theorem d_LS_link_14 : decode prog_1_method_9_code 14 = .ok (.ifCond .eq 13, 3) := by decide +kernel
theorem d_LS_link_17 : decode prog_1_method_9_code 17 = .ok (.aload_n 0, 1) := by decide +kernel
theorem d_LS_link_18 : decode prog_1_method_9_code 18 = .ok (.iload_n 2, 1) := by decide +kernel
theorem d_LS_link_19 : decode prog_1_method_9_code 19 = .ok (.iload 4, 2) := by decide +kernel
theorem d_LS_link_21 : decode prog_1_method_9_code 21 = .ok (.invokevirtual 149, 3) := by decide +kernel
theorem d_LS_link_24 : decode prog_1_method_9_code 24 = .ok (.ifCond .ne 5, 3) := by decide +kernel
theorem d_LS_link_27 : decode prog_1_method_9_code 27 = .ok (.iconst (-1), 1) := by decide +kernel
theorem d_LS_link_28 : decode prog_1_method_9_code 28 = .ok (.ireturn, 1) := by decide +kernel
theorem d_LS_link_29 : decode prog_1_method_9_code 29 = .ok (.iload_n 1, 1) := by decide +kernel
theorem d_LS_link_30 : decode prog_1_method_9_code 30 = .ok (.iload_n 2, 1) := by decide +kernel
theorem d_LS_link_31 : decode prog_1_method_9_code 31 = .ok (.if_icmp .ne 6, 3) := by decide +kernel
theorem d_LS_link_34 : decode prog_1_method_9_code 34 = .ok (.bipush (-2), 2) := by decide +kernel
theorem d_LS_link_36 : decode prog_1_method_9_code 36 = .ok (.ireturn, 1) := by decide +kernel
theorem d_LS_link_37 : decode prog_1_method_9_code 37 = .ok (.aload_n 0, 1) := by decide +kernel
theorem d_LS_link_38 : decode prog_1_method_9_code 38 = .ok (.getfield 26, 3) := by decide +kernel
theorem d_LS_link_41 : decode prog_1_method_9_code 41 = .ok (.iload 4, 2) := by decide +kernel
theorem d_LS_link_43 : decode prog_1_method_9_code 43 = .ok (.invokevirtual 153, 3) := by decide +kernel
theorem d_LS_link_46 : decode prog_1_method_9_code 46 = .ok (.aload_n 0, 1) := by decide +kernel
theorem d_LS_link_47 : decode prog_1_method_9_code 47 = .ok (.getfield 26, 3) := by decide +kernel
theorem d_LS_link_50 : decode prog_1_method_9_code 50 = .ok (.iload_n 1, 1) := by decide +kernel
theorem d_LS_link_51 : decode prog_1_method_9_code 51 = .ok (.iload_n 2, 1) := by decide +kernel
theorem d_LS_link_52 : decode prog_1_method_9_code 52 = .ok (.invokevirtual 157, 3) := by decide +kernel
theorem d_LS_link_55 : decode prog_1_method_9_code 55 = .ok (.iconst 1, 1) := by decide +kernel
theorem d_LS_link_56 : decode prog_1_method_9_code 56 = .ok (.if_icmp .ne 7, 3) := by decide +kernel
theorem d_LS_link_59 : decode prog_1_method_9_code 59 = .ok (.iconst 1, 1) := by decide +kernel
theorem d_LS_link_60 : decode prog_1_method_9_code 60 = .ok (.goto 4, 3) := by decide +kernel
theorem d_LS_link_63 : decode prog_1_method_9_code 63 = .ok (.iconst 0, 1) := by decide +kernel
theorem d_LS_link_64 : decode prog_1_method_9_code 64 = .ok (.invokestatic 160, 3) := by decide +kernel
theorem d_LS_link_67 : decode prog_1_method_9_code 67 = .ok (.ireturn, 1) := by decide +kernel
set_option maxHeartbeats 4000000 in
set_option maxRecDepth 100000 in
theorem K_LS_link_e {F : FT} (hD : ∀ σ, va_D F.2.2.1 (GW F.2.1 σ)) (hm : F.2.2.2.2.2.2.2.2.2.2.2.2.2.2.1 = 5) (ok : OkF F prog_1_method_9_code "LastSeen" ({ frames := 3, cells := 0, slots := 0, locals := 67 } : Room)) {Q : Int → SS → Prop} (hQ : RetI F Q) {x1 x2 x3 : Int} {s : SS} (h : Sp_LS_link x1 x2 x3 s Q) : AtS F 0 [(0, .ref (F.2.1.1 0)), (1, vI x1), (2, vI x2), (3, vI x3)] [] s := by
  unfold Sp_LS_link at h
  refine r_aload_n ok 0 d_LS_link_0 rfl rfl ?_
  refine r_iload_n ok 3 d_LS_link_1 rfl rfl ?_
  refine r_callVi (As := [vI x3]) (rest := []) ok 0 rfl rfl rfl wl_LS_146 wi_y_LS_upTo ws_y_LS_upTo wn_LS wc_y_LS_upTo (by decide) (by decide) hh_LS_upTo (Nat.le_of_ble_eq_true rfl) rfl d_LS_link_2 (L_LS_upTo F.1 F.2.1 F.2.2.1 hD h) (fun r2 s1 h => ?_)
  refine r_istore ok [(4, vI r2), (0, .ref (F.2.1.1 0)), (1, vI x1), (2, vI x2), (3, vI x3)] d_LS_link_5 hm (by decide) rfl ?_
  refine r_aload_n ok 1 d_LS_link_7 rfl rfl ?_
  refine r_iload_n ok 2 d_LS_link_8 rfl rfl ?_
  refine r_iload ok 0 d_LS_link_9 rfl ?_
  refine r_callVi (As := [vI x1, vI r2]) (rest := []) ok 0 rfl rfl rfl wl_LS_149 wi_y_LS_isNameBy ws_y_LS_isNameBy wn_LS wc_y_LS_isNameBy (by decide) (by decide) hh_LS_isNameBy (Nat.le_of_ble_eq_true rfl) rfl d_LS_link_11 (L_LS_isNameBy F.1 F.2.1 F.2.2.1 hD h) (fun r4 s3 h => ?_)
  refine r_if_eq ok 27 d_LS_link_14 (by decide) h.1 (fun c => ?_) (fun c => ?_)
  · replace h := h.2.1 c
    refine r_iconst ok (-1) d_LS_link_27 rfl ?_
    exact hQ _ _ _ _ _ (ok_code ok) d_LS_link_28 h
  · replace h := h.2.2 c
    refine r_aload_n ok 1 d_LS_link_17 rfl rfl ?_
    refine r_iload_n ok 3 d_LS_link_18 rfl rfl ?_
    refine r_iload ok 0 d_LS_link_19 rfl ?_
    refine r_callVi (As := [vI x2, vI r2]) (rest := []) ok 0 rfl rfl rfl wl_LS_149 wi_y_LS_isNameBy ws_y_LS_isNameBy wn_LS wc_y_LS_isNameBy (by decide) (by decide) hh_LS_isNameBy (Nat.le_of_ble_eq_true rfl) rfl d_LS_link_21 (L_LS_isNameBy F.1 F.2.1 F.2.2.1 hD h) (fun r6 s5 h => ?_)
    refine r_if_ne ok 29 d_LS_link_24 (by decide) h.1 (fun c => ?_) (fun c => ?_)
    · replace h := h.2.1 c
      refine r_iload_n ok 2 d_LS_link_29 rfl rfl ?_
      refine r_iload_n ok 3 d_LS_link_30 rfl rfl ?_
      refine r_icmp_ne ok 37 d_LS_link_31 (by decide) h.1 h.2.1 (fun c => ?_) (fun c => ?_)
      · replace h := h.2.2.1 c
        refine r_aload_n ok 1 d_LS_link_37 rfl rfl ?_
        refine g_LS_names ok d_LS_link_38 ?_
        refine r_iload ok 0 d_LS_link_41 rfl ?_
        refine r_callVv (As := [vI r2]) (rest := []) ok 3 rfl rfl rfl wl_LS_153 wi_y_Na_readBy ws_y_Na_readBy wn_Na wc_y_Na_readBy (by decide) (by decide) hh_Na_readBy (Nat.le_of_ble_eq_true rfl) rfl d_LS_link_43 (L_Na_readBy F.1 F.2.1 F.2.2.1 hD h) (fun s7 h => ?_)
        refine r_aload_n ok 1 d_LS_link_46 rfl rfl ?_
        refine g_LS_names ok d_LS_link_47 ?_
        refine r_iload_n ok 2 d_LS_link_50 rfl rfl ?_
        refine r_iload_n ok 3 d_LS_link_51 rfl rfl ?_
        refine r_callVi (As := [vI x1, vI x2]) (rest := []) ok 3 rfl rfl rfl wl_LS_157 wi_y_Na_bond ws_y_Na_bond wn_Na wc_y_Na_bond (by decide) (by decide) hh_Na_bond (Nat.le_of_ble_eq_true rfl) rfl d_LS_link_52 (L_Na_bond F.1 F.2.1 F.2.2.1 hD h) (fun r9 s8 h => ?_)
        refine r_iconst ok 1 d_LS_link_55 rfl ?_
        refine r_icmp_ne ok 63 d_LS_link_56 (by decide) h.1 (by decide) (fun c => ?_) (fun c => ?_)
        · replace h := h.2.1 c
          refine r_iconst ok 0 d_LS_link_63 rfl ?_
          refine r_callSi (As := [vI 0]) (rest := []) ok wl_LS_160 wt_y_LS_bit wn_LS wc_y_LS_bit (by decide) (by decide) hh_LS_bit (Nat.le_of_ble_eq_true rfl) rfl d_LS_link_64 (L_LS_bit F.1 F.2.1 F.2.2.1 hD h) (fun r11 s10 h => ?_)
          exact hQ _ _ _ _ _ (ok_code ok) d_LS_link_67 h
        · replace h := h.2.2 c
          refine r_iconst ok 1 d_LS_link_59 rfl ?_
          refine r_goto ok 64 d_LS_link_60 (by decide) ?_
          refine r_callSi (As := [vI 1]) (rest := []) ok wl_LS_160 wt_y_LS_bit wn_LS wc_y_LS_bit (by decide) (by decide) hh_LS_bit (Nat.le_of_ble_eq_true rfl) rfl d_LS_link_64 (L_LS_bit F.1 F.2.1 F.2.2.1 hD h) (fun r13 s12 h => ?_)
          exact hQ _ _ _ _ _ (ok_code ok) d_LS_link_67 h
      · replace h := h.2.2.2 c
        refine r_bipush ok (-2) d_LS_link_34 (by decide) ?_
        exact hQ _ _ _ _ _ (ok_code ok) d_LS_link_36 h
    · replace h := h.2.2 c
      refine r_iconst ok (-1) d_LS_link_27 rfl ?_
      exact hQ _ _ _ _ _ (ok_code ok) d_LS_link_28 h
theorem L_LS_link (l : Launch) (G : GE) (A : Nat → Prop) (hD : ∀ σ, va_D A (GW G σ)) {x1 x2 x3 : Int} {s : SS} {Q : Int → SS → Prop} (h : Sp_LS_link x1 x2 x3 s Q) : Met l y_LS_link (Cond.code y_LS_link prog_1_method_9_code 5 (some .int) :: lw_ok) ({ frames := 3, cells := 0, slots := 0, locals := 67 } : Room) (va_Pc [.ref (G.1 0), vI x1, vI x2, vI x3] (gB G s)) (va_Qi (fun (r : Int32) (s2 : SS) => ∃ x : Int, r = iI x ∧ Q x s2) (fun s2 t => gB G s2 t) A) 0 0 A := by
  refine met_i hD (by decide) ⟨rfl, rfl⟩ (Nat.le_of_ble_eq_true rfl) (lv := [(0, .ref (G.1 0)), (1, vI x1), (2, vI x2), (3, vI x3)]) rfl (fun F h1 h2 h3 hm ok hQ => ?_)
  subst h1 h2 h3
  have hDF := hD
  exact K_LS_link_e hDF hm ok hQ h
theorem d_Na_leastOf_0 : decode prog_6_method_22_code 0 = .ok (.aload_n 0, 1) := by decide +kernel
theorem d_Na_leastOf_1 : decode prog_6_method_22_code 1 = .ok (.getfield 36, 3) := by decide +kernel
theorem d_Na_leastOf_4 : decode prog_6_method_22_code 4 = .ok (.iload_n 1, 1) := by decide +kernel
theorem d_Na_leastOf_5 : decode prog_6_method_22_code 5 = .ok (.iaload, 1) := by decide +kernel
theorem d_Na_leastOf_6 : decode prog_6_method_22_code 6 = .ok (.ireturn, 1) := by decide +kernel
set_option maxHeartbeats 4000000 in
set_option maxRecDepth 100000 in
theorem K_Na_leastOf_e {F : FT} (hD : ∀ σ, va_D F.2.2.1 (GW F.2.1 σ)) (hm : F.2.2.2.2.2.2.2.2.2.2.2.2.2.2.1 = 2) (ok : OkF F prog_6_method_22_code "LastSeen$Names" ({ frames := 0, cells := 0, slots := 0, locals := 0 } : Room)) {Q : Int → SS → Prop} (hQ : RetI F Q) {x1 : Int} {s : SS} (h : Sp_Na_leastOf x1 s Q) : AtS F 0 [(0, .ref (F.2.1.1 3)), (1, vI x1)] [] s := by
  unfold Sp_Na_leastOf at h
  refine r_aload_n ok 0 d_Na_leastOf_0 rfl rfl ?_
  refine g_Na_persons ok d_Na_leastOf_1 ?_
  refine r_iload_n ok 1 d_Na_leastOf_4 rfl rfl ?_
  refine r_iald ok 14 d_Na_leastOf_5 (by decide) rfl h.1 ?_
  replace h := h.2
  exact hQ _ _ _ _ _ (ok_code ok) d_Na_leastOf_6 h
theorem L_Na_leastOf (l : Launch) (G : GE) (A : Nat → Prop) (hD : ∀ σ, va_D A (GW G σ)) {x1 : Int} {s : SS} {Q : Int → SS → Prop} (h : Sp_Na_leastOf x1 s Q) : Met l y_Na_leastOf (Cond.code y_Na_leastOf prog_6_method_22_code 2 (some .int) :: lw_ok) ({ frames := 0, cells := 0, slots := 0, locals := 0 } : Room) (va_Pc [.ref (G.1 3), vI x1] (gB G s)) (va_Qi (fun (r : Int32) (s2 : SS) => ∃ x : Int, r = iI x ∧ Q x s2) (fun s2 t => gB G s2 t) A) 0 0 A := by
  refine met_i hD (by decide) ⟨rfl, rfl⟩ (Nat.le_of_ble_eq_true rfl) (lv := [(0, .ref (G.1 3)), (1, vI x1)]) rfl (fun F h1 h2 h3 hm ok hQ => ?_)
  subst h1 h2 h3
  have hDF := hD
  exact K_Na_leastOf_e hDF hm ok hQ h
theorem d_LS_person_0 : decode prog_1_method_10_code 0 = .ok (.aload_n 0, 1) := by decide +kernel
theorem d_LS_person_1 : decode prog_1_method_10_code 1 = .ok (.iload_n 2, 1) := by decide +kernel
theorem d_LS_person_2 : decode prog_1_method_10_code 2 = .ok (.invokevirtual 146, 3) := by decide +kernel
theorem d_LS_person_5 : decode prog_1_method_10_code 5 = .ok (.istore_n 3, 1) := by decide +kernel
theorem d_LS_person_6 : decode prog_1_method_10_code 6 = .ok (.aload_n 0, 1) := by decide +kernel
theorem d_LS_person_7 : decode prog_1_method_10_code 7 = .ok (.iload_n 1, 1) := by decide +kernel
theorem d_LS_person_8 : decode prog_1_method_10_code 8 = .ok (.iload_n 3, 1) := by decide +kernel
theorem d_LS_person_9 : decode prog_1_method_10_code 9 = .ok (.invokevirtual 149, 3) := by decide +kernel
theorem d_LS_person_12 : decode prog_1_method_10_code 12 = .ok (.ifCond .ne 5, 3) := by decide +kernel
theorem d_LS_person_15 : decode prog_1_method_10_code 15 = .ok (.iconst (-1), 1) := by decide +kernel
theorem d_LS_person_16 : decode prog_1_method_10_code 16 = .ok (.ireturn, 1) := by decide +kernel
theorem d_LS_person_17 : decode prog_1_method_10_code 17 = .ok (.aload_n 0, 1) := by decide +kernel
theorem d_LS_person_18 : decode prog_1_method_10_code 18 = .ok (.getfield 26, 3) := by decide +kernel
theorem d_LS_person_21 : decode prog_1_method_10_code 21 = .ok (.iload_n 3, 1) := by decide +kernel
theorem d_LS_person_22 : decode prog_1_method_10_code 22 = .ok (.invokevirtual 153, 3) := by decide +kernel
theorem d_LS_person_25 : decode prog_1_method_10_code 25 = .ok (.aload_n 0, 1) := by decide +kernel
theorem d_LS_person_26 : decode prog_1_method_10_code 26 = .ok (.getfield 26, 3) := by decide +kernel
theorem d_LS_person_29 : decode prog_1_method_10_code 29 = .ok (.iload_n 1, 1) := by decide +kernel
theorem d_LS_person_30 : decode prog_1_method_10_code 30 = .ok (.invokevirtual 164, 3) := by decide +kernel
theorem d_LS_person_33 : decode prog_1_method_10_code 33 = .ok (.ireturn, 1) := by decide +kernel
set_option maxHeartbeats 4000000 in
set_option maxRecDepth 100000 in
theorem K_LS_person_e {F : FT} (hD : ∀ σ, va_D F.2.2.1 (GW F.2.1 σ)) (hm : F.2.2.2.2.2.2.2.2.2.2.2.2.2.2.1 = 4) (ok : OkF F prog_1_method_10_code "LastSeen" ({ frames := 3, cells := 0, slots := 0, locals := 67 } : Room)) {Q : Int → SS → Prop} (hQ : RetI F Q) {x1 x2 : Int} {s : SS} (h : Sp_LS_person x1 x2 s Q) : AtS F 0 [(0, .ref (F.2.1.1 0)), (1, vI x1), (2, vI x2)] [] s := by
  unfold Sp_LS_person at h
  refine r_aload_n ok 0 d_LS_person_0 rfl rfl ?_
  refine r_iload_n ok 2 d_LS_person_1 rfl rfl ?_
  refine r_callVi (As := [vI x2]) (rest := []) ok 0 rfl rfl rfl wl_LS_146 wi_y_LS_upTo ws_y_LS_upTo wn_LS wc_y_LS_upTo (by decide) (by decide) hh_LS_upTo (Nat.le_of_ble_eq_true rfl) rfl d_LS_person_2 (L_LS_upTo F.1 F.2.1 F.2.2.1 hD h) (fun r2 s1 h => ?_)
  refine r_istore_n ok [(3, vI r2), (0, .ref (F.2.1.1 0)), (1, vI x1), (2, vI x2)] d_LS_person_5 rfl hm (by decide) rfl ?_
  refine r_aload_n ok 1 d_LS_person_6 rfl rfl ?_
  refine r_iload_n ok 2 d_LS_person_7 rfl rfl ?_
  refine r_iload_n ok 0 d_LS_person_8 rfl rfl ?_
  refine r_callVi (As := [vI x1, vI r2]) (rest := []) ok 0 rfl rfl rfl wl_LS_149 wi_y_LS_isNameBy ws_y_LS_isNameBy wn_LS wc_y_LS_isNameBy (by decide) (by decide) hh_LS_isNameBy (Nat.le_of_ble_eq_true rfl) rfl d_LS_person_9 (L_LS_isNameBy F.1 F.2.1 F.2.2.1 hD h) (fun r4 s3 h => ?_)
  refine r_if_ne ok 17 d_LS_person_12 (by decide) h.1 (fun c => ?_) (fun c => ?_)
  · replace h := h.2.1 c
    refine r_aload_n ok 1 d_LS_person_17 rfl rfl ?_
    refine g_LS_names ok d_LS_person_18 ?_
    refine r_iload_n ok 0 d_LS_person_21 rfl rfl ?_
    refine r_callVv (As := [vI r2]) (rest := []) ok 3 rfl rfl rfl wl_LS_153 wi_y_Na_readBy ws_y_Na_readBy wn_Na wc_y_Na_readBy (by decide) (by decide) hh_Na_readBy (Nat.le_of_ble_eq_true rfl) rfl d_LS_person_22 (L_Na_readBy F.1 F.2.1 F.2.2.1 hD h) (fun s5 h => ?_)
    refine r_aload_n ok 1 d_LS_person_25 rfl rfl ?_
    refine g_LS_names ok d_LS_person_26 ?_
    refine r_iload_n ok 2 d_LS_person_29 rfl rfl ?_
    refine r_callVi (As := [vI x1]) (rest := []) ok 3 rfl rfl rfl wl_LS_164 wi_y_Na_leastOf ws_y_Na_leastOf wn_Na wc_y_Na_leastOf (by decide) (by decide) hh_Na_leastOf (Nat.le_of_ble_eq_true rfl) rfl d_LS_person_30 (L_Na_leastOf F.1 F.2.1 F.2.2.1 hD h) (fun r7 s6 h => ?_)
    exact hQ _ _ _ _ _ (ok_code ok) d_LS_person_33 h
  · replace h := h.2.2 c
    refine r_iconst ok (-1) d_LS_person_15 rfl ?_
    exact hQ _ _ _ _ _ (ok_code ok) d_LS_person_16 h
theorem L_LS_person (l : Launch) (G : GE) (A : Nat → Prop) (hD : ∀ σ, va_D A (GW G σ)) {x1 x2 : Int} {s : SS} {Q : Int → SS → Prop} (h : Sp_LS_person x1 x2 s Q) : Met l y_LS_person (Cond.code y_LS_person prog_1_method_10_code 4 (some .int) :: lw_ok) ({ frames := 3, cells := 0, slots := 0, locals := 67 } : Room) (va_Pc [.ref (G.1 0), vI x1, vI x2] (gB G s)) (va_Qi (fun (r : Int32) (s2 : SS) => ∃ x : Int, r = iI x ∧ Q x s2) (fun s2 t => gB G s2 t) A) 0 0 A := by
  refine met_i hD (by decide) ⟨rfl, rfl⟩ (Nat.le_of_ble_eq_true rfl) (lv := [(0, .ref (G.1 0)), (1, vI x1), (2, vI x2)]) rfl (fun F h1 h2 h3 hm ok hQ => ?_)
  subst h1 h2 h3
  have hDF := hD
  exact K_LS_person_e hDF hm ok hQ h
theorem d_Na_areTied_0 : decode prog_6_method_24_code 0 = .ok (.aload_n 0, 1) := by decide +kernel
theorem d_Na_areTied_1 : decode prog_6_method_24_code 1 = .ok (.iload_n 1, 1) := by decide +kernel
theorem d_Na_areTied_2 : decode prog_6_method_24_code 2 = .ok (.iload_n 2, 1) := by decide +kernel
theorem d_Na_areTied_3 : decode prog_6_method_24_code 3 = .ok (.invokevirtual 110, 3) := by decide +kernel
theorem d_Na_areTied_6 : decode prog_6_method_24_code 6 = .ok (.iconst 2, 1) := by decide +kernel
theorem d_Na_areTied_7 : decode prog_6_method_24_code 7 = .ok (.if_icmp .ne 22, 3) := by decide +kernel
theorem d_Na_areTied_10 : decode prog_6_method_24_code 10 = .ok (.aload_n 0, 1) := by decide +kernel
theorem d_Na_areTied_11 : decode prog_6_method_24_code 11 = .ok (.getfield 36, 3) := by decide +kernel
theorem d_Na_areTied_14 : decode prog_6_method_24_code 14 = .ok (.iload_n 1, 1) := by decide +kernel
theorem d_Na_areTied_15 : decode prog_6_method_24_code 15 = .ok (.iaload, 1) := by decide +kernel
theorem d_Na_areTied_16 : decode prog_6_method_24_code 16 = .ok (.aload_n 0, 1) := by decide +kernel
theorem d_Na_areTied_17 : decode prog_6_method_24_code 17 = .ok (.getfield 36, 3) := by decide +kernel
theorem d_Na_areTied_20 : decode prog_6_method_24_code 20 = .ok (.iload_n 2, 1) := by decide +kernel
theorem d_Na_areTied_21 : decode prog_6_method_24_code 21 = .ok (.iaload, 1) := by decide +kernel
theorem d_Na_areTied_22 : decode prog_6_method_24_code 22 = .ok (.if_icmp .ne 7, 3) := by decide +kernel
theorem d_Na_areTied_25 : decode prog_6_method_24_code 25 = .ok (.iconst 1, 1) := by decide +kernel
theorem d_Na_areTied_26 : decode prog_6_method_24_code 26 = .ok (.goto 4, 3) := by decide +kernel
theorem d_Na_areTied_29 : decode prog_6_method_24_code 29 = .ok (.iconst 0, 1) := by decide +kernel
theorem d_Na_areTied_30 : decode prog_6_method_24_code 30 = .ok (.ireturn, 1) := by decide +kernel
set_option maxHeartbeats 4000000 in
set_option maxRecDepth 100000 in
theorem K_Na_areTied_e {F : FT} (hD : ∀ σ, va_D F.2.2.1 (GW F.2.1 σ)) (hm : F.2.2.2.2.2.2.2.2.2.2.2.2.2.2.1 = 3) (ok : OkF F prog_6_method_24_code "LastSeen$Names" ({ frames := 1, cells := 0, slots := 0, locals := 22 } : Room)) {Q : Int → SS → Prop} (hQ : RetZ F Q) {x1 x2 : Int} {s : SS} (h : Sp_Na_areTied x1 x2 s Q) : AtS F 0 [(0, .ref (F.2.1.1 3)), (1, vI x1), (2, vI x2)] [] s := by
  unfold Sp_Na_areTied at h
  refine r_aload_n ok 0 d_Na_areTied_0 rfl rfl ?_
  refine r_iload_n ok 1 d_Na_areTied_1 rfl rfl ?_
  refine r_iload_n ok 2 d_Na_areTied_2 rfl rfl ?_
  refine r_callVi (As := [vI x1, vI x2]) (rest := []) ok 3 rfl rfl rfl wl_Na_110 wi_y_Na_bond ws_y_Na_bond wn_Na wc_y_Na_bond (by decide) (by decide) hh_Na_bond (Nat.le_of_ble_eq_true rfl) rfl d_Na_areTied_3 (L_Na_bond F.1 F.2.1 F.2.2.1 hD h) (fun r2 s1 h => ?_)
  refine r_iconst ok 2 d_Na_areTied_6 rfl ?_
  refine r_icmp_ne ok 29 d_Na_areTied_7 (by decide) h.1 (by decide) (fun c => ?_) (fun c => ?_)
  · replace h := h.2.1 c
    refine r_iconst ok 0 d_Na_areTied_29 rfl ?_
    exact hQ _ _ _ _ _ (ok_code ok) d_Na_areTied_30 (by decide) h
  · replace h := h.2.2 c
    refine r_aload_n ok 0 d_Na_areTied_10 rfl rfl ?_
    refine g_Na_persons ok d_Na_areTied_11 ?_
    refine r_iload_n ok 1 d_Na_areTied_14 rfl rfl ?_
    refine r_iald ok 14 d_Na_areTied_15 (by decide) rfl h.1 ?_
    replace h := h.2
    refine r_aload_n ok 0 d_Na_areTied_16 rfl rfl ?_
    refine g_Na_persons ok d_Na_areTied_17 ?_
    refine r_iload_n ok 2 d_Na_areTied_20 rfl rfl ?_
    refine r_iald ok 14 d_Na_areTied_21 (by decide) rfl h.1 ?_
    replace h := h.2
    refine r_icmp_ne ok 29 d_Na_areTied_22 (by decide) h.1 h.2.1 (fun c => ?_) (fun c => ?_)
    · replace h := h.2.2.1 c
      refine r_iconst ok 0 d_Na_areTied_29 rfl ?_
      exact hQ _ _ _ _ _ (ok_code ok) d_Na_areTied_30 (by decide) h
    · replace h := h.2.2.2 c
      refine r_iconst ok 1 d_Na_areTied_25 rfl ?_
      refine r_goto ok 30 d_Na_areTied_26 (by decide) ?_
      exact hQ _ _ _ _ _ (ok_code ok) d_Na_areTied_30 (by decide) h
theorem L_Na_areTied (l : Launch) (G : GE) (A : Nat → Prop) (hD : ∀ σ, va_D A (GW G σ)) {x1 x2 : Int} {s : SS} {Q : Int → SS → Prop} (h : Sp_Na_areTied x1 x2 s Q) : Met l y_Na_areTied (Cond.code y_Na_areTied prog_6_method_24_code 3 (some .boolean) :: lw_ok) ({ frames := 1, cells := 0, slots := 0, locals := 22 } : Room) (va_Pc [.ref (G.1 3), vI x1, vI x2] (gB G s)) (va_Qi (fun (r : Int32) (s2 : SS) => ∃ x : Int, r = iI x ∧ Q x s2) (fun s2 t => gB G s2 t) A) 0 0 A := by
  refine met_z hD (by decide) ⟨rfl, rfl⟩ (Nat.le_of_ble_eq_true rfl) (lv := [(0, .ref (G.1 3)), (1, vI x1), (2, vI x2)]) rfl (fun F h1 h2 h3 hm ok hQ => ?_)
  subst h1 h2 h3
  have hDF := hD
  exact K_Na_areTied_e hDF hm ok hQ h
theorem d_Na_countStepsTo_0 : decode prog_6_method_27_code 0 = .ok (.iconst 0, 1) := by decide +kernel
theorem d_Na_countStepsTo_1 : decode prog_6_method_27_code 1 = .ok (.istore_n 2, 1) := by decide +kernel
theorem d_Na_countStepsTo_2 : decode prog_6_method_27_code 2 = .ok (.iload_n 2, 1) := by decide +kernel
theorem d_Na_countStepsTo_3 : decode prog_6_method_27_code 3 = .ok (.aload_n 0, 1) := by decide +kernel
theorem d_Na_countStepsTo_4 : decode prog_6_method_27_code 4 = .ok (.getfield 89, 3) := by decide +kernel
theorem d_Na_countStepsTo_7 : decode prog_6_method_27_code 7 = .ok (.if_icmp .ge 17, 3) := by decide +kernel
theorem d_Na_countStepsTo_10 : decode prog_6_method_27_code 10 = .ok (.aload_n 0, 1) := by decide +kernel
theorem d_Na_countStepsTo_11 : decode prog_6_method_27_code 11 = .ok (.getfield 42, 3) := by decide +kernel
theorem d_Na_countStepsTo_14 : decode prog_6_method_27_code 14 = .ok (.iload_n 2, 1) := by decide +kernel
theorem d_Na_countStepsTo_15 : decode prog_6_method_27_code 15 = .ok (.bipush 20, 2) := by decide +kernel
theorem d_Na_countStepsTo_17 : decode prog_6_method_27_code 17 = .ok (.iastore, 1) := by decide +kernel
theorem d_Na_countStepsTo_18 : decode prog_6_method_27_code 18 = .ok (.iinc 2 1, 3) := by decide +kernel
theorem d_Na_countStepsTo_21 : decode prog_6_method_27_code 21 = .ok (.goto (-19), 3) := by decide +kernel
theorem d_Na_countStepsTo_24 : decode prog_6_method_27_code 24 = .ok (.iconst 1, 1) := by decide +kernel
theorem d_Na_countStepsTo_25 : decode prog_6_method_27_code 25 = .ok (.istore_n 2, 1) := by decide +kernel
theorem d_Na_countStepsTo_26 : decode prog_6_method_27_code 26 = .ok (.aload_n 0, 1) := by decide +kernel
theorem d_Na_countStepsTo_27 : decode prog_6_method_27_code 27 = .ok (.getfield 39, 3) := by decide +kernel
theorem d_Na_countStepsTo_30 : decode prog_6_method_27_code 30 = .ok (.iconst 0, 1) := by decide +kernel
theorem d_Na_countStepsTo_31 : decode prog_6_method_27_code 31 = .ok (.iload_n 1, 1) := by decide +kernel
theorem d_Na_countStepsTo_32 : decode prog_6_method_27_code 32 = .ok (.iastore, 1) := by decide +kernel
theorem d_Na_countStepsTo_33 : decode prog_6_method_27_code 33 = .ok (.aload_n 0, 1) := by decide +kernel
theorem d_Na_countStepsTo_34 : decode prog_6_method_27_code 34 = .ok (.getfield 42, 3) := by decide +kernel
theorem d_Na_countStepsTo_37 : decode prog_6_method_27_code 37 = .ok (.iload_n 1, 1) := by decide +kernel
theorem d_Na_countStepsTo_38 : decode prog_6_method_27_code 38 = .ok (.iconst 0, 1) := by decide +kernel
theorem d_Na_countStepsTo_39 : decode prog_6_method_27_code 39 = .ok (.iastore, 1) := by decide +kernel
theorem d_Na_countStepsTo_40 : decode prog_6_method_27_code 40 = .ok (.iconst 0, 1) := by decide +kernel
theorem d_Na_countStepsTo_41 : decode prog_6_method_27_code 41 = .ok (.istore_n 3, 1) := by decide +kernel
theorem d_Na_countStepsTo_42 : decode prog_6_method_27_code 42 = .ok (.iload_n 3, 1) := by decide +kernel
theorem d_Na_countStepsTo_43 : decode prog_6_method_27_code 43 = .ok (.iload_n 2, 1) := by decide +kernel
theorem d_Na_countStepsTo_44 : decode prog_6_method_27_code 44 = .ok (.if_icmp .ge 95, 3) := by decide +kernel
theorem d_Na_countStepsTo_47 : decode prog_6_method_27_code 47 = .ok (.iload_n 3, 1) := by decide +kernel
theorem d_Na_countStepsTo_48 : decode prog_6_method_27_code 48 = .ok (.bipush 20, 2) := by decide +kernel
theorem d_Na_countStepsTo_50 : decode prog_6_method_27_code 50 = .ok (.if_icmp .ge 89, 3) := by decide +kernel
theorem d_Na_countStepsTo_53 : decode prog_6_method_27_code 53 = .ok (.iconst 0, 1) := by decide +kernel
theorem d_Na_countStepsTo_54 : decode prog_6_method_27_code 54 = .ok (.istore 4, 2) := by decide +kernel
theorem d_Na_countStepsTo_56 : decode prog_6_method_27_code 56 = .ok (.iload 4, 2) := by decide +kernel
theorem d_Na_countStepsTo_58 : decode prog_6_method_27_code 58 = .ok (.aload_n 0, 1) := by decide +kernel
theorem d_Na_countStepsTo_59 : decode prog_6_method_27_code 59 = .ok (.getfield 89, 3) := by decide +kernel
theorem d_Na_countStepsTo_62 : decode prog_6_method_27_code 62 = .ok (.if_icmp .ge 71, 3) := by decide +kernel
theorem d_Na_countStepsTo_65 : decode prog_6_method_27_code 65 = .ok (.aload_n 0, 1) := by decide +kernel
theorem d_Na_countStepsTo_66 : decode prog_6_method_27_code 66 = .ok (.getfield 42, 3) := by decide +kernel
theorem d_Na_countStepsTo_69 : decode prog_6_method_27_code 69 = .ok (.iload 4, 2) := by decide +kernel
theorem d_Na_countStepsTo_71 : decode prog_6_method_27_code 71 = .ok (.iaload, 1) := by decide +kernel
theorem d_Na_countStepsTo_72 : decode prog_6_method_27_code 72 = .ok (.bipush 20, 2) := by decide +kernel
theorem d_Na_countStepsTo_74 : decode prog_6_method_27_code 74 = .ok (.if_icmp .lt 53, 3) := by decide +kernel
theorem d_Na_countStepsTo_77 : decode prog_6_method_27_code 77 = .ok (.aload_n 0, 1) := by decide +kernel
theorem d_Na_countStepsTo_78 : decode prog_6_method_27_code 78 = .ok (.aload_n 0, 1) := by decide +kernel
theorem d_Na_countStepsTo_79 : decode prog_6_method_27_code 79 = .ok (.getfield 39, 3) := by decide +kernel
theorem d_Na_countStepsTo_82 : decode prog_6_method_27_code 82 = .ok (.iload_n 3, 1) := by decide +kernel
theorem d_Na_countStepsTo_83 : decode prog_6_method_27_code 83 = .ok (.iaload, 1) := by decide +kernel
theorem d_Na_countStepsTo_84 : decode prog_6_method_27_code 84 = .ok (.iload 4, 2) := by decide +kernel
theorem d_Na_countStepsTo_86 : decode prog_6_method_27_code 86 = .ok (.invokevirtual 110, 3) := by decide +kernel
theorem d_Na_countStepsTo_89 : decode prog_6_method_27_code 89 = .ok (.iconst 1, 1) := by decide +kernel
theorem d_Na_countStepsTo_90 : decode prog_6_method_27_code 90 = .ok (.if_icmp .eq 6, 3) := by decide +kernel
theorem d_Na_countStepsTo_93 : decode prog_6_method_27_code 93 = .ok (.goto 34, 3) := by decide +kernel
theorem d_Na_countStepsTo_96 : decode prog_6_method_27_code 96 = .ok (.aload_n 0, 1) := by decide +kernel
theorem d_Na_countStepsTo_97 : decode prog_6_method_27_code 97 = .ok (.getfield 42, 3) := by decide +kernel
theorem d_Na_countStepsTo_100 : decode prog_6_method_27_code 100 = .ok (.iload 4, 2) := by decide +kernel
theorem d_Na_countStepsTo_102 : decode prog_6_method_27_code 102 = .ok (.aload_n 0, 1) := by decide +kernel
theorem d_Na_countStepsTo_103 : decode prog_6_method_27_code 103 = .ok (.getfield 42, 3) := by decide +kernel
theorem d_Na_countStepsTo_106 : decode prog_6_method_27_code 106 = .ok (.aload_n 0, 1) := by decide +kernel
theorem d_Na_countStepsTo_107 : decode prog_6_method_27_code 107 = .ok (.getfield 39, 3) := by decide +kernel
theorem d_Na_countStepsTo_110 : decode prog_6_method_27_code 110 = .ok (.iload_n 3, 1) := by decide +kernel
theorem d_Na_countStepsTo_111 : decode prog_6_method_27_code 111 = .ok (.iaload, 1) := by decide +kernel
theorem d_Na_countStepsTo_112 : decode prog_6_method_27_code 112 = .ok (.iaload, 1) := by decide +kernel
theorem d_Na_countStepsTo_113 : decode prog_6_method_27_code 113 = .ok (.iconst 1, 1) := by decide +kernel
theorem d_Na_countStepsTo_114 : decode prog_6_method_27_code 114 = .ok (.iadd, 1) := by decide +kernel
theorem d_Na_countStepsTo_115 : decode prog_6_method_27_code 115 = .ok (.iastore, 1) := by decide +kernel
theorem d_Na_countStepsTo_116 : decode prog_6_method_27_code 116 = .ok (.aload_n 0, 1) := by decide +kernel
theorem d_Na_countStepsTo_117 : decode prog_6_method_27_code 117 = .ok (.getfield 39, 3) := by decide +kernel
theorem d_Na_countStepsTo_120 : decode prog_6_method_27_code 120 = .ok (.iload_n 2, 1) := by decide +kernel
theorem d_Na_countStepsTo_121 : decode prog_6_method_27_code 121 = .ok (.iload 4, 2) := by decide +kernel
theorem d_Na_countStepsTo_123 : decode prog_6_method_27_code 123 = .ok (.iastore, 1) := by decide +kernel
theorem d_Na_countStepsTo_124 : decode prog_6_method_27_code 124 = .ok (.iinc 2 1, 3) := by decide +kernel
theorem d_Na_countStepsTo_127 : decode prog_6_method_27_code 127 = .ok (.iinc 4 1, 3) := by decide +kernel
theorem d_Na_countStepsTo_130 : decode prog_6_method_27_code 130 = .ok (.goto (-74), 3) := by decide +kernel
theorem d_Na_countStepsTo_133 : decode prog_6_method_27_code 133 = .ok (.iinc 3 1, 3) := by decide +kernel
theorem d_Na_countStepsTo_136 : decode prog_6_method_27_code 136 = .ok (.goto (-94), 3) := by decide +kernel
theorem d_Na_countStepsTo_139 : decode prog_6_method_27_code 139 = .ok (.return_, 1) := by decide +kernel
set_option maxHeartbeats 4000000 in
set_option maxRecDepth 100000 in
theorem K_Na_countStepsTo_2 {F : FT} (hD : ∀ σ, va_D F.2.2.1 (GW F.2.1 σ)) (hm : F.2.2.2.2.2.2.2.2.2.2.2.2.2.2.1 = 5) (ok : OkF F prog_6_method_27_code "LastSeen$Names" ({ frames := 1, cells := 0, slots := 0, locals := 22 } : Room)) {Q : SS → Prop} (hQ : RetV F Q) {x1 x2 : Int} {s : SS} (h : B_Na_countStepsTo_2 Q (fun x1 x2 s => AtS F 2 [(0, .ref (F.2.1.1 3)), (1, vI x1), (2, vI x2)] [] s) (fun x2 x3 s => AtS F 42 [(0, .ref (F.2.1.1 3)), (2, vI x2), (3, vI x3)] [] s) (fun x2 x3 x4 s => AtS F 56 [(0, .ref (F.2.1.1 3)), (2, vI x2), (3, vI x3), (4, vI x4)] [] s) x1 x2 s) : AtS F 2 [(0, .ref (F.2.1.1 3)), (1, vI x1), (2, vI x2)] [] s := by
  unfold B_Na_countStepsTo_2 at h
  refine r_iload_n ok 2 d_Na_countStepsTo_2 rfl rfl ?_
  refine r_aload_n ok 0 d_Na_countStepsTo_3 rfl rfl ?_
  refine g_Na_sizeBy ok d_Na_countStepsTo_4 ?_
  refine r_icmp_ge ok 24 d_Na_countStepsTo_7 (by decide) h.1 h.2.1 (fun c => ?_) (fun c => ?_)
  · replace h := h.2.2.1 c
    refine r_iconst ok 1 d_Na_countStepsTo_24 rfl ?_
    refine r_istore_n ok [(2, vI 1), (0, .ref (F.2.1.1 3)), (1, vI x1)] d_Na_countStepsTo_25 rfl hm (by decide) rfl ?_
    refine r_aload_n ok 1 d_Na_countStepsTo_26 rfl rfl ?_
    refine g_Na_row ok d_Na_countStepsTo_27 ?_
    refine r_iconst ok 0 d_Na_countStepsTo_30 rfl ?_
    refine r_iload_n ok 2 d_Na_countStepsTo_31 rfl rfl ?_
    refine r_iast ok 15 d_Na_countStepsTo_32 (by decide) rfl (by decide) ?_
    replace h := h _ rfl
    generalize sA s 15 0 x1 = s1 at h ⊢
    refine r_aload_n ok 1 d_Na_countStepsTo_33 rfl rfl ?_
    refine g_Na_steps ok d_Na_countStepsTo_34 ?_
    refine r_iload_n ok 2 d_Na_countStepsTo_37 rfl rfl ?_
    refine r_iconst ok 0 d_Na_countStepsTo_38 rfl ?_
    refine r_iast ok 16 d_Na_countStepsTo_39 (by decide) rfl h.1 ?_
    replace h := h.2 _ rfl
    generalize sA s1 16 x1 0 = s2 at h ⊢
    refine r_iconst ok 0 d_Na_countStepsTo_40 rfl ?_
    refine r_istore_n ok [(3, vI 0), (2, vI 1), (0, .ref (F.2.1.1 3)), (1, vI x1)] d_Na_countStepsTo_41 rfl hm (by decide) rfl ?_
    exact r_sub [2, 1, 0] rfl h
  · replace h := h.2.2.2 c
    refine r_aload_n ok 0 d_Na_countStepsTo_10 rfl rfl ?_
    refine g_Na_steps ok d_Na_countStepsTo_11 ?_
    refine r_iload_n ok 2 d_Na_countStepsTo_14 rfl rfl ?_
    refine r_bipush ok 20 d_Na_countStepsTo_15 (by decide) ?_
    refine r_iast ok 16 d_Na_countStepsTo_17 (by decide) rfl h.1 ?_
    replace h := h.2 _ rfl
    generalize sA s 16 x2 20 = s3 at h ⊢
    refine r_iinc ok 2 (x2 + 1) [(2, vI (x2 + 1)), (0, .ref (F.2.1.1 3)), (1, vI x1)] d_Na_countStepsTo_18 rfl rfl hm (by decide) rfl ?_
    refine r_goto ok 2 d_Na_countStepsTo_21 (by decide) ?_
    exact r_sub [1, 2, 0] rfl h
set_option maxHeartbeats 4000000 in
set_option maxRecDepth 100000 in
theorem K_Na_countStepsTo_42 {F : FT} (hD : ∀ σ, va_D F.2.2.1 (GW F.2.1 σ)) (hm : F.2.2.2.2.2.2.2.2.2.2.2.2.2.2.1 = 5) (ok : OkF F prog_6_method_27_code "LastSeen$Names" ({ frames := 1, cells := 0, slots := 0, locals := 22 } : Room)) {Q : SS → Prop} (hQ : RetV F Q) {x2 x3 : Int} {s : SS} (h : B_Na_countStepsTo_42 Q (fun x1 x2 s => AtS F 2 [(0, .ref (F.2.1.1 3)), (1, vI x1), (2, vI x2)] [] s) (fun x2 x3 s => AtS F 42 [(0, .ref (F.2.1.1 3)), (2, vI x2), (3, vI x3)] [] s) (fun x2 x3 x4 s => AtS F 56 [(0, .ref (F.2.1.1 3)), (2, vI x2), (3, vI x3), (4, vI x4)] [] s) x2 x3 s) : AtS F 42 [(0, .ref (F.2.1.1 3)), (2, vI x2), (3, vI x3)] [] s := by
  unfold B_Na_countStepsTo_42 at h
  refine r_iload_n ok 2 d_Na_countStepsTo_42 rfl rfl ?_
  refine r_iload_n ok 1 d_Na_countStepsTo_43 rfl rfl ?_
  refine r_icmp_ge ok 139 d_Na_countStepsTo_44 (by decide) h.1 h.2.1 (fun c => ?_) (fun c => ?_)
  · replace h := h.2.2.1 c
    exact hQ _ _ _ _ (ok_code ok) d_Na_countStepsTo_139 h
  · replace h := h.2.2.2 c
    refine r_iload_n ok 2 d_Na_countStepsTo_47 rfl rfl ?_
    refine r_bipush ok 20 d_Na_countStepsTo_48 (by decide) ?_
    refine r_icmp_ge ok 139 d_Na_countStepsTo_50 (by decide) h.1 (by decide) (fun c => ?_) (fun c => ?_)
    · replace h := h.2.1 c
      exact hQ _ _ _ _ (ok_code ok) d_Na_countStepsTo_139 h
    · replace h := h.2.2 c
      refine r_iconst ok 0 d_Na_countStepsTo_53 rfl ?_
      refine r_istore ok [(4, vI 0), (0, .ref (F.2.1.1 3)), (2, vI x2), (3, vI x3)] d_Na_countStepsTo_54 hm (by decide) rfl ?_
      exact r_sub [1, 2, 3, 0] rfl h
set_option maxHeartbeats 4000000 in
set_option maxRecDepth 100000 in
theorem K_Na_countStepsTo_56 {F : FT} (hD : ∀ σ, va_D F.2.2.1 (GW F.2.1 σ)) (hm : F.2.2.2.2.2.2.2.2.2.2.2.2.2.2.1 = 5) (ok : OkF F prog_6_method_27_code "LastSeen$Names" ({ frames := 1, cells := 0, slots := 0, locals := 22 } : Room)) {Q : SS → Prop} (hQ : RetV F Q) {x2 x3 x4 : Int} {s : SS} (h : B_Na_countStepsTo_56 Q (fun x1 x2 s => AtS F 2 [(0, .ref (F.2.1.1 3)), (1, vI x1), (2, vI x2)] [] s) (fun x2 x3 s => AtS F 42 [(0, .ref (F.2.1.1 3)), (2, vI x2), (3, vI x3)] [] s) (fun x2 x3 x4 s => AtS F 56 [(0, .ref (F.2.1.1 3)), (2, vI x2), (3, vI x3), (4, vI x4)] [] s) x2 x3 x4 s) : AtS F 56 [(0, .ref (F.2.1.1 3)), (2, vI x2), (3, vI x3), (4, vI x4)] [] s := by
  unfold B_Na_countStepsTo_56 at h
  refine r_iload ok 3 d_Na_countStepsTo_56 rfl ?_
  refine r_aload_n ok 0 d_Na_countStepsTo_58 rfl rfl ?_
  refine g_Na_sizeBy ok d_Na_countStepsTo_59 ?_
  refine r_icmp_ge ok 133 d_Na_countStepsTo_62 (by decide) h.1 h.2.1 (fun c => ?_) (fun c => ?_)
  · replace h := h.2.2.1 c
    refine r_iinc ok 2 (x3 + 1) [(3, vI (x3 + 1)), (0, .ref (F.2.1.1 3)), (2, vI x2), (4, vI x4)] d_Na_countStepsTo_133 rfl rfl hm (by decide) rfl ?_
    refine r_goto ok 42 d_Na_countStepsTo_136 (by decide) ?_
    exact r_sub [1, 2, 0] rfl h
  · replace h := h.2.2.2 c
    refine r_aload_n ok 0 d_Na_countStepsTo_65 rfl rfl ?_
    refine g_Na_steps ok d_Na_countStepsTo_66 ?_
    refine r_iload ok 3 d_Na_countStepsTo_69 rfl ?_
    refine r_iald ok 16 d_Na_countStepsTo_71 (by decide) rfl h.1 ?_
    replace h := h.2
    refine r_bipush ok 20 d_Na_countStepsTo_72 (by decide) ?_
    refine r_icmp_lt ok 127 d_Na_countStepsTo_74 (by decide) h.1 (by decide) (fun c => ?_) (fun c => ?_)
    · replace h := h.2.1 c
      refine r_iinc ok 3 (x4 + 1) [(4, vI (x4 + 1)), (0, .ref (F.2.1.1 3)), (2, vI x2), (3, vI x3)] d_Na_countStepsTo_127 rfl rfl hm (by decide) rfl ?_
      refine r_goto ok 56 d_Na_countStepsTo_130 (by decide) ?_
      exact r_sub [1, 2, 3, 0] rfl h
    · replace h := h.2.2 c
      refine r_aload_n ok 0 d_Na_countStepsTo_77 rfl rfl ?_
      refine r_aload_n ok 0 d_Na_countStepsTo_78 rfl rfl ?_
      refine g_Na_row ok d_Na_countStepsTo_79 ?_
      refine r_iload_n ok 2 d_Na_countStepsTo_82 rfl rfl ?_
      refine r_iald ok 15 d_Na_countStepsTo_83 (by decide) rfl h.1 ?_
      replace h := h.2
      refine r_iload ok 3 d_Na_countStepsTo_84 rfl ?_
      refine r_callVi (As := [vI (s.2 15 x3), vI x4]) (rest := []) ok 3 rfl rfl rfl wl_Na_110 wi_y_Na_bond ws_y_Na_bond wn_Na wc_y_Na_bond (by decide) (by decide) hh_Na_bond (Nat.le_of_ble_eq_true rfl) rfl d_Na_countStepsTo_86 (L_Na_bond F.1 F.2.1 F.2.2.1 hD h) (fun r5 s4 h => ?_)
      refine r_iconst ok 1 d_Na_countStepsTo_89 rfl ?_
      refine r_icmp_eq ok 96 d_Na_countStepsTo_90 (by decide) h.1 (by decide) (fun c => ?_) (fun c => ?_)
      · replace h := h.2.1 c
        refine r_aload_n ok 0 d_Na_countStepsTo_96 rfl rfl ?_
        refine g_Na_steps ok d_Na_countStepsTo_97 ?_
        refine r_iload ok 3 d_Na_countStepsTo_100 rfl ?_
        refine r_aload_n ok 0 d_Na_countStepsTo_102 rfl rfl ?_
        refine g_Na_steps ok d_Na_countStepsTo_103 ?_
        refine r_aload_n ok 0 d_Na_countStepsTo_106 rfl rfl ?_
        refine g_Na_row ok d_Na_countStepsTo_107 ?_
        refine r_iload_n ok 2 d_Na_countStepsTo_110 rfl rfl ?_
        refine r_iald ok 15 d_Na_countStepsTo_111 (by decide) rfl h.1 ?_
        replace h := h.2
        refine r_iald ok 16 d_Na_countStepsTo_112 (by decide) rfl h.1 ?_
        replace h := h.2
        refine r_iconst ok 1 d_Na_countStepsTo_113 rfl ?_
        refine r_iadd ok d_Na_countStepsTo_114 ?_
        refine r_iast ok 16 d_Na_countStepsTo_115 (by decide) rfl h.1 ?_
        replace h := h.2 _ rfl
        generalize sA s4 16 x4 ((s4.2 16 (s4.2 15 x3)) + 1) = s6 at h ⊢
        refine r_aload_n ok 0 d_Na_countStepsTo_116 rfl rfl ?_
        refine g_Na_row ok d_Na_countStepsTo_117 ?_
        refine r_iload_n ok 1 d_Na_countStepsTo_120 rfl rfl ?_
        refine r_iload ok 3 d_Na_countStepsTo_121 rfl ?_
        refine r_iast ok 15 d_Na_countStepsTo_123 (by decide) rfl h.1 ?_
        replace h := h.2 _ rfl
        generalize sA s6 15 x2 x4 = s7 at h ⊢
        refine r_iinc ok 1 (x2 + 1) [(2, vI (x2 + 1)), (0, .ref (F.2.1.1 3)), (3, vI x3), (4, vI x4)] d_Na_countStepsTo_124 rfl rfl hm (by decide) rfl ?_
        refine r_iinc ok 3 (x4 + 1) [(4, vI (x4 + 1)), (2, vI (x2 + 1)), (0, .ref (F.2.1.1 3)), (3, vI x3)] d_Na_countStepsTo_127 rfl rfl hm (by decide) rfl ?_
        refine r_goto ok 56 d_Na_countStepsTo_130 (by decide) ?_
        exact r_sub [2, 1, 3, 0] rfl h
      · replace h := h.2.2 c
        refine r_goto ok 127 d_Na_countStepsTo_93 (by decide) ?_
        refine r_iinc ok 3 (x4 + 1) [(4, vI (x4 + 1)), (0, .ref (F.2.1.1 3)), (2, vI x2), (3, vI x3)] d_Na_countStepsTo_127 rfl rfl hm (by decide) rfl ?_
        refine r_goto ok 56 d_Na_countStepsTo_130 (by decide) ?_
        exact r_sub [1, 2, 3, 0] rfl h
set_option maxHeartbeats 4000000 in
set_option maxRecDepth 100000 in
theorem K_Na_countStepsTo_e {F : FT} (hD : ∀ σ, va_D F.2.2.1 (GW F.2.1 σ)) (hm : F.2.2.2.2.2.2.2.2.2.2.2.2.2.2.1 = 5) (ok : OkF F prog_6_method_27_code "LastSeen$Names" ({ frames := 1, cells := 0, slots := 0, locals := 22 } : Room)) {Q : SS → Prop} (hQ : RetV F Q) {x1 : Int} {s : SS} (h : B_Na_countStepsTo_e Q (fun x1 x2 s => AtS F 2 [(0, .ref (F.2.1.1 3)), (1, vI x1), (2, vI x2)] [] s) (fun x2 x3 s => AtS F 42 [(0, .ref (F.2.1.1 3)), (2, vI x2), (3, vI x3)] [] s) (fun x2 x3 x4 s => AtS F 56 [(0, .ref (F.2.1.1 3)), (2, vI x2), (3, vI x3), (4, vI x4)] [] s) x1 s) : AtS F 0 [(0, .ref (F.2.1.1 3)), (1, vI x1)] [] s := by
  unfold B_Na_countStepsTo_e at h
  refine r_iconst ok 0 d_Na_countStepsTo_0 rfl ?_
  refine r_istore_n ok [(2, vI 0), (0, .ref (F.2.1.1 3)), (1, vI x1)] d_Na_countStepsTo_1 rfl hm (by decide) rfl ?_
  exact r_sub [1, 2, 0] rfl h
theorem L_Na_countStepsTo (l : Launch) (G : GE) (A : Nat → Prop) (hD : ∀ σ, va_D A (GW G σ)) {x1 : Int} {s : SS} {Q : SS → Prop} (h : Sp_Na_countStepsTo x1 s Q) : Met l y_Na_countStepsTo (Cond.code y_Na_countStepsTo prog_6_method_27_code 5 (none) :: lw_ok) ({ frames := 1, cells := 0, slots := 0, locals := 22 } : Room) (va_Pc [.ref (G.1 3), vI x1] (gB G s)) (va_Qv (fun (s2 : SS) => Q s2) (fun s2 t => gB G s2 t) A) 0 0 A := by
  refine met_v hD (by decide) ⟨rfl, rfl⟩ (Nat.le_of_ble_eq_true rfl) (lv := [(0, .ref (G.1 3)), (1, vI x1)]) rfl (fun F h1 h2 h3 hm ok hQ => ?_)
  subst h1 h2 h3
  have hDF := hD
  exact K_Na_countStepsTo_e hDF hm ok hQ (h _ _ _ (fun _ _ _ hb => K_Na_countStepsTo_2 hDF hm ok hQ hb) (fun _ _ _ hb => K_Na_countStepsTo_42 hDF hm ok hQ hb) (fun _ _ _ _ hb => K_Na_countStepsTo_56 hDF hm ok hQ hb))
theorem d_Na_nearerThan_0 : decode prog_6_method_28_code 0 = .ok (.iconst 0, 1) := by decide +kernel
theorem d_Na_nearerThan_1 : decode prog_6_method_28_code 1 = .ok (.istore_n 2, 1) := by decide +kernel
theorem d_Na_nearerThan_2 : decode prog_6_method_28_code 2 = .ok (.iload_n 2, 1) := by decide +kernel
theorem d_Na_nearerThan_3 : decode prog_6_method_28_code 3 = .ok (.aload_n 0, 1) := by decide +kernel
theorem d_Na_nearerThan_4 : decode prog_6_method_28_code 4 = .ok (.getfield 89, 3) := by decide +kernel
theorem d_Na_nearerThan_7 : decode prog_6_method_28_code 7 = .ok (.if_icmp .ge 36, 3) := by decide +kernel
theorem d_Na_nearerThan_10 : decode prog_6_method_28_code 10 = .ok (.aload_n 0, 1) := by decide +kernel
theorem d_Na_nearerThan_11 : decode prog_6_method_28_code 11 = .ok (.iload_n 1, 1) := by decide +kernel
theorem d_Na_nearerThan_12 : decode prog_6_method_28_code 12 = .ok (.iload_n 2, 1) := by decide +kernel
theorem d_Na_nearerThan_13 : decode prog_6_method_28_code 13 = .ok (.invokevirtual 110, 3) := by decide +kernel
theorem d_Na_nearerThan_16 : decode prog_6_method_28_code 16 = .ok (.iconst 1, 1) := by decide +kernel
theorem d_Na_nearerThan_17 : decode prog_6_method_28_code 17 = .ok (.if_icmp .ne 20, 3) := by decide +kernel
theorem d_Na_nearerThan_20 : decode prog_6_method_28_code 20 = .ok (.aload_n 0, 1) := by decide +kernel
theorem d_Na_nearerThan_21 : decode prog_6_method_28_code 21 = .ok (.getfield 42, 3) := by decide +kernel
theorem d_Na_nearerThan_24 : decode prog_6_method_28_code 24 = .ok (.iload_n 2, 1) := by decide +kernel
theorem d_Na_nearerThan_25 : decode prog_6_method_28_code 25 = .ok (.iaload, 1) := by decide +kernel
theorem d_Na_nearerThan_26 : decode prog_6_method_28_code 26 = .ok (.aload_n 0, 1) := by decide +kernel
theorem d_Na_nearerThan_27 : decode prog_6_method_28_code 27 = .ok (.getfield 42, 3) := by decide +kernel
theorem d_Na_nearerThan_30 : decode prog_6_method_28_code 30 = .ok (.iload_n 1, 1) := by decide +kernel
theorem d_Na_nearerThan_31 : decode prog_6_method_28_code 31 = .ok (.iaload, 1) := by decide +kernel
theorem d_Na_nearerThan_32 : decode prog_6_method_28_code 32 = .ok (.if_icmp .ge 5, 3) := by decide +kernel
theorem d_Na_nearerThan_35 : decode prog_6_method_28_code 35 = .ok (.iload_n 2, 1) := by decide +kernel
theorem d_Na_nearerThan_36 : decode prog_6_method_28_code 36 = .ok (.ireturn, 1) := by decide +kernel
theorem d_Na_nearerThan_37 : decode prog_6_method_28_code 37 = .ok (.iinc 2 1, 3) := by decide +kernel
theorem d_Na_nearerThan_40 : decode prog_6_method_28_code 40 = .ok (.goto (-38), 3) := by decide +kernel
theorem d_Na_nearerThan_43 : decode prog_6_method_28_code 43 = .ok (.iload_n 1, 1) := by decide +kernel
theorem d_Na_nearerThan_44 : decode prog_6_method_28_code 44 = .ok (.ireturn, 1) := by decide +kernel
set_option maxHeartbeats 4000000 in
set_option maxRecDepth 100000 in
theorem K_Na_nearerThan_2 {F : FT} (hD : ∀ σ, va_D F.2.2.1 (GW F.2.1 σ)) (hm : F.2.2.2.2.2.2.2.2.2.2.2.2.2.2.1 = 3) (ok : OkF F prog_6_method_28_code "LastSeen$Names" ({ frames := 1, cells := 0, slots := 0, locals := 22 } : Room)) {Q : Int → SS → Prop} (hQ : RetI F Q) {x1 x2 : Int} {s : SS} (h : B_Na_nearerThan_2 Q (fun x1 x2 s => AtS F 2 [(0, .ref (F.2.1.1 3)), (1, vI x1), (2, vI x2)] [] s) x1 x2 s) : AtS F 2 [(0, .ref (F.2.1.1 3)), (1, vI x1), (2, vI x2)] [] s := by
  unfold B_Na_nearerThan_2 at h
  refine r_iload_n ok 2 d_Na_nearerThan_2 rfl rfl ?_
  refine r_aload_n ok 0 d_Na_nearerThan_3 rfl rfl ?_
  refine g_Na_sizeBy ok d_Na_nearerThan_4 ?_
  refine r_icmp_ge ok 43 d_Na_nearerThan_7 (by decide) h.1 h.2.1 (fun c => ?_) (fun c => ?_)
  · replace h := h.2.2.1 c
    refine r_iload_n ok 1 d_Na_nearerThan_43 rfl rfl ?_
    exact hQ _ _ _ _ _ (ok_code ok) d_Na_nearerThan_44 h
  · replace h := h.2.2.2 c
    refine r_aload_n ok 0 d_Na_nearerThan_10 rfl rfl ?_
    refine r_iload_n ok 1 d_Na_nearerThan_11 rfl rfl ?_
    refine r_iload_n ok 2 d_Na_nearerThan_12 rfl rfl ?_
    refine r_callVi (As := [vI x1, vI x2]) (rest := []) ok 3 rfl rfl rfl wl_Na_110 wi_y_Na_bond ws_y_Na_bond wn_Na wc_y_Na_bond (by decide) (by decide) hh_Na_bond (Nat.le_of_ble_eq_true rfl) rfl d_Na_nearerThan_13 (L_Na_bond F.1 F.2.1 F.2.2.1 hD h) (fun r2 s1 h => ?_)
    refine r_iconst ok 1 d_Na_nearerThan_16 rfl ?_
    refine r_icmp_ne ok 37 d_Na_nearerThan_17 (by decide) h.1 (by decide) (fun c => ?_) (fun c => ?_)
    · replace h := h.2.1 c
      refine r_iinc ok 2 (x2 + 1) [(2, vI (x2 + 1)), (0, .ref (F.2.1.1 3)), (1, vI x1)] d_Na_nearerThan_37 rfl rfl hm (by decide) rfl ?_
      refine r_goto ok 2 d_Na_nearerThan_40 (by decide) ?_
      exact r_sub [1, 2, 0] rfl h
    · replace h := h.2.2 c
      refine r_aload_n ok 0 d_Na_nearerThan_20 rfl rfl ?_
      refine g_Na_steps ok d_Na_nearerThan_21 ?_
      refine r_iload_n ok 2 d_Na_nearerThan_24 rfl rfl ?_
      refine r_iald ok 16 d_Na_nearerThan_25 (by decide) rfl h.1 ?_
      replace h := h.2
      refine r_aload_n ok 0 d_Na_nearerThan_26 rfl rfl ?_
      refine g_Na_steps ok d_Na_nearerThan_27 ?_
      refine r_iload_n ok 1 d_Na_nearerThan_30 rfl rfl ?_
      refine r_iald ok 16 d_Na_nearerThan_31 (by decide) rfl h.1 ?_
      replace h := h.2
      refine r_icmp_ge ok 37 d_Na_nearerThan_32 (by decide) h.1 h.2.1 (fun c => ?_) (fun c => ?_)
      · replace h := h.2.2.1 c
        refine r_iinc ok 2 (x2 + 1) [(2, vI (x2 + 1)), (0, .ref (F.2.1.1 3)), (1, vI x1)] d_Na_nearerThan_37 rfl rfl hm (by decide) rfl ?_
        refine r_goto ok 2 d_Na_nearerThan_40 (by decide) ?_
        exact r_sub [1, 2, 0] rfl h
      · replace h := h.2.2.2 c
        refine r_iload_n ok 2 d_Na_nearerThan_35 rfl rfl ?_
        exact hQ _ _ _ _ _ (ok_code ok) d_Na_nearerThan_36 h
set_option maxHeartbeats 4000000 in
set_option maxRecDepth 100000 in
theorem K_Na_nearerThan_e {F : FT} (hD : ∀ σ, va_D F.2.2.1 (GW F.2.1 σ)) (hm : F.2.2.2.2.2.2.2.2.2.2.2.2.2.2.1 = 3) (ok : OkF F prog_6_method_28_code "LastSeen$Names" ({ frames := 1, cells := 0, slots := 0, locals := 22 } : Room)) {Q : Int → SS → Prop} (hQ : RetI F Q) {x1 : Int} {s : SS} (h : B_Na_nearerThan_e Q (fun x1 x2 s => AtS F 2 [(0, .ref (F.2.1.1 3)), (1, vI x1), (2, vI x2)] [] s) x1 s) : AtS F 0 [(0, .ref (F.2.1.1 3)), (1, vI x1)] [] s := by
  unfold B_Na_nearerThan_e at h
  refine r_iconst ok 0 d_Na_nearerThan_0 rfl ?_
  refine r_istore_n ok [(2, vI 0), (0, .ref (F.2.1.1 3)), (1, vI x1)] d_Na_nearerThan_1 rfl hm (by decide) rfl ?_
  exact r_sub [1, 2, 0] rfl h
theorem L_Na_nearerThan (l : Launch) (G : GE) (A : Nat → Prop) (hD : ∀ σ, va_D A (GW G σ)) {x1 : Int} {s : SS} {Q : Int → SS → Prop} (h : Sp_Na_nearerThan x1 s Q) : Met l y_Na_nearerThan (Cond.code y_Na_nearerThan prog_6_method_28_code 3 (some .int) :: lw_ok) ({ frames := 1, cells := 0, slots := 0, locals := 22 } : Room) (va_Pc [.ref (G.1 3), vI x1] (gB G s)) (va_Qi (fun (r : Int32) (s2 : SS) => ∃ x : Int, r = iI x ∧ Q x s2) (fun s2 t => gB G s2 t) A) 0 0 A := by
  refine met_i hD (by decide) ⟨rfl, rfl⟩ (Nat.le_of_ble_eq_true rfl) (lv := [(0, .ref (G.1 3)), (1, vI x1)]) rfl (fun F h1 h2 h3 hm ok hQ => ?_)
  subst h1 h2 h3
  have hDF := hD
  exact K_Na_nearerThan_e hDF hm ok hQ (h _ (fun _ _ _ hb => K_Na_nearerThan_2 hDF hm ok hQ hb))
theorem d_Na_readTie_0 : decode prog_6_method_25_code 0 = .ok (.aload_n 0, 1) := by decide +kernel
theorem d_Na_readTie_1 : decode prog_6_method_25_code 1 = .ok (.iload_n 2, 1) := by decide +kernel
theorem d_Na_readTie_2 : decode prog_6_method_25_code 2 = .ok (.invokevirtual 113, 3) := by decide +kernel
theorem d_Na_readTie_5 : decode prog_6_method_25_code 5 = .ok (.aload_n 0, 1) := by decide +kernel
theorem d_Na_readTie_6 : decode prog_6_method_25_code 6 = .ok (.getfield 42, 3) := by decide +kernel
theorem d_Na_readTie_9 : decode prog_6_method_25_code 9 = .ok (.iload_n 1, 1) := by decide +kernel
theorem d_Na_readTie_10 : decode prog_6_method_25_code 10 = .ok (.iaload, 1) := by decide +kernel
theorem d_Na_readTie_11 : decode prog_6_method_25_code 11 = .ok (.iconst 1, 1) := by decide +kernel
theorem d_Na_readTie_12 : decode prog_6_method_25_code 12 = .ok (.iadd, 1) := by decide +kernel
theorem d_Na_readTie_13 : decode prog_6_method_25_code 13 = .ok (.bipush 20, 2) := by decide +kernel
theorem d_Na_readTie_15 : decode prog_6_method_25_code 15 = .ok (.invokestatic 61, 3) := by decide +kernel
theorem d_Na_readTie_18 : decode prog_6_method_25_code 18 = .ok (.istore_n 3, 1) := by decide +kernel
theorem d_Na_readTie_19 : decode prog_6_method_25_code 19 = .ok (.iload_n 1, 1) := by decide +kernel
theorem d_Na_readTie_20 : decode prog_6_method_25_code 20 = .ok (.istore 4, 2) := by decide +kernel
theorem d_Na_readTie_22 : decode prog_6_method_25_code 22 = .ok (.aload_n 0, 1) := by decide +kernel
theorem d_Na_readTie_23 : decode prog_6_method_25_code 23 = .ok (.getfield 39, 3) := by decide +kernel
theorem d_Na_readTie_26 : decode prog_6_method_25_code 26 = .ok (.iconst 0, 1) := by decide +kernel
theorem d_Na_readTie_27 : decode prog_6_method_25_code 27 = .ok (.iload_n 1, 1) := by decide +kernel
theorem d_Na_readTie_28 : decode prog_6_method_25_code 28 = .ok (.iastore, 1) := by decide +kernel
theorem d_Na_readTie_29 : decode prog_6_method_25_code 29 = .ok (.iconst 1, 1) := by decide +kernel
theorem d_Na_readTie_30 : decode prog_6_method_25_code 30 = .ok (.istore 5, 2) := by decide +kernel
theorem d_Na_readTie_32 : decode prog_6_method_25_code 32 = .ok (.iload 5, 2) := by decide +kernel
theorem d_Na_readTie_34 : decode prog_6_method_25_code 34 = .ok (.iload_n 3, 1) := by decide +kernel
theorem d_Na_readTie_35 : decode prog_6_method_25_code 35 = .ok (.if_icmp .ge 26, 3) := by decide +kernel
theorem d_Na_readTie_38 : decode prog_6_method_25_code 38 = .ok (.aload_n 0, 1) := by decide +kernel
theorem d_Na_readTie_39 : decode prog_6_method_25_code 39 = .ok (.iload 4, 2) := by decide +kernel
theorem d_Na_readTie_41 : decode prog_6_method_25_code 41 = .ok (.invokevirtual 116, 3) := by decide +kernel
theorem d_Na_readTie_44 : decode prog_6_method_25_code 44 = .ok (.istore 4, 2) := by decide +kernel
theorem d_Na_readTie_46 : decode prog_6_method_25_code 46 = .ok (.aload_n 0, 1) := by decide +kernel
theorem d_Na_readTie_47 : decode prog_6_method_25_code 47 = .ok (.getfield 39, 3) := by decide +kernel
theorem d_Na_readTie_50 : decode prog_6_method_25_code 50 = .ok (.iload 5, 2) := by decide +kernel
theorem d_Na_readTie_52 : decode prog_6_method_25_code 52 = .ok (.iload 4, 2) := by decide +kernel
theorem d_Na_readTie_54 : decode prog_6_method_25_code 54 = .ok (.iastore, 1) := by decide +kernel
theorem d_Na_readTie_55 : decode prog_6_method_25_code 55 = .ok (.iinc 5 1, 3) := by decide +kernel
theorem d_Na_readTie_58 : decode prog_6_method_25_code 58 = .ok (.goto (-26), 3) := by decide +kernel
theorem d_Na_readTie_61 : decode prog_6_method_25_code 61 = .ok (.iload_n 3, 1) := by decide +kernel
theorem d_Na_readTie_62 : decode prog_6_method_25_code 62 = .ok (.ireturn, 1) := by decide +kernel
set_option maxHeartbeats 4000000 in
set_option maxRecDepth 100000 in
theorem K_Na_readTie_32 {F : FT} (hD : ∀ σ, va_D F.2.2.1 (GW F.2.1 σ)) (hm : F.2.2.2.2.2.2.2.2.2.2.2.2.2.2.1 = 6) (ok : OkF F prog_6_method_25_code "LastSeen$Names" ({ frames := 2, cells := 0, slots := 0, locals := 46 } : Room)) {Q : Int → SS → Prop} (hQ : RetI F Q) {x3 x4 x5 : Int} {s : SS} (h : B_Na_readTie_32 Q (fun x3 x4 x5 s => AtS F 32 [(0, .ref (F.2.1.1 3)), (3, vI x3), (4, vI x4), (5, vI x5)] [] s) x3 x4 x5 s) : AtS F 32 [(0, .ref (F.2.1.1 3)), (3, vI x3), (4, vI x4), (5, vI x5)] [] s := by
  unfold B_Na_readTie_32 at h
  refine r_iload ok 3 d_Na_readTie_32 rfl ?_
  refine r_iload_n ok 1 d_Na_readTie_34 rfl rfl ?_
  refine r_icmp_ge ok 61 d_Na_readTie_35 (by decide) h.1 h.2.1 (fun c => ?_) (fun c => ?_)
  · replace h := h.2.2.1 c
    refine r_iload_n ok 1 d_Na_readTie_61 rfl rfl ?_
    exact hQ _ _ _ _ _ (ok_code ok) d_Na_readTie_62 h
  · replace h := h.2.2.2 c
    refine r_aload_n ok 0 d_Na_readTie_38 rfl rfl ?_
    refine r_iload ok 2 d_Na_readTie_39 rfl ?_
    refine r_callVi (As := [vI x4]) (rest := []) ok 3 rfl rfl rfl wl_Na_116 wi_y_Na_nearerThan ws_y_Na_nearerThan wn_Na wc_y_Na_nearerThan (by decide) (by decide) hh_Na_nearerThan (Nat.le_of_ble_eq_true rfl) rfl d_Na_readTie_41 (L_Na_nearerThan F.1 F.2.1 F.2.2.1 hD h) (fun r4 s3 h => ?_)
    refine r_istore ok [(4, vI r4), (0, .ref (F.2.1.1 3)), (3, vI x3), (5, vI x5)] d_Na_readTie_44 hm (by decide) rfl ?_
    refine r_aload_n ok 1 d_Na_readTie_46 rfl rfl ?_
    refine g_Na_row ok d_Na_readTie_47 ?_
    refine r_iload ok 3 d_Na_readTie_50 rfl ?_
    refine r_iload ok 0 d_Na_readTie_52 rfl ?_
    refine r_iast ok 15 d_Na_readTie_54 (by decide) rfl h.1 ?_
    replace h := h.2 _ rfl
    generalize sA s3 15 x5 r4 = s5 at h ⊢
    refine r_iinc ok 3 (x5 + 1) [(5, vI (x5 + 1)), (4, vI r4), (0, .ref (F.2.1.1 3)), (3, vI x3)] d_Na_readTie_55 rfl rfl hm (by decide) rfl ?_
    refine r_goto ok 32 d_Na_readTie_58 (by decide) ?_
    exact r_sub [2, 3, 1, 0] rfl h
set_option maxHeartbeats 4000000 in
set_option maxRecDepth 100000 in
theorem K_Na_readTie_e {F : FT} (hD : ∀ σ, va_D F.2.2.1 (GW F.2.1 σ)) (hm : F.2.2.2.2.2.2.2.2.2.2.2.2.2.2.1 = 6) (ok : OkF F prog_6_method_25_code "LastSeen$Names" ({ frames := 2, cells := 0, slots := 0, locals := 46 } : Room)) {Q : Int → SS → Prop} (hQ : RetI F Q) {x1 x2 : Int} {s : SS} (h : B_Na_readTie_e Q (fun x3 x4 x5 s => AtS F 32 [(0, .ref (F.2.1.1 3)), (3, vI x3), (4, vI x4), (5, vI x5)] [] s) x1 x2 s) : AtS F 0 [(0, .ref (F.2.1.1 3)), (1, vI x1), (2, vI x2)] [] s := by
  unfold B_Na_readTie_e at h
  refine r_aload_n ok 0 d_Na_readTie_0 rfl rfl ?_
  refine r_iload_n ok 2 d_Na_readTie_1 rfl rfl ?_
  refine r_callVv (As := [vI x2]) (rest := []) ok 3 rfl rfl rfl wl_Na_113 wi_y_Na_countStepsTo ws_y_Na_countStepsTo wn_Na wc_y_Na_countStepsTo (by decide) (by decide) hh_Na_countStepsTo (Nat.le_of_ble_eq_true rfl) rfl d_Na_readTie_2 (L_Na_countStepsTo F.1 F.2.1 F.2.2.1 hD h) (fun s1 h => ?_)
  refine r_aload_n ok 0 d_Na_readTie_5 rfl rfl ?_
  refine g_Na_steps ok d_Na_readTie_6 ?_
  refine r_iload_n ok 1 d_Na_readTie_9 rfl rfl ?_
  refine r_iald ok 16 d_Na_readTie_10 (by decide) rfl h.1 ?_
  replace h := h.2
  refine r_iconst ok 1 d_Na_readTie_11 rfl ?_
  refine r_iadd ok d_Na_readTie_12 ?_
  refine r_bipush ok 20 d_Na_readTie_13 (by decide) ?_
  refine r_min ok wl_Na_61 (by decide) (Nat.le_of_ble_eq_true rfl) d_Na_readTie_15 h.1 (by decide) ?_
  replace h := h.2
  refine r_istore_n ok [(3, vI (min ((s1.2 16 x1) + 1) 20)), (0, .ref (F.2.1.1 3)), (1, vI x1), (2, vI x2)] d_Na_readTie_18 rfl hm (by decide) rfl ?_
  refine r_iload_n ok 2 d_Na_readTie_19 rfl rfl ?_
  refine r_istore ok [(4, vI x1), (3, vI (min ((s1.2 16 x1) + 1) 20)), (0, .ref (F.2.1.1 3)), (1, vI x1), (2, vI x2)] d_Na_readTie_20 hm (by decide) rfl ?_
  refine r_aload_n ok 2 d_Na_readTie_22 rfl rfl ?_
  refine g_Na_row ok d_Na_readTie_23 ?_
  refine r_iconst ok 0 d_Na_readTie_26 rfl ?_
  refine r_iload_n ok 3 d_Na_readTie_27 rfl rfl ?_
  refine r_iast ok 15 d_Na_readTie_28 (by decide) rfl (by decide) ?_
  replace h := h _ rfl
  generalize sA s1 15 0 x1 = s2 at h ⊢
  refine r_iconst ok 1 d_Na_readTie_29 rfl ?_
  refine r_istore ok [(5, vI 1), (4, vI x1), (3, vI (min ((s1.2 16 x1) + 1) 20)), (0, .ref (F.2.1.1 3)), (1, vI x1), (2, vI x2)] d_Na_readTie_30 hm (by decide) rfl ?_
  exact r_sub [3, 2, 1, 0] rfl h
theorem L_Na_readTie (l : Launch) (G : GE) (A : Nat → Prop) (hD : ∀ σ, va_D A (GW G σ)) {x1 x2 : Int} {s : SS} {Q : Int → SS → Prop} (h : Sp_Na_readTie x1 x2 s Q) : Met l y_Na_readTie (Cond.code y_Na_readTie prog_6_method_25_code 6 (some .int) :: lw_ok) ({ frames := 2, cells := 0, slots := 0, locals := 46 } : Room) (va_Pc [.ref (G.1 3), vI x1, vI x2] (gB G s)) (va_Qi (fun (r : Int32) (s2 : SS) => ∃ x : Int, r = iI x ∧ Q x s2) (fun s2 t => gB G s2 t) A) 0 0 A := by
  refine met_i hD (by decide) ⟨rfl, rfl⟩ (Nat.le_of_ble_eq_true rfl) (lv := [(0, .ref (G.1 3)), (1, vI x1), (2, vI x2)]) rfl (fun F h1 h2 h3 hm ok hQ => ?_)
  subst h1 h2 h3
  have hDF := hD
  exact K_Na_readTie_e hDF hm ok hQ (h _ (fun _ _ _ _ hb => K_Na_readTie_32 hDF hm ok hQ hb))
theorem d_Na_tieName_0 : decode prog_6_method_26_code 0 = .ok (.aload_n 0, 1) := by decide +kernel
theorem d_Na_tieName_1 : decode prog_6_method_26_code 1 = .ok (.getfield 39, 3) := by decide +kernel
theorem d_Na_tieName_4 : decode prog_6_method_26_code 4 = .ok (.iload_n 1, 1) := by decide +kernel
theorem d_Na_tieName_5 : decode prog_6_method_26_code 5 = .ok (.iaload, 1) := by decide +kernel
theorem d_Na_tieName_6 : decode prog_6_method_26_code 6 = .ok (.ireturn, 1) := by decide +kernel
set_option maxHeartbeats 4000000 in
set_option maxRecDepth 100000 in
theorem K_Na_tieName_e {F : FT} (hD : ∀ σ, va_D F.2.2.1 (GW F.2.1 σ)) (hm : F.2.2.2.2.2.2.2.2.2.2.2.2.2.2.1 = 2) (ok : OkF F prog_6_method_26_code "LastSeen$Names" ({ frames := 0, cells := 0, slots := 0, locals := 0 } : Room)) {Q : Int → SS → Prop} (hQ : RetI F Q) {x1 : Int} {s : SS} (h : Sp_Na_tieName x1 s Q) : AtS F 0 [(0, .ref (F.2.1.1 3)), (1, vI x1)] [] s := by
  unfold Sp_Na_tieName at h
  refine r_aload_n ok 0 d_Na_tieName_0 rfl rfl ?_
  refine g_Na_row ok d_Na_tieName_1 ?_
  refine r_iload_n ok 1 d_Na_tieName_4 rfl rfl ?_
  refine r_iald ok 15 d_Na_tieName_5 (by decide) rfl h.1 ?_
  replace h := h.2
  exact hQ _ _ _ _ _ (ok_code ok) d_Na_tieName_6 h
theorem L_Na_tieName (l : Launch) (G : GE) (A : Nat → Prop) (hD : ∀ σ, va_D A (GW G σ)) {x1 : Int} {s : SS} {Q : Int → SS → Prop} (h : Sp_Na_tieName x1 s Q) : Met l y_Na_tieName (Cond.code y_Na_tieName prog_6_method_26_code 2 (some .int) :: lw_ok) ({ frames := 0, cells := 0, slots := 0, locals := 0 } : Room) (va_Pc [.ref (G.1 3), vI x1] (gB G s)) (va_Qi (fun (r : Int32) (s2 : SS) => ∃ x : Int, r = iI x ∧ Q x s2) (fun s2 t => gB G s2 t) A) 0 0 A := by
  refine met_i hD (by decide) ⟨rfl, rfl⟩ (Nat.le_of_ble_eq_true rfl) (lv := [(0, .ref (G.1 3)), (1, vI x1)]) rfl (fun F h1 h2 h3 hm ok hQ => ?_)
  subst h1 h2 h3
  have hDF := hD
  exact K_Na_tieName_e hDF hm ok hQ h
theorem d_LS_tie_0 : decode prog_1_method_11_code 0 = .ok (.aload_n 0, 1) := by decide +kernel
theorem d_LS_tie_1 : decode prog_1_method_11_code 1 = .ok (.iload_n 1, 1) := by decide +kernel
theorem d_LS_tie_2 : decode prog_1_method_11_code 2 = .ok (.invokevirtual 133, 3) := by decide +kernel
theorem d_LS_tie_5 : decode prog_1_method_11_code 5 = .ok (.ifCond .eq 16, 3) := by decide +kernel
theorem d_LS_tie_8 : decode prog_1_method_11_code 8 = .ok (.aload_n 0, 1) := by decide +kernel
theorem d_LS_tie_9 : decode prog_1_method_11_code 9 = .ok (.iload_n 2, 1) := by decide +kernel
theorem d_LS_tie_10 : decode prog_1_method_11_code 10 = .ok (.invokevirtual 133, 3) := by decide +kernel
theorem d_LS_tie_13 : decode prog_1_method_11_code 13 = .ok (.ifCond .eq 8, 3) := by decide +kernel
theorem d_LS_tie_16 : decode prog_1_method_11_code 16 = .ok (.iload_n 3, 1) := by decide +kernel
theorem d_LS_tie_17 : decode prog_1_method_11_code 17 = .ok (.iconst (-1), 1) := by decide +kernel
theorem d_LS_tie_18 : decode prog_1_method_11_code 18 = .ok (.if_icmp .ge 5, 3) := by decide +kernel
theorem d_LS_tie_21 : decode prog_1_method_11_code 21 = .ok (.iconst (-1), 1) := by decide +kernel
theorem d_LS_tie_22 : decode prog_1_method_11_code 22 = .ok (.ireturn, 1) := by decide +kernel
theorem d_LS_tie_23 : decode prog_1_method_11_code 23 = .ok (.iload_n 1, 1) := by decide +kernel
theorem d_LS_tie_24 : decode prog_1_method_11_code 24 = .ok (.iload_n 2, 1) := by decide +kernel
theorem d_LS_tie_25 : decode prog_1_method_11_code 25 = .ok (.if_icmp .ne 6, 3) := by decide +kernel
theorem d_LS_tie_28 : decode prog_1_method_11_code 28 = .ok (.bipush (-2), 2) := by decide +kernel
theorem d_LS_tie_30 : decode prog_1_method_11_code 30 = .ok (.ireturn, 1) := by decide +kernel
theorem d_LS_tie_31 : decode prog_1_method_11_code 31 = .ok (.aload_n 0, 1) := by decide +kernel
theorem d_LS_tie_32 : decode prog_1_method_11_code 32 = .ok (.getfield 26, 3) := by decide +kernel
theorem d_LS_tie_35 : decode prog_1_method_11_code 35 = .ok (.aload_n 0, 1) := by decide +kernel
theorem d_LS_tie_36 : decode prog_1_method_11_code 36 = .ok (.getfield 122, 3) := by decide +kernel
theorem d_LS_tie_39 : decode prog_1_method_11_code 39 = .ok (.invokevirtual 153, 3) := by decide +kernel
theorem d_LS_tie_42 : decode prog_1_method_11_code 42 = .ok (.aload_n 0, 1) := by decide +kernel
theorem d_LS_tie_43 : decode prog_1_method_11_code 43 = .ok (.getfield 26, 3) := by decide +kernel
theorem d_LS_tie_46 : decode prog_1_method_11_code 46 = .ok (.iload_n 1, 1) := by decide +kernel
theorem d_LS_tie_47 : decode prog_1_method_11_code 47 = .ok (.iload_n 2, 1) := by decide +kernel
theorem d_LS_tie_48 : decode prog_1_method_11_code 48 = .ok (.invokevirtual 167, 3) := by decide +kernel
theorem d_LS_tie_51 : decode prog_1_method_11_code 51 = .ok (.ifCond .ne 6, 3) := by decide +kernel
theorem d_LS_tie_54 : decode prog_1_method_11_code 54 = .ok (.bipush (-3), 2) := by decide +kernel
theorem d_LS_tie_56 : decode prog_1_method_11_code 56 = .ok (.ireturn, 1) := by decide +kernel
theorem d_LS_tie_57 : decode prog_1_method_11_code 57 = .ok (.aload_n 0, 1) := by decide +kernel
theorem d_LS_tie_58 : decode prog_1_method_11_code 58 = .ok (.getfield 26, 3) := by decide +kernel
theorem d_LS_tie_61 : decode prog_1_method_11_code 61 = .ok (.iload_n 1, 1) := by decide +kernel
theorem d_LS_tie_62 : decode prog_1_method_11_code 62 = .ok (.iload_n 2, 1) := by decide +kernel
theorem d_LS_tie_63 : decode prog_1_method_11_code 63 = .ok (.invokestatic 170, 3) := by decide +kernel
theorem d_LS_tie_66 : decode prog_1_method_11_code 66 = .ok (.iload_n 1, 1) := by decide +kernel
theorem d_LS_tie_67 : decode prog_1_method_11_code 67 = .ok (.iload_n 2, 1) := by decide +kernel
theorem d_LS_tie_68 : decode prog_1_method_11_code 68 = .ok (.invokestatic 175, 3) := by decide +kernel
theorem d_LS_tie_71 : decode prog_1_method_11_code 71 = .ok (.invokevirtual 178, 3) := by decide +kernel
theorem d_LS_tie_74 : decode prog_1_method_11_code 74 = .ok (.istore 4, 2) := by decide +kernel
theorem d_LS_tie_76 : decode prog_1_method_11_code 76 = .ok (.iload_n 3, 1) := by decide +kernel
theorem d_LS_tie_77 : decode prog_1_method_11_code 77 = .ok (.iconst (-1), 1) := by decide +kernel
theorem d_LS_tie_78 : decode prog_1_method_11_code 78 = .ok (.if_icmp .ne 6, 3) := by decide +kernel
theorem d_LS_tie_81 : decode prog_1_method_11_code 81 = .ok (.iload 4, 2) := by decide +kernel
theorem d_LS_tie_83 : decode prog_1_method_11_code 83 = .ok (.ireturn, 1) := by decide +kernel
theorem d_LS_tie_84 : decode prog_1_method_11_code 84 = .ok (.iload_n 3, 1) := by decide +kernel
theorem d_LS_tie_85 : decode prog_1_method_11_code 85 = .ok (.iload 4, 2) := by decide +kernel
theorem d_LS_tie_87 : decode prog_1_method_11_code 87 = .ok (.if_icmp .lt 5, 3) := by decide +kernel
theorem d_LS_tie_90 : decode prog_1_method_11_code 90 = .ok (.iconst (-1), 1) := by decide +kernel
theorem d_LS_tie_91 : decode prog_1_method_11_code 91 = .ok (.ireturn, 1) := by decide +kernel
theorem d_LS_tie_92 : decode prog_1_method_11_code 92 = .ok (.aload_n 0, 1) := by decide +kernel
theorem d_LS_tie_93 : decode prog_1_method_11_code 93 = .ok (.getfield 26, 3) := by decide +kernel
theorem d_LS_tie_96 : decode prog_1_method_11_code 96 = .ok (.iload_n 3, 1) := by decide +kernel
theorem d_LS_tie_97 : decode prog_1_method_11_code 97 = .ok (.invokevirtual 181, 3) := by decide +kernel
theorem d_LS_tie_100 : decode prog_1_method_11_code 100 = .ok (.ireturn, 1) := by decide +kernel
set_option maxHeartbeats 4000000 in
set_option maxRecDepth 100000 in
theorem K_LS_tie_e {F : FT} (hD : ∀ σ, va_D F.2.2.1 (GW F.2.1 σ)) (hm : F.2.2.2.2.2.2.2.2.2.2.2.2.2.2.1 = 5) (ok : OkF F prog_1_method_11_code "LastSeen" ({ frames := 3, cells := 0, slots := 0, locals := 71 } : Room)) {Q : Int → SS → Prop} (hQ : RetI F Q) {x1 x2 x3 : Int} {s : SS} (h : Sp_LS_tie x1 x2 x3 s Q) : AtS F 0 [(0, .ref (F.2.1.1 0)), (1, vI x1), (2, vI x2), (3, vI x3)] [] s := by
  unfold Sp_LS_tie at h
  refine r_aload_n ok 0 d_LS_tie_0 rfl rfl ?_
  refine r_iload_n ok 1 d_LS_tie_1 rfl rfl ?_
  refine r_callVi (As := [vI x1]) (rest := []) ok 0 rfl rfl rfl wl_LS_133 wi_y_LS_isName ws_y_LS_isName wn_LS wc_y_LS_isName (by decide) (by decide) hh_LS_isName (Nat.le_of_ble_eq_true rfl) rfl d_LS_tie_2 (L_LS_isName F.1 F.2.1 F.2.2.1 hD h) (fun r2 s1 h => ?_)
  refine r_if_eq ok 21 d_LS_tie_5 (by decide) h.1 (fun c => ?_) (fun c => ?_)
  · replace h := h.2.1 c
    refine r_iconst ok (-1) d_LS_tie_21 rfl ?_
    exact hQ _ _ _ _ _ (ok_code ok) d_LS_tie_22 h
  · replace h := h.2.2 c
    refine r_aload_n ok 0 d_LS_tie_8 rfl rfl ?_
    refine r_iload_n ok 2 d_LS_tie_9 rfl rfl ?_
    refine r_callVi (As := [vI x2]) (rest := []) ok 0 rfl rfl rfl wl_LS_133 wi_y_LS_isName ws_y_LS_isName wn_LS wc_y_LS_isName (by decide) (by decide) hh_LS_isName (Nat.le_of_ble_eq_true rfl) rfl d_LS_tie_10 (L_LS_isName F.1 F.2.1 F.2.2.1 hD h) (fun r4 s3 h => ?_)
    refine r_if_eq ok 21 d_LS_tie_13 (by decide) h.1 (fun c => ?_) (fun c => ?_)
    · replace h := h.2.1 c
      refine r_iconst ok (-1) d_LS_tie_21 rfl ?_
      exact hQ _ _ _ _ _ (ok_code ok) d_LS_tie_22 h
    · replace h := h.2.2 c
      refine r_iload_n ok 3 d_LS_tie_16 rfl rfl ?_
      refine r_iconst ok (-1) d_LS_tie_17 rfl ?_
      refine r_icmp_ge ok 23 d_LS_tie_18 (by decide) h.1 (by decide) (fun c => ?_) (fun c => ?_)
      · replace h := h.2.1 c
        refine r_iload_n ok 1 d_LS_tie_23 rfl rfl ?_
        refine r_iload_n ok 2 d_LS_tie_24 rfl rfl ?_
        refine r_icmp_ne ok 31 d_LS_tie_25 (by decide) h.1 h.2.1 (fun c => ?_) (fun c => ?_)
        · replace h := h.2.2.1 c
          refine r_aload_n ok 0 d_LS_tie_31 rfl rfl ?_
          refine g_LS_names ok d_LS_tie_32 ?_
          refine r_aload_n ok 0 d_LS_tie_35 rfl rfl ?_
          refine g_LS_entries ok d_LS_tie_36 ?_
          refine r_callVv (As := [vI (s3.1 1)]) (rest := []) ok 3 rfl rfl rfl wl_LS_153 wi_y_Na_readBy ws_y_Na_readBy wn_Na wc_y_Na_readBy (by decide) (by decide) hh_Na_readBy (Nat.le_of_ble_eq_true rfl) rfl d_LS_tie_39 (L_Na_readBy F.1 F.2.1 F.2.2.1 hD h) (fun s5 h => ?_)
          refine r_aload_n ok 0 d_LS_tie_42 rfl rfl ?_
          refine g_LS_names ok d_LS_tie_43 ?_
          refine r_iload_n ok 1 d_LS_tie_46 rfl rfl ?_
          refine r_iload_n ok 2 d_LS_tie_47 rfl rfl ?_
          refine r_callVi (As := [vI x1, vI x2]) (rest := []) ok 3 rfl rfl rfl wl_LS_167 wi_y_Na_areTied ws_y_Na_areTied wn_Na wc_y_Na_areTied (by decide) (by decide) hh_Na_areTied (Nat.le_of_ble_eq_true rfl) rfl d_LS_tie_48 (L_Na_areTied F.1 F.2.1 F.2.2.1 hD h) (fun r7 s6 h => ?_)
          refine r_if_ne ok 57 d_LS_tie_51 (by decide) h.1 (fun c => ?_) (fun c => ?_)
          · replace h := h.2.1 c
            refine r_aload_n ok 0 d_LS_tie_57 rfl rfl ?_
            refine g_LS_names ok d_LS_tie_58 ?_
            refine r_iload_n ok 1 d_LS_tie_61 rfl rfl ?_
            refine r_iload_n ok 2 d_LS_tie_62 rfl rfl ?_
            refine r_min ok wl_LS_170 (by decide) (Nat.le_of_ble_eq_true rfl) d_LS_tie_63 h.1 h.2.1 ?_
            replace h := h.2.2
            refine r_iload_n ok 1 d_LS_tie_66 rfl rfl ?_
            refine r_iload_n ok 2 d_LS_tie_67 rfl rfl ?_
            refine r_max ok wl_LS_175 (by decide) (Nat.le_of_ble_eq_true rfl) d_LS_tie_68 h.1 h.2.1 ?_
            replace h := h.2.2
            refine r_callVi (As := [vI (min x1 x2), vI (max x1 x2)]) (rest := []) ok 3 rfl rfl rfl wl_LS_178 wi_y_Na_readTie ws_y_Na_readTie wn_Na wc_y_Na_readTie (by decide) (by decide) hh_Na_readTie (Nat.le_of_ble_eq_true rfl) rfl d_LS_tie_71 (L_Na_readTie F.1 F.2.1 F.2.2.1 hD h) (fun r9 s8 h => ?_)
            refine r_istore ok [(4, vI r9), (0, .ref (F.2.1.1 0)), (1, vI x1), (2, vI x2), (3, vI x3)] d_LS_tie_74 hm (by decide) rfl ?_
            refine r_iload_n ok 4 d_LS_tie_76 rfl rfl ?_
            refine r_iconst ok (-1) d_LS_tie_77 rfl ?_
            refine r_icmp_ne ok 84 d_LS_tie_78 (by decide) h.1 (by decide) (fun c => ?_) (fun c => ?_)
            · replace h := h.2.1 c
              refine r_iload_n ok 4 d_LS_tie_84 rfl rfl ?_
              refine r_iload ok 0 d_LS_tie_85 rfl ?_
              refine r_icmp_lt ok 92 d_LS_tie_87 (by decide) h.1 h.2.1 (fun c => ?_) (fun c => ?_)
              · replace h := h.2.2.1 c
                refine r_aload_n ok 1 d_LS_tie_92 rfl rfl ?_
                refine g_LS_names ok d_LS_tie_93 ?_
                refine r_iload_n ok 4 d_LS_tie_96 rfl rfl ?_
                refine r_callVi (As := [vI x3]) (rest := []) ok 3 rfl rfl rfl wl_LS_181 wi_y_Na_tieName ws_y_Na_tieName wn_Na wc_y_Na_tieName (by decide) (by decide) hh_Na_tieName (Nat.le_of_ble_eq_true rfl) rfl d_LS_tie_97 (L_Na_tieName F.1 F.2.1 F.2.2.1 hD h) (fun r11 s10 h => ?_)
                exact hQ _ _ _ _ _ (ok_code ok) d_LS_tie_100 h
              · replace h := h.2.2.2 c
                refine r_iconst ok (-1) d_LS_tie_90 rfl ?_
                exact hQ _ _ _ _ _ (ok_code ok) d_LS_tie_91 h
            · replace h := h.2.2 c
              refine r_iload ok 0 d_LS_tie_81 rfl ?_
              exact hQ _ _ _ _ _ (ok_code ok) d_LS_tie_83 h
          · replace h := h.2.2 c
            refine r_bipush ok (-3) d_LS_tie_54 (by decide) ?_
            exact hQ _ _ _ _ _ (ok_code ok) d_LS_tie_56 h
        · replace h := h.2.2.2 c
          refine r_bipush ok (-2) d_LS_tie_28 (by decide) ?_
          exact hQ _ _ _ _ _ (ok_code ok) d_LS_tie_30 h
      · replace h := h.2.2 c
        refine r_iconst ok (-1) d_LS_tie_21 rfl ?_
        exact hQ _ _ _ _ _ (ok_code ok) d_LS_tie_22 h
theorem L_LS_tie (l : Launch) (G : GE) (A : Nat → Prop) (hD : ∀ σ, va_D A (GW G σ)) {x1 x2 x3 : Int} {s : SS} {Q : Int → SS → Prop} (h : Sp_LS_tie x1 x2 x3 s Q) : Met l y_LS_tie (Cond.code y_LS_tie prog_1_method_11_code 5 (some .int) :: lw_ok) ({ frames := 3, cells := 0, slots := 0, locals := 71 } : Room) (va_Pc [.ref (G.1 0), vI x1, vI x2, vI x3] (gB G s)) (va_Qi (fun (r : Int32) (s2 : SS) => ∃ x : Int, r = iI x ∧ Q x s2) (fun s2 t => gB G s2 t) A) 0 0 A := by
  refine met_i hD (by decide) ⟨rfl, rfl⟩ (Nat.le_of_ble_eq_true rfl) (lv := [(0, .ref (G.1 0)), (1, vI x1), (2, vI x2), (3, vI x3)]) rfl (fun F h1 h2 h3 hm ok hQ => ?_)
  subst h1 h2 h3
  have hDF := hD
  exact K_LS_tie_e hDF hm ok hQ h
theorem d_Wo_size_0 : decode prog_10_method_2_code 0 = .ok (.aload_n 0, 1) := by decide +kernel
theorem d_Wo_size_1 : decode prog_10_method_2_code 1 = .ok (.getfield 43, 3) := by decide +kernel
theorem d_Wo_size_4 : decode prog_10_method_2_code 4 = .ok (.ireturn, 1) := by decide +kernel
set_option maxHeartbeats 4000000 in
set_option maxRecDepth 100000 in
theorem K_Wo_size_e {F : FT} (hD : ∀ σ, va_D F.2.2.1 (GW F.2.1 σ)) (hm : F.2.2.2.2.2.2.2.2.2.2.2.2.2.2.1 = 1) (ok : OkF F prog_10_method_2_code "LastSeen$Words" ({ frames := 0, cells := 0, slots := 0, locals := 0 } : Room)) {Q : Int → SS → Prop} (hQ : RetI F Q) {s : SS} (h : Sp_Wo_size  s Q) : AtS F 0 [(0, .ref (F.2.1.1 4))] [] s := by
  unfold Sp_Wo_size at h
  refine r_aload_n ok 0 d_Wo_size_0 rfl rfl ?_
  refine g_Wo_size ok d_Wo_size_1 ?_
  exact hQ _ _ _ _ _ (ok_code ok) d_Wo_size_4 h
theorem L_Wo_size (l : Launch) (G : GE) (A : Nat → Prop) (hD : ∀ σ, va_D A (GW G σ)) {s : SS} {Q : Int → SS → Prop} (h : Sp_Wo_size  s Q) : Met l y_Wo_size (Cond.code y_Wo_size prog_10_method_2_code 1 (some .int) :: lw_ok) ({ frames := 0, cells := 0, slots := 0, locals := 0 } : Room) (va_Pc [.ref (G.1 4)] (gB G s)) (va_Qi (fun (r : Int32) (s2 : SS) => ∃ x : Int, r = iI x ∧ Q x s2) (fun s2 t => gB G s2 t) A) 0 0 A := by
  refine met_i hD (by decide) ⟨rfl, rfl⟩ (Nat.le_of_ble_eq_true rfl) (lv := [(0, .ref (G.1 4))]) rfl (fun F h1 h2 h3 hm ok hQ => ?_)
  subst h1 h2 h3
  have hDF := hD
  exact K_Wo_size_e hDF hm ok hQ h
theorem d_LS_isWatch_0 : decode prog_1_method_40_code 0 = .ok (.iload_n 0, 1) := by decide +kernel
theorem d_LS_isWatch_1 : decode prog_1_method_40_code 1 = .ok (.ifCond .lt 14, 3) := by decide +kernel
theorem d_LS_isWatch_4 : decode prog_1_method_40_code 4 = .ok (.iload_n 0, 1) := by decide +kernel
theorem d_LS_isWatch_5 : decode prog_1_method_40_code 5 = .ok (.sipush 999, 3) := by decide +kernel
theorem d_LS_isWatch_8 : decode prog_1_method_40_code 8 = .ok (.if_icmp .gt 7, 3) := by decide +kernel
theorem d_LS_isWatch_11 : decode prog_1_method_40_code 11 = .ok (.iconst 1, 1) := by decide +kernel
theorem d_LS_isWatch_12 : decode prog_1_method_40_code 12 = .ok (.goto 4, 3) := by decide +kernel
theorem d_LS_isWatch_15 : decode prog_1_method_40_code 15 = .ok (.iconst 0, 1) := by decide +kernel
theorem d_LS_isWatch_16 : decode prog_1_method_40_code 16 = .ok (.ireturn, 1) := by decide +kernel
set_option maxHeartbeats 4000000 in
set_option maxRecDepth 100000 in
theorem K_LS_isWatch_e {F : FT} (hD : ∀ σ, va_D F.2.2.1 (GW F.2.1 σ)) (hm : F.2.2.2.2.2.2.2.2.2.2.2.2.2.2.1 = 1) (ok : OkF F prog_1_method_40_code "LastSeen" ({ frames := 0, cells := 0, slots := 0, locals := 0 } : Room)) {Q : Int → SS → Prop} (hQ : RetZ F Q) {x0 : Int} {s : SS} (h : Sp_LS_isWatch x0 s Q) : AtS F 0 [(0, vI x0)] [] s := by
  unfold Sp_LS_isWatch at h
  refine r_iload_n ok 0 d_LS_isWatch_0 rfl rfl ?_
  refine r_if_lt ok 15 d_LS_isWatch_1 (by decide) h.1 (fun c => ?_) (fun c => ?_)
  · replace h := h.2.1 c
    refine r_iconst ok 0 d_LS_isWatch_15 rfl ?_
    exact hQ _ _ _ _ _ (ok_code ok) d_LS_isWatch_16 (by decide) h
  · replace h := h.2.2 c
    refine r_iload_n ok 0 d_LS_isWatch_4 rfl rfl ?_
    refine r_sipush ok 999 d_LS_isWatch_5 (by decide) ?_
    refine r_icmp_gt ok 15 d_LS_isWatch_8 (by decide) h.1 (by decide) (fun c => ?_) (fun c => ?_)
    · replace h := h.2.1 c
      refine r_iconst ok 0 d_LS_isWatch_15 rfl ?_
      exact hQ _ _ _ _ _ (ok_code ok) d_LS_isWatch_16 (by decide) h
    · replace h := h.2.2 c
      refine r_iconst ok 1 d_LS_isWatch_11 rfl ?_
      refine r_goto ok 16 d_LS_isWatch_12 (by decide) ?_
      exact hQ _ _ _ _ _ (ok_code ok) d_LS_isWatch_16 (by decide) h
theorem L_LS_isWatch (l : Launch) (G : GE) (A : Nat → Prop) (hD : ∀ σ, va_D A (GW G σ)) {x0 : Int} {s : SS} {Q : Int → SS → Prop} (h : Sp_LS_isWatch x0 s Q) : Met l y_LS_isWatch (Cond.code y_LS_isWatch prog_1_method_40_code 1 (some .boolean) :: lw_ok) ({ frames := 0, cells := 0, slots := 0, locals := 0 } : Room) (va_Pc [vI x0] (gB G s)) (va_Qi (fun (r : Int32) (s2 : SS) => ∃ x : Int, r = iI x ∧ Q x s2) (fun s2 t => gB G s2 t) A) 0 0 A := by
  refine met_z hD (by decide) ⟨rfl, rfl⟩ (Nat.le_of_ble_eq_true rfl) (lv := [(0, vI x0)]) rfl (fun F h1 h2 h3 hm ok hQ => ?_)
  subst h1 h2 h3
  have hDF := hD
  exact K_LS_isWatch_e hDF hm ok hQ h
theorem d_Wo_enter_0 : decode prog_10_method_3_code 0 = .ok (.aload_n 0, 1) := by decide +kernel
theorem d_Wo_enter_1 : decode prog_10_method_3_code 1 = .ok (.getfield 11, 3) := by decide +kernel
theorem d_Wo_enter_4 : decode prog_10_method_3_code 4 = .ok (.aload_n 0, 1) := by decide +kernel
theorem d_Wo_enter_5 : decode prog_10_method_3_code 5 = .ok (.getfield 43, 3) := by decide +kernel
theorem d_Wo_enter_8 : decode prog_10_method_3_code 8 = .ok (.iload_n 1, 1) := by decide +kernel
theorem d_Wo_enter_9 : decode prog_10_method_3_code 9 = .ok (.iastore, 1) := by decide +kernel
theorem d_Wo_enter_10 : decode prog_10_method_3_code 10 = .ok (.aload_n 0, 1) := by decide +kernel
theorem d_Wo_enter_11 : decode prog_10_method_3_code 11 = .ok (.getfield 15, 3) := by decide +kernel
theorem d_Wo_enter_14 : decode prog_10_method_3_code 14 = .ok (.aload_n 0, 1) := by decide +kernel
theorem d_Wo_enter_15 : decode prog_10_method_3_code 15 = .ok (.getfield 43, 3) := by decide +kernel
theorem d_Wo_enter_18 : decode prog_10_method_3_code 18 = .ok (.iload_n 2, 1) := by decide +kernel
theorem d_Wo_enter_19 : decode prog_10_method_3_code 19 = .ok (.iastore, 1) := by decide +kernel
theorem d_Wo_enter_20 : decode prog_10_method_3_code 20 = .ok (.aload_n 0, 1) := by decide +kernel
theorem d_Wo_enter_21 : decode prog_10_method_3_code 21 = .ok (.getfield 33, 3) := by decide +kernel
theorem d_Wo_enter_24 : decode prog_10_method_3_code 24 = .ok (.aload_n 0, 1) := by decide +kernel
theorem d_Wo_enter_25 : decode prog_10_method_3_code 25 = .ok (.getfield 43, 3) := by decide +kernel
theorem d_Wo_enter_28 : decode prog_10_method_3_code 28 = .ok (.iload_n 3, 1) := by decide +kernel
theorem d_Wo_enter_29 : decode prog_10_method_3_code 29 = .ok (.iastore, 1) := by decide +kernel
theorem d_Wo_enter_30 : decode prog_10_method_3_code 30 = .ok (.aload_n 0, 1) := by decide +kernel
theorem d_Wo_enter_31 : decode prog_10_method_3_code 31 = .ok (.getfield 36, 3) := by decide +kernel
theorem d_Wo_enter_34 : decode prog_10_method_3_code 34 = .ok (.aload_n 0, 1) := by decide +kernel
theorem d_Wo_enter_35 : decode prog_10_method_3_code 35 = .ok (.getfield 43, 3) := by decide +kernel
theorem d_Wo_enter_38 : decode prog_10_method_3_code 38 = .ok (.sipush 201, 3) := by decide +kernel
theorem d_Wo_enter_41 : decode prog_10_method_3_code 41 = .ok (.iastore, 1) := by decide +kernel
theorem d_Wo_enter_42 : decode prog_10_method_3_code 42 = .ok (.aload_n 0, 1) := by decide +kernel
theorem d_Wo_enter_43 : decode prog_10_method_3_code 43 = .ok (.getfield 27, 3) := by decide +kernel
theorem d_Wo_enter_46 : decode prog_10_method_3_code 46 = .ok (.aload_n 0, 1) := by decide +kernel
theorem d_Wo_enter_47 : decode prog_10_method_3_code 47 = .ok (.getfield 43, 3) := by decide +kernel
theorem d_Wo_enter_50 : decode prog_10_method_3_code 50 = .ok (.iload 4, 2) := by decide +kernel
theorem d_Wo_enter_52 : decode prog_10_method_3_code 52 = .ok (.iastore, 1) := by decide +kernel
theorem d_Wo_enter_53 : decode prog_10_method_3_code 53 = .ok (.aload_n 0, 1) := by decide +kernel
theorem d_Wo_enter_54 : decode prog_10_method_3_code 54 = .ok (.getfield 30, 3) := by decide +kernel
theorem d_Wo_enter_57 : decode prog_10_method_3_code 57 = .ok (.aload_n 0, 1) := by decide +kernel
theorem d_Wo_enter_58 : decode prog_10_method_3_code 58 = .ok (.getfield 43, 3) := by decide +kernel
theorem d_Wo_enter_61 : decode prog_10_method_3_code 61 = .ok (.iload 4, 2) := by decide +kernel
theorem d_Wo_enter_63 : decode prog_10_method_3_code 63 = .ok (.ifCond .ge 10, 3) := by decide +kernel
theorem d_Wo_enter_66 : decode prog_10_method_3_code 66 = .ok (.aload_n 0, 1) := by decide +kernel
theorem d_Wo_enter_67 : decode prog_10_method_3_code 67 = .ok (.getfield 43, 3) := by decide +kernel
theorem d_Wo_enter_70 : decode prog_10_method_3_code 70 = .ok (.goto 10, 3) := by decide +kernel
theorem d_Wo_enter_73 : decode prog_10_method_3_code 73 = .ok (.aload_n 0, 1) := by decide +kernel
theorem d_Wo_enter_74 : decode prog_10_method_3_code 74 = .ok (.getfield 30, 3) := by decide +kernel
theorem d_Wo_enter_77 : decode prog_10_method_3_code 77 = .ok (.iload 4, 2) := by decide +kernel
theorem d_Wo_enter_79 : decode prog_10_method_3_code 79 = .ok (.iaload, 1) := by decide +kernel
theorem d_Wo_enter_80 : decode prog_10_method_3_code 80 = .ok (.iastore, 1) := by decide +kernel
theorem d_Wo_enter_81 : decode prog_10_method_3_code 81 = .ok (.aload_n 0, 1) := by decide +kernel
theorem d_Wo_enter_82 : decode prog_10_method_3_code 82 = .ok (.dup, 1) := by decide +kernel
theorem d_Wo_enter_83 : decode prog_10_method_3_code 83 = .ok (.getfield 43, 3) := by decide +kernel
theorem d_Wo_enter_86 : decode prog_10_method_3_code 86 = .ok (.iconst 1, 1) := by decide +kernel
theorem d_Wo_enter_87 : decode prog_10_method_3_code 87 = .ok (.iadd, 1) := by decide +kernel
theorem d_Wo_enter_88 : decode prog_10_method_3_code 88 = .ok (.putfield 43, 3) := by decide +kernel
theorem d_Wo_enter_91 : decode prog_10_method_3_code 91 = .ok (.aload_n 0, 1) := by decide +kernel
theorem d_Wo_enter_92 : decode prog_10_method_3_code 92 = .ok (.getfield 43, 3) := by decide +kernel
theorem d_Wo_enter_95 : decode prog_10_method_3_code 95 = .ok (.iconst 1, 1) := by decide +kernel
theorem d_Wo_enter_96 : decode prog_10_method_3_code 96 = .ok (.isub, 1) := by decide +kernel
theorem d_Wo_enter_97 : decode prog_10_method_3_code 97 = .ok (.ireturn, 1) := by decide +kernel
set_option maxHeartbeats 4000000 in
set_option maxRecDepth 100000 in
theorem K_Wo_enter_e {F : FT} (hD : ∀ σ, va_D F.2.2.1 (GW F.2.1 σ)) (hm : F.2.2.2.2.2.2.2.2.2.2.2.2.2.2.1 = 5) (ok : OkF F prog_10_method_3_code "LastSeen$Words" ({ frames := 0, cells := 0, slots := 0, locals := 0 } : Room)) {Q : Int → SS → Prop} (hQ : RetI F Q) {x1 x2 x3 x4 : Int} {s : SS} (h : Sp_Wo_enter x1 x2 x3 x4 s Q) : AtS F 0 [(0, .ref (F.2.1.1 4)), (1, vI x1), (2, vI x2), (3, vI x3), (4, vI x4)] [] s := by
  unfold Sp_Wo_enter at h
  refine r_aload_n ok 0 d_Wo_enter_0 rfl rfl ?_
  refine g_Wo_witness ok d_Wo_enter_1 ?_
  refine r_aload_n ok 0 d_Wo_enter_4 rfl rfl ?_
  refine g_Wo_size ok d_Wo_enter_5 ?_
  refine r_iload_n ok 1 d_Wo_enter_8 rfl rfl ?_
  refine r_iast ok 18 d_Wo_enter_9 (by decide) rfl h.1 ?_
  replace h := h.2 _ rfl
  generalize sA s 18 (s.1 7) x1 = s1 at h ⊢
  refine r_aload_n ok 0 d_Wo_enter_10 rfl rfl ?_
  refine g_Wo_names ok d_Wo_enter_11 ?_
  refine r_aload_n ok 0 d_Wo_enter_14 rfl rfl ?_
  refine g_Wo_size ok d_Wo_enter_15 ?_
  refine r_iload_n ok 2 d_Wo_enter_18 rfl rfl ?_
  refine r_iast ok 19 d_Wo_enter_19 (by decide) rfl h.1 ?_
  replace h := h.2 _ rfl
  generalize sA s1 19 (s1.1 7) x2 = s2 at h ⊢
  refine r_aload_n ok 0 d_Wo_enter_20 rfl rfl ?_
  refine g_Wo_enteredAt ok d_Wo_enter_21 ?_
  refine r_aload_n ok 0 d_Wo_enter_24 rfl rfl ?_
  refine g_Wo_size ok d_Wo_enter_25 ?_
  refine r_iload_n ok 3 d_Wo_enter_28 rfl rfl ?_
  refine r_iast ok 25 d_Wo_enter_29 (by decide) rfl h.1 ?_
  replace h := h.2 _ rfl
  generalize sA s2 25 (s2.1 7) x3 = s3 at h ⊢
  refine r_aload_n ok 0 d_Wo_enter_30 rfl rfl ?_
  refine g_Wo_droppedAt ok d_Wo_enter_31 ?_
  refine r_aload_n ok 0 d_Wo_enter_34 rfl rfl ?_
  refine g_Wo_size ok d_Wo_enter_35 ?_
  refine r_sipush ok 201 d_Wo_enter_38 (by decide) ?_
  refine r_iast ok 26 d_Wo_enter_41 (by decide) rfl h.1 ?_
  replace h := h.2 _ rfl
  generalize sA s3 26 (s3.1 7) 201 = s4 at h ⊢
  refine r_aload_n ok 0 d_Wo_enter_42 rfl rfl ?_
  refine g_Wo_heardOf ok d_Wo_enter_43 ?_
  refine r_aload_n ok 0 d_Wo_enter_46 rfl rfl ?_
  refine g_Wo_size ok d_Wo_enter_47 ?_
  refine r_iload ok 4 d_Wo_enter_50 rfl ?_
  refine r_iast ok 23 d_Wo_enter_52 (by decide) rfl h.1 ?_
  replace h := h.2 _ rfl
  generalize sA s4 23 (s4.1 7) x4 = s5 at h ⊢
  refine r_aload_n ok 0 d_Wo_enter_53 rfl rfl ?_
  refine g_Wo_roots ok d_Wo_enter_54 ?_
  refine r_aload_n ok 0 d_Wo_enter_57 rfl rfl ?_
  refine g_Wo_size ok d_Wo_enter_58 ?_
  refine r_iload ok 4 d_Wo_enter_61 rfl ?_
  refine r_if_ge ok 73 d_Wo_enter_63 (by decide) h.1 (fun c => ?_) (fun c => ?_)
  · replace h := h.2.1 c
    refine r_aload_n ok 0 d_Wo_enter_73 rfl rfl ?_
    refine g_Wo_roots ok d_Wo_enter_74 ?_
    refine r_iload ok 4 d_Wo_enter_77 rfl ?_
    refine r_iald ok 24 d_Wo_enter_79 (by decide) rfl h.1 ?_
    replace h := h.2
    refine r_iast ok 24 d_Wo_enter_80 (by decide) rfl h.1 ?_
    replace h := h.2 _ rfl
    generalize sA s5 24 (s5.1 7) (s5.2 24 x4) = s6 at h ⊢
    refine r_aload_n ok 0 d_Wo_enter_81 rfl rfl ?_
    refine r_dup ok d_Wo_enter_82 rfl ?_
    refine g_Wo_size ok d_Wo_enter_83 ?_
    refine r_iconst ok 1 d_Wo_enter_86 rfl ?_
    refine r_iadd ok d_Wo_enter_87 ?_
    refine p_Wo_size ok d_Wo_enter_88 ?_
    replace h := h _ rfl
    generalize sF s6 7 ((s6.1 7) + 1) = s7 at h ⊢
    refine r_aload_n ok 0 d_Wo_enter_91 rfl rfl ?_
    refine g_Wo_size ok d_Wo_enter_92 ?_
    refine r_iconst ok 1 d_Wo_enter_95 rfl ?_
    refine r_isub ok d_Wo_enter_96 ?_
    exact hQ _ _ _ _ _ (ok_code ok) d_Wo_enter_97 h
  · replace h := h.2.2 c
    refine r_aload_n ok 0 d_Wo_enter_66 rfl rfl ?_
    refine g_Wo_size ok d_Wo_enter_67 ?_
    refine r_goto ok 80 d_Wo_enter_70 (by decide) ?_
    refine r_iast ok 24 d_Wo_enter_80 (by decide) rfl h.1 ?_
    replace h := h.2 _ rfl
    generalize sA s5 24 (s5.1 7) (s5.1 7) = s8 at h ⊢
    refine r_aload_n ok 0 d_Wo_enter_81 rfl rfl ?_
    refine r_dup ok d_Wo_enter_82 rfl ?_
    refine g_Wo_size ok d_Wo_enter_83 ?_
    refine r_iconst ok 1 d_Wo_enter_86 rfl ?_
    refine r_iadd ok d_Wo_enter_87 ?_
    refine p_Wo_size ok d_Wo_enter_88 ?_
    replace h := h _ rfl
    generalize sF s8 7 ((s8.1 7) + 1) = s9 at h ⊢
    refine r_aload_n ok 0 d_Wo_enter_91 rfl rfl ?_
    refine g_Wo_size ok d_Wo_enter_92 ?_
    refine r_iconst ok 1 d_Wo_enter_95 rfl ?_
    refine r_isub ok d_Wo_enter_96 ?_
    exact hQ _ _ _ _ _ (ok_code ok) d_Wo_enter_97 h
theorem L_Wo_enter (l : Launch) (G : GE) (A : Nat → Prop) (hD : ∀ σ, va_D A (GW G σ)) {x1 x2 x3 x4 : Int} {s : SS} {Q : Int → SS → Prop} (h : Sp_Wo_enter x1 x2 x3 x4 s Q) : Met l y_Wo_enter (Cond.code y_Wo_enter prog_10_method_3_code 5 (some .int) :: lw_ok) ({ frames := 0, cells := 0, slots := 0, locals := 0 } : Room) (va_Pc [.ref (G.1 4), vI x1, vI x2, vI x3, vI x4] (gB G s)) (va_Qi (fun (r : Int32) (s2 : SS) => ∃ x : Int, r = iI x ∧ Q x s2) (fun s2 t => gB G s2 t) A) 0 0 A := by
  refine met_i hD (by decide) ⟨rfl, rfl⟩ (Nat.le_of_ble_eq_true rfl) (lv := [(0, .ref (G.1 4)), (1, vI x1), (2, vI x2), (3, vI x3), (4, vI x4)]) rfl (fun F h1 h2 h3 hm ok hQ => ?_)
  subst h1 h2 h3
  have hDF := hD
  exact K_Wo_enter_e hDF hm ok hQ h
end
