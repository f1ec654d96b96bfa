section
theorem d_Md_drops_0 : decode prog_12_method_15_code 0 = .ok (.iconst 0, 1) := by decide +kernel
theorem d_Md_drops_1 : decode prog_12_method_15_code 1 = .ok (.istore_n 2, 1) := by decide +kernel
theorem d_Md_drops_2 : decode prog_12_method_15_code 2 = .ok (.iconst 0, 1) := by decide +kernel
theorem d_Md_drops_3 : decode prog_12_method_15_code 3 = .ok (.istore_n 3, 1) := by decide +kernel
theorem d_Md_drops_4 : decode prog_12_method_15_code 4 = .ok (.iconst 0, 1) := by decide +kernel
theorem d_Md_drops_5 : decode prog_12_method_15_code 5 = .ok (.istore 4, 2) := by decide +kernel
theorem d_Md_drops_7 : decode prog_12_method_15_code 7 = .ok (.iload 4, 2) := by decide +kernel
theorem d_Md_drops_9 : decode prog_12_method_15_code 9 = .ok (.aload_n 0, 1) := by decide +kernel
theorem d_Md_drops_10 : decode prog_12_method_15_code 10 = .ok (.getfield 210, 3) := by decide +kernel
theorem d_Md_drops_13 : decode prog_12_method_15_code 13 = .ok (.if_icmp .ge 122, 3) := by decide +kernel
theorem d_Md_drops_16 : decode prog_12_method_15_code 16 = .ok (.aload_n 0, 1) := by decide +kernel
theorem d_Md_drops_17 : decode prog_12_method_15_code 17 = .ok (.getfield 31, 3) := by decide +kernel
theorem d_Md_drops_20 : decode prog_12_method_15_code 20 = .ok (.iload 4, 2) := by decide +kernel
theorem d_Md_drops_22 : decode prog_12_method_15_code 22 = .ok (.iaload, 1) := by decide +kernel
theorem d_Md_drops_23 : decode prog_12_method_15_code 23 = .ok (.istore 5, 2) := by decide +kernel
theorem d_Md_drops_25 : decode prog_12_method_15_code 25 = .ok (.iload_n 1, 1) := by decide +kernel
theorem d_Md_drops_26 : decode prog_12_method_15_code 26 = .ok (.iconst 1, 1) := by decide +kernel
theorem d_Md_drops_27 : decode prog_12_method_15_code 27 = .ok (.if_icmp .ne 23, 3) := by decide +kernel
theorem d_Md_drops_30 : decode prog_12_method_15_code 30 = .ok (.iload 5, 2) := by decide +kernel
theorem d_Md_drops_32 : decode prog_12_method_15_code 32 = .ok (.bipush 104, 2) := by decide +kernel
theorem d_Md_drops_34 : decode prog_12_method_15_code 34 = .ok (.if_icmp .ne 12, 3) := by decide +kernel
theorem d_Md_drops_37 : decode prog_12_method_15_code 37 = .ok (.iload 4, 2) := by decide +kernel
theorem d_Md_drops_39 : decode prog_12_method_15_code 39 = .ok (.ifCond .le 7, 3) := by decide +kernel
theorem d_Md_drops_42 : decode prog_12_method_15_code 42 = .ok (.iconst 1, 1) := by decide +kernel
theorem d_Md_drops_43 : decode prog_12_method_15_code 43 = .ok (.goto 62, 3) := by decide +kernel
theorem d_Md_drops_46 : decode prog_12_method_15_code 46 = .ok (.iconst 0, 1) := by decide +kernel
theorem d_Md_drops_47 : decode prog_12_method_15_code 47 = .ok (.goto 58, 3) := by decide +kernel
theorem d_Md_drops_50 : decode prog_12_method_15_code 50 = .ok (.iload_n 1, 1) := by decide +kernel
theorem d_Md_drops_51 : decode prog_12_method_15_code 51 = .ok (.iconst 2, 1) := by decide +kernel
theorem d_Md_drops_52 : decode prog_12_method_15_code 52 = .ok (.if_icmp .ne 17, 3) := by decide +kernel
theorem d_Md_drops_55 : decode prog_12_method_15_code 55 = .ok (.iload 5, 2) := by decide +kernel
theorem d_Md_drops_57 : decode prog_12_method_15_code 57 = .ok (.iload_n 3, 1) := by decide +kernel
theorem d_Md_drops_58 : decode prog_12_method_15_code 58 = .ok (.if_icmp .ne 7, 3) := by decide +kernel
theorem d_Md_drops_61 : decode prog_12_method_15_code 61 = .ok (.iconst 1, 1) := by decide +kernel
theorem d_Md_drops_62 : decode prog_12_method_15_code 62 = .ok (.goto 43, 3) := by decide +kernel
theorem d_Md_drops_65 : decode prog_12_method_15_code 65 = .ok (.iconst 0, 1) := by decide +kernel
theorem d_Md_drops_66 : decode prog_12_method_15_code 66 = .ok (.goto 39, 3) := by decide +kernel
theorem d_Md_drops_69 : decode prog_12_method_15_code 69 = .ok (.iload_n 1, 1) := by decide +kernel
theorem d_Md_drops_70 : decode prog_12_method_15_code 70 = .ok (.iconst 3, 1) := by decide +kernel
theorem d_Md_drops_71 : decode prog_12_method_15_code 71 = .ok (.if_icmp .ne 24, 3) := by decide +kernel
theorem d_Md_drops_74 : decode prog_12_method_15_code 74 = .ok (.iload 5, 2) := by decide +kernel
theorem d_Md_drops_76 : decode prog_12_method_15_code 76 = .ok (.invokestatic 213, 3) := by decide +kernel
theorem d_Md_drops_79 : decode prog_12_method_15_code 79 = .ok (.ifCond .eq 12, 3) := by decide +kernel
theorem d_Md_drops_82 : decode prog_12_method_15_code 82 = .ok (.iload 4, 2) := by decide +kernel
theorem d_Md_drops_84 : decode prog_12_method_15_code 84 = .ok (.ifCond .le 7, 3) := by decide +kernel
theorem d_Md_drops_87 : decode prog_12_method_15_code 87 = .ok (.iconst 1, 1) := by decide +kernel
theorem d_Md_drops_88 : decode prog_12_method_15_code 88 = .ok (.goto 17, 3) := by decide +kernel
theorem d_Md_drops_91 : decode prog_12_method_15_code 91 = .ok (.iconst 0, 1) := by decide +kernel
theorem d_Md_drops_92 : decode prog_12_method_15_code 92 = .ok (.goto 13, 3) := by decide +kernel
theorem d_Md_drops_95 : decode prog_12_method_15_code 95 = .ok (.iload 5, 2) := by decide +kernel
theorem d_Md_drops_97 : decode prog_12_method_15_code 97 = .ok (.ifCond .ne 7, 3) := by decide +kernel
theorem d_Md_drops_100 : decode prog_12_method_15_code 100 = .ok (.iconst 1, 1) := by decide +kernel
theorem d_Md_drops_101 : decode prog_12_method_15_code 101 = .ok (.goto 4, 3) := by decide +kernel
theorem d_Md_drops_104 : decode prog_12_method_15_code 104 = .ok (.iconst 0, 1) := by decide +kernel
theorem d_Md_drops_105 : decode prog_12_method_15_code 105 = .ok (.istore 6, 2) := by decide +kernel
theorem d_Md_drops_107 : decode prog_12_method_15_code 107 = .ok (.iload 5, 2) := by decide +kernel
theorem d_Md_drops_109 : decode prog_12_method_15_code 109 = .ok (.istore_n 3, 1) := by decide +kernel
theorem d_Md_drops_110 : decode prog_12_method_15_code 110 = .ok (.iload 6, 2) := by decide +kernel
theorem d_Md_drops_112 : decode prog_12_method_15_code 112 = .ok (.ifCond .eq 6, 3) := by decide +kernel
theorem d_Md_drops_115 : decode prog_12_method_15_code 115 = .ok (.goto 14, 3) := by decide +kernel
theorem d_Md_drops_118 : decode prog_12_method_15_code 118 = .ok (.aload_n 0, 1) := by decide +kernel
theorem d_Md_drops_119 : decode prog_12_method_15_code 119 = .ok (.getfield 31, 3) := by decide +kernel
theorem d_Md_drops_122 : decode prog_12_method_15_code 122 = .ok (.iload_n 2, 1) := by decide +kernel
theorem d_Md_drops_123 : decode prog_12_method_15_code 123 = .ok (.iload 5, 2) := by decide +kernel
theorem d_Md_drops_125 : decode prog_12_method_15_code 125 = .ok (.iastore, 1) := by decide +kernel
theorem d_Md_drops_126 : decode prog_12_method_15_code 126 = .ok (.iinc 2 1, 3) := by decide +kernel
theorem d_Md_drops_129 : decode prog_12_method_15_code 129 = .ok (.iinc 4 1, 3) := by decide +kernel
theorem d_Md_drops_132 : decode prog_12_method_15_code 132 = .ok (.goto (-125), 3) := by decide +kernel
theorem d_Md_drops_135 : decode prog_12_method_15_code 135 = .ok (.aload_n 0, 1) := by decide +kernel
theorem d_Md_drops_136 : decode prog_12_method_15_code 136 = .ok (.iload_n 2, 1) := by decide +kernel
theorem d_Md_drops_137 : decode prog_12_method_15_code 137 = .ok (.putfield 210, 3) := by decide +kernel
theorem d_Md_drops_140 : decode prog_12_method_15_code 140 = .ok (.return_, 1) := by decide +kernel
set_option maxHeartbeats 4000000 in
set_option maxRecDepth 100000 in
theorem K_Md_drops_7 {F : FT} (hD : ∀ σ, va_D F.2.2.1 (GW F.2.1 σ)) (hm : F.2.2.2.2.2.2.2.2.2.2.2.2.2.2.1 = 7) (ok : OkF F prog_12_method_15_code "LastSeenModel" ({ frames := 1, cells := 0, slots := 0, locals := 20 } : Room)) {Q : SS → Prop} (hQ : RetV F Q) {x1 x2 x3 x4 : Int} {s : SS} (h : B_Md_drops_7 Q (fun x1 x2 x3 x4 s => AtS F 7 [(0, .ref (F.2.1.1 10)), (1, vI x1), (2, vI x2), (3, vI x3), (4, vI x4)] [] s) (fun x1 x2 x4 x5 y0 s => AtS F 105 [(0, .ref (F.2.1.1 10)), (1, vI x1), (2, vI x2), (4, vI x4), (5, vI x5)] [vI y0] s) x1 x2 x3 x4 s) : AtS F 7 [(0, .ref (F.2.1.1 10)), (1, vI x1), (2, vI x2), (3, vI x3), (4, vI x4)] [] s := by
  unfold B_Md_drops_7 at h
  refine r_iload ok 4 d_Md_drops_7 rfl ?_
  refine r_aload_n ok 0 d_Md_drops_9 rfl rfl ?_
  refine g_Md_spelledSize ok d_Md_drops_10 ?_
  refine r_icmp_ge ok 135 d_Md_drops_13 (by decide) h.1 h.2.1 (fun c => ?_) (fun c => ?_)
  · replace h := h.2.2.1 c
    refine r_aload_n ok 0 d_Md_drops_135 rfl rfl ?_
    refine r_iload_n ok 2 d_Md_drops_136 rfl rfl ?_
    refine p_Md_spelledSize ok d_Md_drops_137 ?_
    replace h := h _ rfl
    generalize sF s 32 x2 = s1 at h ⊢
    exact hQ _ _ _ _ (ok_code ok) d_Md_drops_140 h
  · replace h := h.2.2.2 c
    refine r_aload_n ok 0 d_Md_drops_16 rfl rfl ?_
    refine g_Md_spelled ok d_Md_drops_17 ?_
    refine r_iload ok 4 d_Md_drops_20 rfl ?_
    refine r_iald ok 66 d_Md_drops_22 (by decide) rfl h.1 ?_
    replace h := h.2
    refine r_istore ok [(5, vI (s.2 66 x4)), (0, .ref (F.2.1.1 10)), (1, vI x1), (2, vI x2), (3, vI x3), (4, vI x4)] d_Md_drops_23 hm (by decide) rfl ?_
    refine r_iload_n ok 2 d_Md_drops_25 rfl rfl ?_
    refine r_iconst ok 1 d_Md_drops_26 rfl ?_
    refine r_icmp_ne ok 50 d_Md_drops_27 (by decide) h.1 (by decide) (fun c => ?_) (fun c => ?_)
    · replace h := h.2.1 c
      refine r_iload_n ok 2 d_Md_drops_50 rfl rfl ?_
      refine r_iconst ok 2 d_Md_drops_51 rfl ?_
      refine r_icmp_ne ok 69 d_Md_drops_52 (by decide) h.1 (by decide) (fun c => ?_) (fun c => ?_)
      · replace h := h.2.1 c
        refine r_iload_n ok 2 d_Md_drops_69 rfl rfl ?_
        refine r_iconst ok 3 d_Md_drops_70 rfl ?_
        refine r_icmp_ne ok 95 d_Md_drops_71 (by decide) h.1 (by decide) (fun c => ?_) (fun c => ?_)
        · replace h := h.2.1 c
          refine r_iload ok 0 d_Md_drops_95 rfl ?_
          refine r_if_ne ok 104 d_Md_drops_97 (by decide) h.1 (fun c => ?_) (fun c => ?_)
          · replace h := h.2.1 c
            refine r_iconst ok 0 d_Md_drops_104 rfl ?_
            exact r_sub [1, 2, 3, 5, 0] rfl h
          · replace h := h.2.2 c
            refine r_iconst ok 1 d_Md_drops_100 rfl ?_
            refine r_goto ok 105 d_Md_drops_101 (by decide) ?_
            exact r_sub [1, 2, 3, 5, 0] rfl h
        · replace h := h.2.2 c
          refine r_iload ok 0 d_Md_drops_74 rfl ?_
          refine r_callSi (As := [vI (s.2 66 x4)]) (rest := []) ok wl_Md_213 wt_y_Md_isVowel wn_Md wc_y_Md_isVowel (by decide) (by decide) hh_Md_isVowel (Nat.le_of_ble_eq_true rfl) rfl d_Md_drops_76 (L_Md_isVowel F.1 F.2.1 F.2.2.1 hD h) (fun r3 s2 h => ?_)
          refine r_if_eq ok 91 d_Md_drops_79 (by decide) h.1 (fun c => ?_) (fun c => ?_)
          · replace h := h.2.1 c
            refine r_iconst ok 0 d_Md_drops_91 rfl ?_
            refine r_goto ok 105 d_Md_drops_92 (by decide) ?_
            exact r_sub [1, 2, 3, 5, 0] rfl h
          · replace h := h.2.2 c
            refine r_iload ok 5 d_Md_drops_82 rfl ?_
            refine r_if_le ok 91 d_Md_drops_84 (by decide) h.1 (fun c => ?_) (fun c => ?_)
            · replace h := h.2.1 c
              refine r_iconst ok 0 d_Md_drops_91 rfl ?_
              refine r_goto ok 105 d_Md_drops_92 (by decide) ?_
              exact r_sub [1, 2, 3, 5, 0] rfl h
            · replace h := h.2.2 c
              refine r_iconst ok 1 d_Md_drops_87 rfl ?_
              refine r_goto ok 105 d_Md_drops_88 (by decide) ?_
              exact r_sub [1, 2, 3, 5, 0] rfl h
      · replace h := h.2.2 c
        refine r_iload ok 0 d_Md_drops_55 rfl ?_
        refine r_iload_n ok 4 d_Md_drops_57 rfl rfl ?_
        refine r_icmp_ne ok 65 d_Md_drops_58 (by decide) h.1 h.2.1 (fun c => ?_) (fun c => ?_)
        · replace h := h.2.2.1 c
          refine r_iconst ok 0 d_Md_drops_65 rfl ?_
          refine r_goto ok 105 d_Md_drops_66 (by decide) ?_
          exact r_sub [1, 2, 3, 5, 0] rfl h
        · replace h := h.2.2.2 c
          refine r_iconst ok 1 d_Md_drops_61 rfl ?_
          refine r_goto ok 105 d_Md_drops_62 (by decide) ?_
          exact r_sub [1, 2, 3, 5, 0] rfl h
    · replace h := h.2.2 c
      refine r_iload ok 0 d_Md_drops_30 rfl ?_
      refine r_bipush ok 104 d_Md_drops_32 (by decide) ?_
      refine r_icmp_ne ok 46 d_Md_drops_34 (by decide) h.1 (by decide) (fun c => ?_) (fun c => ?_)
      · replace h := h.2.1 c
        refine r_iconst ok 0 d_Md_drops_46 rfl ?_
        refine r_goto ok 105 d_Md_drops_47 (by decide) ?_
        exact r_sub [1, 2, 3, 5, 0] rfl h
      · replace h := h.2.2 c
        refine r_iload ok 5 d_Md_drops_37 rfl ?_
        refine r_if_le ok 46 d_Md_drops_39 (by decide) h.1 (fun c => ?_) (fun c => ?_)
        · replace h := h.2.1 c
          refine r_iconst ok 0 d_Md_drops_46 rfl ?_
          refine r_goto ok 105 d_Md_drops_47 (by decide) ?_
          exact r_sub [1, 2, 3, 5, 0] rfl h
        · replace h := h.2.2 c
          refine r_iconst ok 1 d_Md_drops_42 rfl ?_
          refine r_goto ok 105 d_Md_drops_43 (by decide) ?_
          exact r_sub [1, 2, 3, 5, 0] rfl h
set_option maxHeartbeats 4000000 in
set_option maxRecDepth 100000 in
theorem K_Md_drops_105 {F : FT} (hD : ∀ σ, va_D F.2.2.1 (GW F.2.1 σ)) (hm : F.2.2.2.2.2.2.2.2.2.2.2.2.2.2.1 = 7) (ok : OkF F prog_12_method_15_code "LastSeenModel" ({ frames := 1, cells := 0, slots := 0, locals := 20 } : Room)) {Q : SS → Prop} (hQ : RetV F Q) {x1 x2 x4 x5 y0 : Int} {s : SS} (h : B_Md_drops_105 Q (fun x1 x2 x3 x4 s => AtS F 7 [(0, .ref (F.2.1.1 10)), (1, vI x1), (2, vI x2), (3, vI x3), (4, vI x4)] [] s) (fun x1 x2 x4 x5 y0 s => AtS F 105 [(0, .ref (F.2.1.1 10)), (1, vI x1), (2, vI x2), (4, vI x4), (5, vI x5)] [vI y0] s) x1 x2 x4 x5 y0 s) : AtS F 105 [(0, .ref (F.2.1.1 10)), (1, vI x1), (2, vI x2), (4, vI x4), (5, vI x5)] [vI y0] s := by
  unfold B_Md_drops_105 at h
  refine r_istore ok [(6, vI y0), (0, .ref (F.2.1.1 10)), (1, vI x1), (2, vI x2), (4, vI x4), (5, vI x5)] d_Md_drops_105 hm (by decide) rfl ?_
  refine r_iload ok 5 d_Md_drops_107 rfl ?_
  refine r_istore_n ok [(3, vI x5), (6, vI y0), (0, .ref (F.2.1.1 10)), (1, vI x1), (2, vI x2), (4, vI x4), (5, vI x5)] d_Md_drops_109 rfl hm (by decide) rfl ?_
  refine r_iload ok 1 d_Md_drops_110 rfl ?_
  refine r_if_eq ok 118 d_Md_drops_112 (by decide) h.1 (fun c => ?_) (fun c => ?_)
  · replace h := h.2.1 c
    refine r_aload_n ok 2 d_Md_drops_118 rfl rfl ?_
    refine g_Md_spelled ok d_Md_drops_119 ?_
    refine r_iload_n ok 4 d_Md_drops_122 rfl rfl ?_
    refine r_iload ok 6 d_Md_drops_123 rfl ?_
    refine r_iast ok 66 d_Md_drops_125 (by decide) rfl h.1 ?_
    replace h := h.2 _ rfl
    generalize sA s 66 x2 x5 = s4 at h ⊢
    refine r_iinc ok 4 (x2 + 1) [(2, vI (x2 + 1)), (3, vI x5), (6, vI y0), (0, .ref (F.2.1.1 10)), (1, vI x1), (4, vI x4), (5, vI x5)] d_Md_drops_126 rfl rfl hm (by decide) rfl ?_
    refine r_iinc ok 5 (x4 + 1) [(4, vI (x4 + 1)), (2, vI (x2 + 1)), (3, vI x5), (6, vI y0), (0, .ref (F.2.1.1 10)), (1, vI x1), (5, vI x5)] d_Md_drops_129 rfl rfl hm (by decide) rfl ?_
    refine r_goto ok 7 d_Md_drops_132 (by decide) ?_
    exact r_sub [4, 5, 1, 2, 0] rfl h
  · replace h := h.2.2 c
    refine r_goto ok 129 d_Md_drops_115 (by decide) ?_
    refine r_iinc ok 5 (x4 + 1) [(4, vI (x4 + 1)), (3, vI x5), (6, vI y0), (0, .ref (F.2.1.1 10)), (1, vI x1), (2, vI x2), (5, vI x5)] d_Md_drops_129 rfl rfl hm (by decide) rfl ?_
    refine r_goto ok 7 d_Md_drops_132 (by decide) ?_
    exact r_sub [3, 4, 5, 1, 0] rfl h
set_option maxHeartbeats 4000000 in
set_option maxRecDepth 100000 in
theorem K_Md_drops_e {F : FT} (hD : ∀ σ, va_D F.2.2.1 (GW F.2.1 σ)) (hm : F.2.2.2.2.2.2.2.2.2.2.2.2.2.2.1 = 7) (ok : OkF F prog_12_method_15_code "LastSeenModel" ({ frames := 1, cells := 0, slots := 0, locals := 20 } : Room)) {Q : SS → Prop} (hQ : RetV F Q) {x1 : Int} {s : SS} (h : B_Md_drops_e Q (fun x1 x2 x3 x4 s => AtS F 7 [(0, .ref (F.2.1.1 10)), (1, vI x1), (2, vI x2), (3, vI x3), (4, vI x4)] [] s) (fun x1 x2 x4 x5 y0 s => AtS F 105 [(0, .ref (F.2.1.1 10)), (1, vI x1), (2, vI x2), (4, vI x4), (5, vI x5)] [vI y0] s) x1 s) : AtS F 0 [(0, .ref (F.2.1.1 10)), (1, vI x1)] [] s := by
  unfold B_Md_drops_e at h
  refine r_iconst ok 0 d_Md_drops_0 rfl ?_
  refine r_istore_n ok [(2, vI 0), (0, .ref (F.2.1.1 10)), (1, vI x1)] d_Md_drops_1 rfl hm (by decide) rfl ?_
  refine r_iconst ok 0 d_Md_drops_2 rfl ?_
  refine r_istore_n ok [(3, vI 0), (2, vI 0), (0, .ref (F.2.1.1 10)), (1, vI x1)] d_Md_drops_3 rfl hm (by decide) rfl ?_
  refine r_iconst ok 0 d_Md_drops_4 rfl ?_
  refine r_istore ok [(4, vI 0), (3, vI 0), (2, vI 0), (0, .ref (F.2.1.1 10)), (1, vI x1)] d_Md_drops_5 hm (by decide) rfl ?_
  exact r_sub [3, 4, 2, 1, 0] rfl h
theorem L_Md_drops (l : Launch) (G : GE) (A : Nat → Prop) (hD : ∀ σ, va_D A (GW G σ)) {x1 : Int} {s : SS} {Q : SS → Prop} (h : Sp_Md_drops x1 s Q) : Met l y_Md_drops (Cond.code y_Md_drops prog_12_method_15_code 7 (none) :: lw_ok) ({ frames := 1, cells := 0, slots := 0, locals := 20 } : Room) (va_Pc [.ref (G.1 10), vI x1] (gB G s)) (va_Qv (fun (s2 : SS) => Q s2) (fun s2 t => gB G s2 t) A) 0 0 A := by
  refine met_v hD (by decide) ⟨rfl, rfl⟩ (Nat.le_of_ble_eq_true rfl) (lv := [(0, .ref (G.1 10)), (1, vI x1)]) rfl (fun F h1 h2 h3 hm ok hQ => ?_)
  subst h1 h2 h3
  have hDF := hD
  exact K_Md_drops_e hDF hm ok hQ (h _ _ (fun _ _ _ _ _ hb => K_Md_drops_7 hDF hm ok hQ hb) (fun _ _ _ _ _ _ hb => K_Md_drops_105 hDF hm ok hQ hb))
theorem d_Md_findKey_0 : decode prog_12_method_16_code 0 = .ok (.aload_n 0, 1) := by decide +kernel
theorem d_Md_findKey_1 : decode prog_12_method_16_code 1 = .ok (.aload_n 0, 1) := by decide +kernel
theorem d_Md_findKey_2 : decode prog_12_method_16_code 2 = .ok (.getfield 205, 3) := by decide +kernel
theorem d_Md_findKey_5 : decode prog_12_method_16_code 5 = .ok (.putfield 210, 3) := by decide +kernel
theorem d_Md_findKey_8 : decode prog_12_method_16_code 8 = .ok (.iconst 0, 1) := by decide +kernel
theorem d_Md_findKey_9 : decode prog_12_method_16_code 9 = .ok (.istore_n 2, 1) := by decide +kernel
theorem d_Md_findKey_10 : decode prog_12_method_16_code 10 = .ok (.iload_n 2, 1) := by decide +kernel
theorem d_Md_findKey_11 : decode prog_12_method_16_code 11 = .ok (.aload_n 0, 1) := by decide +kernel
theorem d_Md_findKey_12 : decode prog_12_method_16_code 12 = .ok (.getfield 205, 3) := by decide +kernel
theorem d_Md_findKey_15 : decode prog_12_method_16_code 15 = .ok (.if_icmp .ge 24, 3) := by decide +kernel
theorem d_Md_findKey_18 : decode prog_12_method_16_code 18 = .ok (.aload_n 0, 1) := by decide +kernel
theorem d_Md_findKey_19 : decode prog_12_method_16_code 19 = .ok (.getfield 31, 3) := by decide +kernel
theorem d_Md_findKey_22 : decode prog_12_method_16_code 22 = .ok (.iload_n 2, 1) := by decide +kernel
theorem d_Md_findKey_23 : decode prog_12_method_16_code 23 = .ok (.aload_n 0, 1) := by decide +kernel
theorem d_Md_findKey_24 : decode prog_12_method_16_code 24 = .ok (.getfield 22, 3) := by decide +kernel
theorem d_Md_findKey_27 : decode prog_12_method_16_code 27 = .ok (.iload_n 2, 1) := by decide +kernel
theorem d_Md_findKey_28 : decode prog_12_method_16_code 28 = .ok (.iaload, 1) := by decide +kernel
theorem d_Md_findKey_29 : decode prog_12_method_16_code 29 = .ok (.invokestatic 216, 3) := by decide +kernel
theorem d_Md_findKey_32 : decode prog_12_method_16_code 32 = .ok (.iastore, 1) := by decide +kernel
theorem d_Md_findKey_33 : decode prog_12_method_16_code 33 = .ok (.iinc 2 1, 3) := by decide +kernel
theorem d_Md_findKey_36 : decode prog_12_method_16_code 36 = .ok (.goto (-26), 3) := by decide +kernel
theorem d_Md_findKey_39 : decode prog_12_method_16_code 39 = .ok (.iconst 0, 1) := by decide +kernel
theorem d_Md_findKey_40 : decode prog_12_method_16_code 40 = .ok (.istore_n 2, 1) := by decide +kernel
theorem d_Md_findKey_41 : decode prog_12_method_16_code 41 = .ok (.iload_n 2, 1) := by decide +kernel
theorem d_Md_findKey_42 : decode prog_12_method_16_code 42 = .ok (.iconst 1, 1) := by decide +kernel
theorem d_Md_findKey_43 : decode prog_12_method_16_code 43 = .ok (.iadd, 1) := by decide +kernel
theorem d_Md_findKey_44 : decode prog_12_method_16_code 44 = .ok (.aload_n 0, 1) := by decide +kernel
theorem d_Md_findKey_45 : decode prog_12_method_16_code 45 = .ok (.getfield 205, 3) := by decide +kernel
theorem d_Md_findKey_48 : decode prog_12_method_16_code 48 = .ok (.if_icmp .ge 53, 3) := by decide +kernel
theorem d_Md_findKey_51 : decode prog_12_method_16_code 51 = .ok (.aload_n 0, 1) := by decide +kernel
theorem d_Md_findKey_52 : decode prog_12_method_16_code 52 = .ok (.getfield 31, 3) := by decide +kernel
theorem d_Md_findKey_55 : decode prog_12_method_16_code 55 = .ok (.iload_n 2, 1) := by decide +kernel
theorem d_Md_findKey_56 : decode prog_12_method_16_code 56 = .ok (.iaload, 1) := by decide +kernel
theorem d_Md_findKey_57 : decode prog_12_method_16_code 57 = .ok (.bipush 112, 2) := by decide +kernel
theorem d_Md_findKey_59 : decode prog_12_method_16_code 59 = .ok (.if_icmp .ne 36, 3) := by decide +kernel
theorem d_Md_findKey_62 : decode prog_12_method_16_code 62 = .ok (.aload_n 0, 1) := by decide +kernel
theorem d_Md_findKey_63 : decode prog_12_method_16_code 63 = .ok (.getfield 31, 3) := by decide +kernel
theorem d_Md_findKey_66 : decode prog_12_method_16_code 66 = .ok (.iload_n 2, 1) := by decide +kernel
theorem d_Md_findKey_67 : decode prog_12_method_16_code 67 = .ok (.iconst 1, 1) := by decide +kernel
theorem d_Md_findKey_68 : decode prog_12_method_16_code 68 = .ok (.iadd, 1) := by decide +kernel
theorem d_Md_findKey_69 : decode prog_12_method_16_code 69 = .ok (.iaload, 1) := by decide +kernel
theorem d_Md_findKey_70 : decode prog_12_method_16_code 70 = .ok (.bipush 104, 2) := by decide +kernel
theorem d_Md_findKey_72 : decode prog_12_method_16_code 72 = .ok (.if_icmp .eq 6, 3) := by decide +kernel
theorem d_Md_findKey_75 : decode prog_12_method_16_code 75 = .ok (.goto 20, 3) := by decide +kernel
theorem d_Md_findKey_78 : decode prog_12_method_16_code 78 = .ok (.aload_n 0, 1) := by decide +kernel
theorem d_Md_findKey_79 : decode prog_12_method_16_code 79 = .ok (.getfield 31, 3) := by decide +kernel
theorem d_Md_findKey_82 : decode prog_12_method_16_code 82 = .ok (.iload_n 2, 1) := by decide +kernel
theorem d_Md_findKey_83 : decode prog_12_method_16_code 83 = .ok (.bipush 102, 2) := by decide +kernel
theorem d_Md_findKey_85 : decode prog_12_method_16_code 85 = .ok (.iastore, 1) := by decide +kernel
theorem d_Md_findKey_86 : decode prog_12_method_16_code 86 = .ok (.aload_n 0, 1) := by decide +kernel
theorem d_Md_findKey_87 : decode prog_12_method_16_code 87 = .ok (.getfield 31, 3) := by decide +kernel
theorem d_Md_findKey_90 : decode prog_12_method_16_code 90 = .ok (.iload_n 2, 1) := by decide +kernel
theorem d_Md_findKey_91 : decode prog_12_method_16_code 91 = .ok (.iconst 1, 1) := by decide +kernel
theorem d_Md_findKey_92 : decode prog_12_method_16_code 92 = .ok (.iadd, 1) := by decide +kernel
theorem d_Md_findKey_93 : decode prog_12_method_16_code 93 = .ok (.iconst 0, 1) := by decide +kernel
theorem d_Md_findKey_94 : decode prog_12_method_16_code 94 = .ok (.iastore, 1) := by decide +kernel
theorem d_Md_findKey_95 : decode prog_12_method_16_code 95 = .ok (.iinc 2 1, 3) := by decide +kernel
theorem d_Md_findKey_98 : decode prog_12_method_16_code 98 = .ok (.goto (-57), 3) := by decide +kernel
theorem d_Md_findKey_101 : decode prog_12_method_16_code 101 = .ok (.iconst 0, 1) := by decide +kernel
theorem d_Md_findKey_102 : decode prog_12_method_16_code 102 = .ok (.istore_n 2, 1) := by decide +kernel
theorem d_Md_findKey_103 : decode prog_12_method_16_code 103 = .ok (.iload_n 2, 1) := by decide +kernel
theorem d_Md_findKey_104 : decode prog_12_method_16_code 104 = .ok (.iconst 4, 1) := by decide +kernel
theorem d_Md_findKey_105 : decode prog_12_method_16_code 105 = .ok (.if_icmp .ge 14, 3) := by decide +kernel
theorem d_Md_findKey_108 : decode prog_12_method_16_code 108 = .ok (.aload_n 0, 1) := by decide +kernel
theorem d_Md_findKey_109 : decode prog_12_method_16_code 109 = .ok (.iload_n 2, 1) := by decide +kernel
theorem d_Md_findKey_110 : decode prog_12_method_16_code 110 = .ok (.invokevirtual 220, 3) := by decide +kernel
theorem d_Md_findKey_113 : decode prog_12_method_16_code 113 = .ok (.iinc 2 1, 3) := by decide +kernel
theorem d_Md_findKey_116 : decode prog_12_method_16_code 116 = .ok (.goto (-13), 3) := by decide +kernel
theorem d_Md_findKey_119 : decode prog_12_method_16_code 119 = .ok (.aload_n 0, 1) := by decide +kernel
theorem d_Md_findKey_120 : decode prog_12_method_16_code 120 = .ok (.getfield 28, 3) := by decide +kernel
theorem d_Md_findKey_123 : decode prog_12_method_16_code 123 = .ok (.iload_n 1, 1) := by decide +kernel
theorem d_Md_findKey_124 : decode prog_12_method_16_code 124 = .ok (.aload_n 0, 1) := by decide +kernel
theorem d_Md_findKey_125 : decode prog_12_method_16_code 125 = .ok (.getfield 210, 3) := by decide +kernel
theorem d_Md_findKey_128 : decode prog_12_method_16_code 128 = .ok (.iastore, 1) := by decide +kernel
theorem d_Md_findKey_129 : decode prog_12_method_16_code 129 = .ok (.iconst 0, 1) := by decide +kernel
theorem d_Md_findKey_130 : decode prog_12_method_16_code 130 = .ok (.istore_n 2, 1) := by decide +kernel
theorem d_Md_findKey_131 : decode prog_12_method_16_code 131 = .ok (.iload_n 2, 1) := by decide +kernel
theorem d_Md_findKey_132 : decode prog_12_method_16_code 132 = .ok (.aload_n 0, 1) := by decide +kernel
theorem d_Md_findKey_133 : decode prog_12_method_16_code 133 = .ok (.getfield 210, 3) := by decide +kernel
theorem d_Md_findKey_136 : decode prog_12_method_16_code 136 = .ok (.if_icmp .ge 29, 3) := by decide +kernel
theorem d_Md_findKey_139 : decode prog_12_method_16_code 139 = .ok (.aload_n 0, 1) := by decide +kernel
theorem d_Md_findKey_140 : decode prog_12_method_16_code 140 = .ok (.getfield 25, 3) := by decide +kernel
theorem d_Md_findKey_143 : decode prog_12_method_16_code 143 = .ok (.bipush 12, 2) := by decide +kernel
theorem d_Md_findKey_145 : decode prog_12_method_16_code 145 = .ok (.iload_n 1, 1) := by decide +kernel
theorem d_Md_findKey_146 : decode prog_12_method_16_code 146 = .ok (.imul, 1) := by decide +kernel
theorem d_Md_findKey_147 : decode prog_12_method_16_code 147 = .ok (.iload_n 2, 1) := by decide +kernel
theorem d_Md_findKey_148 : decode prog_12_method_16_code 148 = .ok (.iadd, 1) := by decide +kernel
theorem d_Md_findKey_149 : decode prog_12_method_16_code 149 = .ok (.aload_n 0, 1) := by decide +kernel
theorem d_Md_findKey_150 : decode prog_12_method_16_code 150 = .ok (.getfield 31, 3) := by decide +kernel
theorem d_Md_findKey_153 : decode prog_12_method_16_code 153 = .ok (.iload_n 2, 1) := by decide +kernel
theorem d_Md_findKey_154 : decode prog_12_method_16_code 154 = .ok (.iaload, 1) := by decide +kernel
theorem d_Md_findKey_155 : decode prog_12_method_16_code 155 = .ok (.bipush 97, 2) := by decide +kernel
theorem d_Md_findKey_157 : decode prog_12_method_16_code 157 = .ok (.isub, 1) := by decide +kernel
theorem d_Md_findKey_158 : decode prog_12_method_16_code 158 = .ok (.iastore, 1) := by decide +kernel
theorem d_Md_findKey_159 : decode prog_12_method_16_code 159 = .ok (.iinc 2 1, 3) := by decide +kernel
theorem d_Md_findKey_162 : decode prog_12_method_16_code 162 = .ok (.goto (-31), 3) := by decide +kernel
theorem d_Md_findKey_165 : decode prog_12_method_16_code 165 = .ok (.return_, 1) := by decide +kernel
set_option maxHeartbeats 4000000 in
set_option maxRecDepth 100000 in
theorem K_Md_findKey_10 {F : FT} (hD : ∀ σ, va_D F.2.2.1 (GW F.2.1 σ)) (hm : F.2.2.2.2.2.2.2.2.2.2.2.2.2.2.1 = 3) (ok : OkF F prog_12_method_16_code "LastSeenModel" ({ frames := 2, cells := 0, slots := 0, locals := 46 } : Room)) {Q : SS → Prop} (hQ : RetV F Q) {x1 x2 : Int} {s : SS} (h : B_Md_findKey_10 Q (fun x1 x2 s => AtS F 10 [(0, .ref (F.2.1.1 10)), (1, vI x1), (2, vI x2)] [] s) (fun x1 x2 s => AtS F 41 [(0, .ref (F.2.1.1 10)), (1, vI x1), (2, vI x2)] [] s) (fun x1 x2 s => AtS F 103 [(0, .ref (F.2.1.1 10)), (1, vI x1), (2, vI x2)] [] s) (fun x1 x2 s => AtS F 131 [(0, .ref (F.2.1.1 10)), (1, vI x1), (2, vI x2)] [] s) x1 x2 s) : AtS F 10 [(0, .ref (F.2.1.1 10)), (1, vI x1), (2, vI x2)] [] s := by
  unfold B_Md_findKey_10 at h
  refine r_iload_n ok 2 d_Md_findKey_10 rfl rfl ?_
  refine r_aload_n ok 0 d_Md_findKey_11 rfl rfl ?_
  refine g_Md_taped ok d_Md_findKey_12 ?_
  refine r_icmp_ge ok 39 d_Md_findKey_15 (by decide) h.1 h.2.1 (fun c => ?_) (fun c => ?_)
  · replace h := h.2.2.1 c
    refine r_iconst ok 0 d_Md_findKey_39 rfl ?_
    refine r_istore_n ok [(2, vI 0), (0, .ref (F.2.1.1 10)), (1, vI x1)] d_Md_findKey_40 rfl hm (by decide) rfl ?_
    exact r_sub [1, 2, 0] rfl h
  · replace h := h.2.2.2 c
    refine r_aload_n ok 0 d_Md_findKey_18 rfl rfl ?_
    refine g_Md_spelled ok d_Md_findKey_19 ?_
    refine r_iload_n ok 2 d_Md_findKey_22 rfl rfl ?_
    refine r_aload_n ok 0 d_Md_findKey_23 rfl rfl ?_
    refine g_Md_tape ok d_Md_findKey_24 ?_
    refine r_iload_n ok 2 d_Md_findKey_27 rfl rfl ?_
    refine r_iald ok 63 d_Md_findKey_28 (by decide) rfl h.1 ?_
    replace h := h.2
    refine r_callSi (As := [vI (s.2 63 x2)]) (rest := [vI x2, .ref (F.2.1.1 77)]) ok wl_Md_216 wt_y_Md_plain wn_Md wc_y_Md_plain (by decide) (by decide) hh_Md_plain (Nat.le_of_ble_eq_true rfl) rfl d_Md_findKey_29 (L_Md_plain F.1 F.2.1 F.2.2.1 hD h) (fun r3 s2 h => ?_)
    refine r_iast ok 66 d_Md_findKey_32 (by decide) rfl h.1 ?_
    replace h := h.2 _ rfl
    generalize sA s2 66 x2 r3 = s4 at h ⊢
    refine r_iinc ok 2 (x2 + 1) [(2, vI (x2 + 1)), (0, .ref (F.2.1.1 10)), (1, vI x1)] d_Md_findKey_33 rfl rfl hm (by decide) rfl ?_
    refine r_goto ok 10 d_Md_findKey_36 (by decide) ?_
    exact r_sub [1, 2, 0] rfl h
set_option maxHeartbeats 4000000 in
set_option maxRecDepth 100000 in
theorem K_Md_findKey_41 {F : FT} (hD : ∀ σ, va_D F.2.2.1 (GW F.2.1 σ)) (hm : F.2.2.2.2.2.2.2.2.2.2.2.2.2.2.1 = 3) (ok : OkF F prog_12_method_16_code "LastSeenModel" ({ frames := 2, cells := 0, slots := 0, locals := 46 } : Room)) {Q : SS → Prop} (hQ : RetV F Q) {x1 x2 : Int} {s : SS} (h : B_Md_findKey_41 Q (fun x1 x2 s => AtS F 10 [(0, .ref (F.2.1.1 10)), (1, vI x1), (2, vI x2)] [] s) (fun x1 x2 s => AtS F 41 [(0, .ref (F.2.1.1 10)), (1, vI x1), (2, vI x2)] [] s) (fun x1 x2 s => AtS F 103 [(0, .ref (F.2.1.1 10)), (1, vI x1), (2, vI x2)] [] s) (fun x1 x2 s => AtS F 131 [(0, .ref (F.2.1.1 10)), (1, vI x1), (2, vI x2)] [] s) x1 x2 s) : AtS F 41 [(0, .ref (F.2.1.1 10)), (1, vI x1), (2, vI x2)] [] s := by
  unfold B_Md_findKey_41 at h
  refine r_iload_n ok 2 d_Md_findKey_41 rfl rfl ?_
  refine r_iconst ok 1 d_Md_findKey_42 rfl ?_
  refine r_iadd ok d_Md_findKey_43 ?_
  refine r_aload_n ok 0 d_Md_findKey_44 rfl rfl ?_
  refine g_Md_taped ok d_Md_findKey_45 ?_
  refine r_icmp_ge ok 101 d_Md_findKey_48 (by decide) h.1 h.2.1 (fun c => ?_) (fun c => ?_)
  · replace h := h.2.2.1 c
    refine r_iconst ok 0 d_Md_findKey_101 rfl ?_
    refine r_istore_n ok [(2, vI 0), (0, .ref (F.2.1.1 10)), (1, vI x1)] d_Md_findKey_102 rfl hm (by decide) rfl ?_
    exact r_sub [1, 2, 0] rfl h
  · replace h := h.2.2.2 c
    refine r_aload_n ok 0 d_Md_findKey_51 rfl rfl ?_
    refine g_Md_spelled ok d_Md_findKey_52 ?_
    refine r_iload_n ok 2 d_Md_findKey_55 rfl rfl ?_
    refine r_iald ok 66 d_Md_findKey_56 (by decide) rfl h.1 ?_
    replace h := h.2
    refine r_bipush ok 112 d_Md_findKey_57 (by decide) ?_
    refine r_icmp_ne ok 95 d_Md_findKey_59 (by decide) h.1 (by decide) (fun c => ?_) (fun c => ?_)
    · replace h := h.2.1 c
      refine r_iinc ok 2 (x2 + 1) [(2, vI (x2 + 1)), (0, .ref (F.2.1.1 10)), (1, vI x1)] d_Md_findKey_95 rfl rfl hm (by decide) rfl ?_
      refine r_goto ok 41 d_Md_findKey_98 (by decide) ?_
      exact r_sub [1, 2, 0] rfl h
    · replace h := h.2.2 c
      refine r_aload_n ok 0 d_Md_findKey_62 rfl rfl ?_
      refine g_Md_spelled ok d_Md_findKey_63 ?_
      refine r_iload_n ok 2 d_Md_findKey_66 rfl rfl ?_
      refine r_iconst ok 1 d_Md_findKey_67 rfl ?_
      refine r_iadd ok d_Md_findKey_68 ?_
      refine r_iald ok 66 d_Md_findKey_69 (by decide) rfl h.1 ?_
      replace h := h.2
      refine r_bipush ok 104 d_Md_findKey_70 (by decide) ?_
      refine r_icmp_eq ok 78 d_Md_findKey_72 (by decide) h.1 (by decide) (fun c => ?_) (fun c => ?_)
      · replace h := h.2.1 c
        refine r_aload_n ok 0 d_Md_findKey_78 rfl rfl ?_
        refine g_Md_spelled ok d_Md_findKey_79 ?_
        refine r_iload_n ok 2 d_Md_findKey_82 rfl rfl ?_
        refine r_bipush ok 102 d_Md_findKey_83 (by decide) ?_
        refine r_iast ok 66 d_Md_findKey_85 (by decide) rfl h.1 ?_
        replace h := h.2 _ rfl
        generalize sA s 66 x2 102 = s5 at h ⊢
        refine r_aload_n ok 0 d_Md_findKey_86 rfl rfl ?_
        refine g_Md_spelled ok d_Md_findKey_87 ?_
        refine r_iload_n ok 2 d_Md_findKey_90 rfl rfl ?_
        refine r_iconst ok 1 d_Md_findKey_91 rfl ?_
        refine r_iadd ok d_Md_findKey_92 ?_
        refine r_iconst ok 0 d_Md_findKey_93 rfl ?_
        refine r_iast ok 66 d_Md_findKey_94 (by decide) rfl h.1 ?_
        replace h := h.2 _ rfl
        generalize sA s5 66 (x2 + 1) 0 = s6 at h ⊢
        refine r_iinc ok 2 (x2 + 1) [(2, vI (x2 + 1)), (0, .ref (F.2.1.1 10)), (1, vI x1)] d_Md_findKey_95 rfl rfl hm (by decide) rfl ?_
        refine r_goto ok 41 d_Md_findKey_98 (by decide) ?_
        exact r_sub [1, 2, 0] rfl h
      · replace h := h.2.2 c
        refine r_goto ok 95 d_Md_findKey_75 (by decide) ?_
        refine r_iinc ok 2 (x2 + 1) [(2, vI (x2 + 1)), (0, .ref (F.2.1.1 10)), (1, vI x1)] d_Md_findKey_95 rfl rfl hm (by decide) rfl ?_
        refine r_goto ok 41 d_Md_findKey_98 (by decide) ?_
        exact r_sub [1, 2, 0] rfl h
set_option maxHeartbeats 4000000 in
set_option maxRecDepth 100000 in
theorem K_Md_findKey_103 {F : FT} (hD : ∀ σ, va_D F.2.2.1 (GW F.2.1 σ)) (hm : F.2.2.2.2.2.2.2.2.2.2.2.2.2.2.1 = 3) (ok : OkF F prog_12_method_16_code "LastSeenModel" ({ frames := 2, cells := 0, slots := 0, locals := 46 } : Room)) {Q : SS → Prop} (hQ : RetV F Q) {x1 x2 : Int} {s : SS} (h : B_Md_findKey_103 Q (fun x1 x2 s => AtS F 10 [(0, .ref (F.2.1.1 10)), (1, vI x1), (2, vI x2)] [] s) (fun x1 x2 s => AtS F 41 [(0, .ref (F.2.1.1 10)), (1, vI x1), (2, vI x2)] [] s) (fun x1 x2 s => AtS F 103 [(0, .ref (F.2.1.1 10)), (1, vI x1), (2, vI x2)] [] s) (fun x1 x2 s => AtS F 131 [(0, .ref (F.2.1.1 10)), (1, vI x1), (2, vI x2)] [] s) x1 x2 s) : AtS F 103 [(0, .ref (F.2.1.1 10)), (1, vI x1), (2, vI x2)] [] s := by
  unfold B_Md_findKey_103 at h
  refine r_iload_n ok 2 d_Md_findKey_103 rfl rfl ?_
  refine r_iconst ok 4 d_Md_findKey_104 rfl ?_
  refine r_icmp_ge ok 119 d_Md_findKey_105 (by decide) h.1 (by decide) (fun c => ?_) (fun c => ?_)
  · replace h := h.2.1 c
    refine r_aload_n ok 0 d_Md_findKey_119 rfl rfl ?_
    refine g_Md_keySize ok d_Md_findKey_120 ?_
    refine r_iload_n ok 1 d_Md_findKey_123 rfl rfl ?_
    refine r_aload_n ok 0 d_Md_findKey_124 rfl rfl ?_
    refine g_Md_spelledSize ok d_Md_findKey_125 ?_
    refine r_iast ok 65 d_Md_findKey_128 (by decide) rfl h.1 ?_
    replace h := h.2 _ rfl
    generalize sA s 65 x1 (s.1 32) = s7 at h ⊢
    refine r_iconst ok 0 d_Md_findKey_129 rfl ?_
    refine r_istore_n ok [(2, vI 0), (0, .ref (F.2.1.1 10)), (1, vI x1)] d_Md_findKey_130 rfl hm (by decide) rfl ?_
    exact r_sub [1, 2, 0] rfl h
  · replace h := h.2.2 c
    refine r_aload_n ok 0 d_Md_findKey_108 rfl rfl ?_
    refine r_iload_n ok 2 d_Md_findKey_109 rfl rfl ?_
    refine r_callVv (As := [vI x2]) (rest := []) ok 10 rfl rfl rfl wl_Md_220 wi_y_Md_drops ws_y_Md_drops wn_Md wc_y_Md_drops (by decide) (by decide) hh_Md_drops (Nat.le_of_ble_eq_true rfl) rfl d_Md_findKey_110 (L_Md_drops F.1 F.2.1 F.2.2.1 hD h) (fun s8 h => ?_)
    refine r_iinc ok 2 (x2 + 1) [(2, vI (x2 + 1)), (0, .ref (F.2.1.1 10)), (1, vI x1)] d_Md_findKey_113 rfl rfl hm (by decide) rfl ?_
    refine r_goto ok 103 d_Md_findKey_116 (by decide) ?_
    exact r_sub [1, 2, 0] rfl h
set_option maxHeartbeats 4000000 in
set_option maxRecDepth 100000 in
theorem K_Md_findKey_131 {F : FT} (hD : ∀ σ, va_D F.2.2.1 (GW F.2.1 σ)) (hm : F.2.2.2.2.2.2.2.2.2.2.2.2.2.2.1 = 3) (ok : OkF F prog_12_method_16_code "LastSeenModel" ({ frames := 2, cells := 0, slots := 0, locals := 46 } : Room)) {Q : SS → Prop} (hQ : RetV F Q) {x1 x2 : Int} {s : SS} (h : B_Md_findKey_131 Q (fun x1 x2 s => AtS F 10 [(0, .ref (F.2.1.1 10)), (1, vI x1), (2, vI x2)] [] s) (fun x1 x2 s => AtS F 41 [(0, .ref (F.2.1.1 10)), (1, vI x1), (2, vI x2)] [] s) (fun x1 x2 s => AtS F 103 [(0, .ref (F.2.1.1 10)), (1, vI x1), (2, vI x2)] [] s) (fun x1 x2 s => AtS F 131 [(0, .ref (F.2.1.1 10)), (1, vI x1), (2, vI x2)] [] s) x1 x2 s) : AtS F 131 [(0, .ref (F.2.1.1 10)), (1, vI x1), (2, vI x2)] [] s := by
  unfold B_Md_findKey_131 at h
  refine r_iload_n ok 2 d_Md_findKey_131 rfl rfl ?_
  refine r_aload_n ok 0 d_Md_findKey_132 rfl rfl ?_
  refine g_Md_spelledSize ok d_Md_findKey_133 ?_
  refine r_icmp_ge ok 165 d_Md_findKey_136 (by decide) h.1 h.2.1 (fun c => ?_) (fun c => ?_)
  · replace h := h.2.2.1 c
    exact hQ _ _ _ _ (ok_code ok) d_Md_findKey_165 h
  · replace h := h.2.2.2 c
    refine r_aload_n ok 0 d_Md_findKey_139 rfl rfl ?_
    refine g_Md_key ok d_Md_findKey_140 ?_
    refine r_bipush ok 12 d_Md_findKey_143 (by decide) ?_
    refine r_iload_n ok 1 d_Md_findKey_145 rfl rfl ?_
    refine r_imul ok d_Md_findKey_146 ?_
    refine r_iload_n ok 2 d_Md_findKey_147 rfl rfl ?_
    refine r_iadd ok d_Md_findKey_148 ?_
    refine r_aload_n ok 0 d_Md_findKey_149 rfl rfl ?_
    refine g_Md_spelled ok d_Md_findKey_150 ?_
    refine r_iload_n ok 2 d_Md_findKey_153 rfl rfl ?_
    refine r_iald ok 66 d_Md_findKey_154 (by decide) rfl h.1 ?_
    replace h := h.2
    refine r_bipush ok 97 d_Md_findKey_155 (by decide) ?_
    refine r_isub ok d_Md_findKey_157 ?_
    refine r_iast ok 64 d_Md_findKey_158 (by decide) rfl h.1 ?_
    replace h := h.2 _ rfl
    generalize sA s 64 ((12 * x1) + x2) ((s.2 66 x2) - 97) = s9 at h ⊢
    refine r_iinc ok 2 (x2 + 1) [(2, vI (x2 + 1)), (0, .ref (F.2.1.1 10)), (1, vI x1)] d_Md_findKey_159 rfl rfl hm (by decide) rfl ?_
    refine r_goto ok 131 d_Md_findKey_162 (by decide) ?_
    exact r_sub [1, 2, 0] rfl h
set_option maxHeartbeats 4000000 in
set_option maxRecDepth 100000 in
theorem K_Md_findKey_e {F : FT} (hD : ∀ σ, va_D F.2.2.1 (GW F.2.1 σ)) (hm : F.2.2.2.2.2.2.2.2.2.2.2.2.2.2.1 = 3) (ok : OkF F prog_12_method_16_code "LastSeenModel" ({ frames := 2, cells := 0, slots := 0, locals := 46 } : Room)) {Q : SS → Prop} (hQ : RetV F Q) {x1 : Int} {s : SS} (h : B_Md_findKey_e Q (fun x1 x2 s => AtS F 10 [(0, .ref (F.2.1.1 10)), (1, vI x1), (2, vI x2)] [] s) (fun x1 x2 s => AtS F 41 [(0, .ref (F.2.1.1 10)), (1, vI x1), (2, vI x2)] [] s) (fun x1 x2 s => AtS F 103 [(0, .ref (F.2.1.1 10)), (1, vI x1), (2, vI x2)] [] s) (fun x1 x2 s => AtS F 131 [(0, .ref (F.2.1.1 10)), (1, vI x1), (2, vI x2)] [] s) x1 s) : AtS F 0 [(0, .ref (F.2.1.1 10)), (1, vI x1)] [] s := by
  unfold B_Md_findKey_e at h
  refine r_aload_n ok 0 d_Md_findKey_0 rfl rfl ?_
  refine r_aload_n ok 0 d_Md_findKey_1 rfl rfl ?_
  refine g_Md_taped ok d_Md_findKey_2 ?_
  refine p_Md_spelledSize ok d_Md_findKey_5 ?_
  replace h := h _ rfl
  generalize sF s 32 (s.1 30) = s1 at h ⊢
  refine r_iconst ok 0 d_Md_findKey_8 rfl ?_
  refine r_istore_n ok [(2, vI 0), (0, .ref (F.2.1.1 10)), (1, vI x1)] d_Md_findKey_9 rfl hm (by decide) rfl ?_
  exact r_sub [1, 2, 0] rfl h
theorem L_Md_findKey (l : Launch) (G : GE) (A : Nat → Prop) (hD : ∀ σ, va_D A (GW G σ)) {x1 : Int} {s : SS} {Q : SS → Prop} (h : Sp_Md_findKey x1 s Q) : Met l y_Md_findKey (Cond.code y_Md_findKey prog_12_method_16_code 3 (none) :: lw_ok) ({ frames := 2, cells := 0, slots := 0, locals := 46 } : Room) (va_Pc [.ref (G.1 10), vI x1] (gB G s)) (va_Qv (fun (s2 : SS) => Q s2) (fun s2 t => gB G s2 t) A) 0 0 A := by
  refine met_v hD (by decide) ⟨rfl, rfl⟩ (Nat.le_of_ble_eq_true rfl) (lv := [(0, .ref (G.1 10)), (1, vI x1)]) rfl (fun F h1 h2 h3 hm ok hQ => ?_)
  subst h1 h2 h3
  have hDF := hD
  exact K_Md_findKey_e hDF hm ok hQ (h _ _ _ _ (fun _ _ _ hb => K_Md_findKey_10 hDF hm ok hQ hb) (fun _ _ _ hb => K_Md_findKey_41 hDF hm ok hQ hb) (fun _ _ _ hb => K_Md_findKey_103 hDF hm ok hQ hb) (fun _ _ _ hb => K_Md_findKey_131 hDF hm ok hQ hb))
theorem d_Md_name_0 : decode prog_12_method_17_code 0 = .ok (.aload_n 0, 1) := by decide +kernel
theorem d_Md_name_1 : decode prog_12_method_17_code 1 = .ok (.getfield 205, 3) := by decide +kernel
theorem d_Md_name_4 : decode prog_12_method_17_code 4 = .ok (.i2l, 1) := by decide +kernel
theorem d_Md_name_5 : decode prog_12_method_17_code 5 = .ok (.lconst 1, 1) := by decide +kernel
theorem d_Md_name_6 : decode prog_12_method_17_code 6 = .ok (.ldc2_w 224, 3) := by decide +kernel
theorem d_Md_name_9 : decode prog_12_method_17_code 9 = .ok (.invokestatic 191, 3) := by decide +kernel
theorem d_Md_name_12 : decode prog_12_method_17_code 12 = .ok (.istore_n 1, 1) := by decide +kernel
theorem d_Md_name_13 : decode prog_12_method_17_code 13 = .ok (.iconst 0, 1) := by decide +kernel
theorem d_Md_name_14 : decode prog_12_method_17_code 14 = .ok (.istore_n 2, 1) := by decide +kernel
theorem d_Md_name_15 : decode prog_12_method_17_code 15 = .ok (.iload_n 2, 1) := by decide +kernel
theorem d_Md_name_16 : decode prog_12_method_17_code 16 = .ok (.aload_n 0, 1) := by decide +kernel
theorem d_Md_name_17 : decode prog_12_method_17_code 17 = .ok (.getfield 205, 3) := by decide +kernel
theorem d_Md_name_20 : decode prog_12_method_17_code 20 = .ok (.if_icmp .ge 38, 3) := by decide +kernel
theorem d_Md_name_23 : decode prog_12_method_17_code 23 = .ok (.iload_n 1, 1) := by decide +kernel
theorem d_Md_name_24 : decode prog_12_method_17_code 24 = .ok (.ifCond .eq 26, 3) := by decide +kernel
theorem d_Md_name_27 : decode prog_12_method_17_code 27 = .ok (.aload_n 0, 1) := by decide +kernel
theorem d_Md_name_28 : decode prog_12_method_17_code 28 = .ok (.getfield 22, 3) := by decide +kernel
theorem d_Md_name_31 : decode prog_12_method_17_code 31 = .ok (.iload_n 2, 1) := by decide +kernel
theorem d_Md_name_32 : decode prog_12_method_17_code 32 = .ok (.iaload, 1) := by decide +kernel
theorem d_Md_name_33 : decode prog_12_method_17_code 33 = .ok (.i2l, 1) := by decide +kernel
theorem d_Md_name_34 : decode prog_12_method_17_code 34 = .ok (.ldc2_w 226, 3) := by decide +kernel
theorem d_Md_name_37 : decode prog_12_method_17_code 37 = .ok (.ldc2_w 228, 3) := by decide +kernel
theorem d_Md_name_40 : decode prog_12_method_17_code 40 = .ok (.invokestatic 191, 3) := by decide +kernel
theorem d_Md_name_43 : decode prog_12_method_17_code 43 = .ok (.ifCond .eq 7, 3) := by decide +kernel
theorem d_Md_name_46 : decode prog_12_method_17_code 46 = .ok (.iconst 1, 1) := by decide +kernel
theorem d_Md_name_47 : decode prog_12_method_17_code 47 = .ok (.goto 4, 3) := by decide +kernel
theorem d_Md_name_50 : decode prog_12_method_17_code 50 = .ok (.iconst 0, 1) := by decide +kernel
theorem d_Md_name_51 : decode prog_12_method_17_code 51 = .ok (.istore_n 1, 1) := by decide +kernel
theorem d_Md_name_52 : decode prog_12_method_17_code 52 = .ok (.iinc 2 1, 3) := by decide +kernel
theorem d_Md_name_55 : decode prog_12_method_17_code 55 = .ok (.goto (-40), 3) := by decide +kernel
theorem d_Md_name_58 : decode prog_12_method_17_code 58 = .ok (.iload_n 1, 1) := by decide +kernel
theorem d_Md_name_59 : decode prog_12_method_17_code 59 = .ok (.ifCond .ne 6, 3) := by decide +kernel
theorem d_Md_name_62 : decode prog_12_method_17_code 62 = .ok (.bipush (-2), 2) := by decide +kernel
theorem d_Md_name_64 : decode prog_12_method_17_code 64 = .ok (.ireturn, 1) := by decide +kernel
theorem d_Md_name_65 : decode prog_12_method_17_code 65 = .ok (.aload_n 0, 1) := by decide +kernel
theorem d_Md_name_66 : decode prog_12_method_17_code 66 = .ok (.getfield 179, 3) := by decide +kernel
theorem d_Md_name_69 : decode prog_12_method_17_code 69 = .ok (.bipush 20, 2) := by decide +kernel
theorem d_Md_name_71 : decode prog_12_method_17_code 71 = .ok (.if_icmp .eq 13, 3) := by decide +kernel
theorem d_Md_name_74 : decode prog_12_method_17_code 74 = .ok (.aload_n 0, 1) := by decide +kernel
theorem d_Md_name_75 : decode prog_12_method_17_code 75 = .ok (.getfield 198, 3) := by decide +kernel
theorem d_Md_name_78 : decode prog_12_method_17_code 78 = .ok (.sipush 200, 3) := by decide +kernel
theorem d_Md_name_81 : decode prog_12_method_17_code 81 = .ok (.if_icmp .ne 6, 3) := by decide +kernel
theorem d_Md_name_84 : decode prog_12_method_17_code 84 = .ok (.bipush (-4), 2) := by decide +kernel
theorem d_Md_name_86 : decode prog_12_method_17_code 86 = .ok (.ireturn, 1) := by decide +kernel
theorem d_Md_name_87 : decode prog_12_method_17_code 87 = .ok (.aload_n 0, 1) := by decide +kernel
theorem d_Md_name_88 : decode prog_12_method_17_code 88 = .ok (.aload_n 0, 1) := by decide +kernel
theorem d_Md_name_89 : decode prog_12_method_17_code 89 = .ok (.getfield 179, 3) := by decide +kernel
theorem d_Md_name_92 : decode prog_12_method_17_code 92 = .ok (.invokevirtual 230, 3) := by decide +kernel
theorem d_Md_name_95 : decode prog_12_method_17_code 95 = .ok (.aload_n 0, 1) := by decide +kernel
theorem d_Md_name_96 : decode prog_12_method_17_code 96 = .ok (.iconst 0, 1) := by decide +kernel
theorem d_Md_name_97 : decode prog_12_method_17_code 97 = .ok (.putfield 205, 3) := by decide +kernel
theorem d_Md_name_100 : decode prog_12_method_17_code 100 = .ok (.aload_n 0, 1) := by decide +kernel
theorem d_Md_name_101 : decode prog_12_method_17_code 101 = .ok (.iconst 1, 1) := by decide +kernel
theorem d_Md_name_102 : decode prog_12_method_17_code 102 = .ok (.aload_n 0, 1) := by decide +kernel
theorem d_Md_name_103 : decode prog_12_method_17_code 103 = .ok (.getfield 179, 3) := by decide +kernel
theorem d_Md_name_106 : decode prog_12_method_17_code 106 = .ok (.iconst 0, 1) := by decide +kernel
theorem d_Md_name_107 : decode prog_12_method_17_code 107 = .ok (.invokevirtual 233, 3) := by decide +kernel
theorem d_Md_name_110 : decode prog_12_method_17_code 110 = .ok (.aload_n 0, 1) := by decide +kernel
theorem d_Md_name_111 : decode prog_12_method_17_code 111 = .ok (.dup, 1) := by decide +kernel
theorem d_Md_name_112 : decode prog_12_method_17_code 112 = .ok (.getfield 179, 3) := by decide +kernel
theorem d_Md_name_115 : decode prog_12_method_17_code 115 = .ok (.iconst 1, 1) := by decide +kernel
theorem d_Md_name_116 : decode prog_12_method_17_code 116 = .ok (.iadd, 1) := by decide +kernel
theorem d_Md_name_117 : decode prog_12_method_17_code 117 = .ok (.putfield 179, 3) := by decide +kernel
theorem d_Md_name_120 : decode prog_12_method_17_code 120 = .ok (.aload_n 0, 1) := by decide +kernel
theorem d_Md_name_121 : decode prog_12_method_17_code 121 = .ok (.getfield 179, 3) := by decide +kernel
theorem d_Md_name_124 : decode prog_12_method_17_code 124 = .ok (.iconst 1, 1) := by decide +kernel
theorem d_Md_name_125 : decode prog_12_method_17_code 125 = .ok (.isub, 1) := by decide +kernel
theorem d_Md_name_126 : decode prog_12_method_17_code 126 = .ok (.ireturn, 1) := by decide +kernel
set_option maxHeartbeats 4000000 in
set_option maxRecDepth 100000 in
theorem K_Md_name_15 {F : FT} (hD : ∀ σ, va_D F.2.2.1 (GW F.2.1 σ)) (hm : F.2.2.2.2.2.2.2.2.2.2.2.2.2.2.1 = 3) (ok : OkF F prog_12_method_17_code "LastSeenModel" ({ frames := 3, cells := 0, slots := 0, locals := 68 } : Room)) {Q : Int → SS → Prop} (hQ : RetI F Q) {x1 x2 : Int} {s : SS} (h : B_Md_name_15 Q (fun x1 x2 s => AtS F 15 [(0, .ref (F.2.1.1 10)), (1, vI x1), (2, vI x2)] [] s) x1 x2 s) : AtS F 15 [(0, .ref (F.2.1.1 10)), (1, vI x1), (2, vI x2)] [] s := by
  unfold B_Md_name_15 at h
  refine r_iload_n ok 2 d_Md_name_15 rfl rfl ?_
  refine r_aload_n ok 0 d_Md_name_16 rfl rfl ?_
  refine g_Md_taped ok d_Md_name_17 ?_
  refine r_icmp_ge ok 58 d_Md_name_20 (by decide) h.1 h.2.1 (fun c => ?_) (fun c => ?_)
  · replace h := h.2.2.1 c
    refine r_iload_n ok 1 d_Md_name_58 rfl rfl ?_
    refine r_if_ne ok 65 d_Md_name_59 (by decide) h.1 (fun c => ?_) (fun c => ?_)
    · replace h := h.2.1 c
      refine r_aload_n ok 0 d_Md_name_65 rfl rfl ?_
      refine g_Md_names ok d_Md_name_66 ?_
      refine r_bipush ok 20 d_Md_name_69 (by decide) ?_
      refine r_icmp_eq ok 84 d_Md_name_71 (by decide) h.1 (by decide) (fun c => ?_) (fun c => ?_)
      · replace h := h.2.1 c
        refine r_bipush ok (-4) d_Md_name_84 (by decide) ?_
        exact hQ _ _ _ _ _ (ok_code ok) d_Md_name_86 h
      · replace h := h.2.2 c
        refine r_aload_n ok 0 d_Md_name_74 rfl rfl ?_
        refine g_Md_entries ok d_Md_name_75 ?_
        refine r_sipush ok 200 d_Md_name_78 (by decide) ?_
        refine r_icmp_ne ok 87 d_Md_name_81 (by decide) h.1 (by decide) (fun c => ?_) (fun c => ?_)
        · replace h := h.2.1 c
          refine r_aload_n ok 0 d_Md_name_87 rfl rfl ?_
          refine r_aload_n ok 0 d_Md_name_88 rfl rfl ?_
          refine g_Md_names ok d_Md_name_89 ?_
          refine r_callVv (As := [vI (s.1 31)]) (rest := []) ok 10 rfl rfl rfl wl_Md_230 wi_y_Md_findKey ws_y_Md_findKey wn_Md wc_y_Md_findKey (by decide) (by decide) hh_Md_findKey (Nat.le_of_ble_eq_true rfl) rfl d_Md_name_92 (L_Md_findKey F.1 F.2.1 F.2.2.1 hD h) (fun s3 h => ?_)
          refine r_aload_n ok 0 d_Md_name_95 rfl rfl ?_
          refine r_iconst ok 0 d_Md_name_96 rfl ?_
          refine p_Md_taped ok d_Md_name_97 ?_
          replace h := h _ rfl
          generalize sF s3 30 0 = s4 at h ⊢
          refine r_aload_n ok 0 d_Md_name_100 rfl rfl ?_
          refine r_iconst ok 1 d_Md_name_101 rfl ?_
          refine r_aload_n ok 0 d_Md_name_102 rfl rfl ?_
          refine g_Md_names ok d_Md_name_103 ?_
          refine r_iconst ok 0 d_Md_name_106 rfl ?_
          refine r_callVv (As := [vI 1, vI (s4.1 31), vI 0]) (rest := []) ok 10 rfl rfl rfl wl_Md_233 wi_y_Md_enters ws_y_Md_enters wn_Md wc_y_Md_enters (by decide) (by decide) hh_Md_enters (Nat.le_of_ble_eq_true rfl) rfl d_Md_name_107 (L_Md_enters F.1 F.2.1 F.2.2.1 hD h) (fun s5 h => ?_)
          refine r_aload_n ok 0 d_Md_name_110 rfl rfl ?_
          refine r_dup ok d_Md_name_111 rfl ?_
          refine g_Md_names ok d_Md_name_112 ?_
          refine r_iconst ok 1 d_Md_name_115 rfl ?_
          refine r_iadd ok d_Md_name_116 ?_
          refine p_Md_names ok d_Md_name_117 ?_
          replace h := h _ rfl
          generalize sF s5 31 ((s5.1 31) + 1) = s6 at h ⊢
          refine r_aload_n ok 0 d_Md_name_120 rfl rfl ?_
          refine g_Md_names ok d_Md_name_121 ?_
          refine r_iconst ok 1 d_Md_name_124 rfl ?_
          refine r_isub ok d_Md_name_125 ?_
          exact hQ _ _ _ _ _ (ok_code ok) d_Md_name_126 h
        · replace h := h.2.2 c
          refine r_bipush ok (-4) d_Md_name_84 (by decide) ?_
          exact hQ _ _ _ _ _ (ok_code ok) d_Md_name_86 h
    · replace h := h.2.2 c
      refine r_bipush ok (-2) d_Md_name_62 (by decide) ?_
      exact hQ _ _ _ _ _ (ok_code ok) d_Md_name_64 h
  · replace h := h.2.2.2 c
    refine r_iload_n ok 1 d_Md_name_23 rfl rfl ?_
    refine r_if_eq ok 50 d_Md_name_24 (by decide) h.1 (fun c => ?_) (fun c => ?_)
    · replace h := h.2.1 c
      refine r_iconst ok 0 d_Md_name_50 rfl ?_
      refine r_istore_n ok [(1, vI 0), (0, .ref (F.2.1.1 10)), (2, vI x2)] d_Md_name_51 rfl hm (by decide) rfl ?_
      refine r_iinc ok 2 (x2 + 1) [(2, vI (x2 + 1)), (1, vI 0), (0, .ref (F.2.1.1 10))] d_Md_name_52 rfl rfl hm (by decide) rfl ?_
      refine r_goto ok 15 d_Md_name_55 (by decide) ?_
      exact r_sub [2, 1, 0] rfl h
    · replace h := h.2.2 c
      refine r_aload_n ok 0 d_Md_name_27 rfl rfl ?_
      refine g_Md_tape ok d_Md_name_28 ?_
      refine r_iload_n ok 2 d_Md_name_31 rfl rfl ?_
      refine r_iald ok 63 d_Md_name_32 (by decide) rfl h.1 ?_
      replace h := h.2
      refine r_i2l ok d_Md_name_33 h.1 ?_
      replace h := h.2
      refine r_ldc2 ok 97 wk_Md_226 d_Md_name_34 (by decide) ?_
      refine r_ldc2 ok 122 wk_Md_228 d_Md_name_37 (by decide) ?_
      refine r_callSi (As := [vJ (s.2 63 x2), vJ 97, vJ 122]) (rest := []) ok wl_Md_191 wt_y_Md_isIn wn_Md wc_y_Md_isIn (by decide) (by decide) hh_Md_isIn (Nat.le_of_ble_eq_true rfl) rfl d_Md_name_40 (L_Md_isIn F.1 F.2.1 F.2.2.1 hD h) (fun r8 s7 h => ?_)
      refine r_if_eq ok 50 d_Md_name_43 (by decide) h.1 (fun c => ?_) (fun c => ?_)
      · replace h := h.2.1 c
        refine r_iconst ok 0 d_Md_name_50 rfl ?_
        refine r_istore_n ok [(1, vI 0), (0, .ref (F.2.1.1 10)), (2, vI x2)] d_Md_name_51 rfl hm (by decide) rfl ?_
        refine r_iinc ok 2 (x2 + 1) [(2, vI (x2 + 1)), (1, vI 0), (0, .ref (F.2.1.1 10))] d_Md_name_52 rfl rfl hm (by decide) rfl ?_
        refine r_goto ok 15 d_Md_name_55 (by decide) ?_
        exact r_sub [2, 1, 0] rfl h
      · replace h := h.2.2 c
        refine r_iconst ok 1 d_Md_name_46 rfl ?_
        refine r_goto ok 51 d_Md_name_47 (by decide) ?_
        refine r_istore_n ok [(1, vI 1), (0, .ref (F.2.1.1 10)), (2, vI x2)] d_Md_name_51 rfl hm (by decide) rfl ?_
        refine r_iinc ok 2 (x2 + 1) [(2, vI (x2 + 1)), (1, vI 1), (0, .ref (F.2.1.1 10))] d_Md_name_52 rfl rfl hm (by decide) rfl ?_
        refine r_goto ok 15 d_Md_name_55 (by decide) ?_
        exact r_sub [2, 1, 0] rfl h
set_option maxHeartbeats 4000000 in
set_option maxRecDepth 100000 in
theorem K_Md_name_e {F : FT} (hD : ∀ σ, va_D F.2.2.1 (GW F.2.1 σ)) (hm : F.2.2.2.2.2.2.2.2.2.2.2.2.2.2.1 = 3) (ok : OkF F prog_12_method_17_code "LastSeenModel" ({ frames := 3, cells := 0, slots := 0, locals := 68 } : Room)) {Q : Int → SS → Prop} (hQ : RetI F Q) {s : SS} (h : B_Md_name_e Q (fun x1 x2 s => AtS F 15 [(0, .ref (F.2.1.1 10)), (1, vI x1), (2, vI x2)] [] s)  s) : AtS F 0 [(0, .ref (F.2.1.1 10))] [] s := by
  unfold B_Md_name_e at h
  refine r_aload_n ok 0 d_Md_name_0 rfl rfl ?_
  refine g_Md_taped ok d_Md_name_1 ?_
  refine r_i2l ok d_Md_name_4 h.1 ?_
  replace h := h.2
  refine r_lconst ok 1 d_Md_name_5 (by decide) ?_
  refine r_ldc2 ok 12 wk_Md_224 d_Md_name_6 (by decide) ?_
  refine r_callSi (As := [vJ (s.1 30), vJ 1, vJ 12]) (rest := []) ok wl_Md_191 wt_y_Md_isIn wn_Md wc_y_Md_isIn (by decide) (by decide) hh_Md_isIn (Nat.le_of_ble_eq_true rfl) rfl d_Md_name_9 (L_Md_isIn F.1 F.2.1 F.2.2.1 hD h) (fun r2 s1 h => ?_)
  refine r_istore_n ok [(1, vI r2), (0, .ref (F.2.1.1 10))] d_Md_name_12 rfl hm (by decide) rfl ?_
  refine r_iconst ok 0 d_Md_name_13 rfl ?_
  refine r_istore_n ok [(2, vI 0), (1, vI r2), (0, .ref (F.2.1.1 10))] d_Md_name_14 rfl hm (by decide) rfl ?_
  exact r_sub [2, 1, 0] rfl h
theorem L_Md_name (l : Launch) (G : GE) (A : Nat → Prop) (hD : ∀ σ, va_D A (GW G σ)) {s : SS} {Q : Int → SS → Prop} (h : Sp_Md_name  s Q) : Met l y_Md_name (Cond.code y_Md_name prog_12_method_17_code 3 (some .int) :: lw_ok) ({ frames := 3, cells := 0, slots := 0, locals := 68 } : Room) (va_Pc [.ref (G.1 10)] (gB G s)) (va_Qi (fun (r : Int32) (s2 : SS) => ∃ x : Int, r = iI x ∧ Q x s2) (fun s2 t => gB G s2 t) A) 0 0 A := by
  refine met_i hD (by decide) ⟨rfl, rfl⟩ (Nat.le_of_ble_eq_true rfl) (lv := [(0, .ref (G.1 10))]) rfl (fun F h1 h2 h3 hm ok hQ => ?_)
  subst h1 h2 h3
  have hDF := hD
  exact K_Md_name_e hDF hm ok hQ (h _ (fun _ _ _ hb => K_Md_name_15 hDF hm ok hQ hb))
theorem d_Md_key_0 : decode prog_12_method_18_code 0 = .ok (.aload_n 0, 1) := by decide +kernel
theorem d_Md_key_1 : decode prog_12_method_18_code 1 = .ok (.iload_n 1, 1) := by decide +kernel
theorem d_Md_key_2 : decode prog_12_method_18_code 2 = .ok (.invokevirtual 237, 3) := by decide +kernel
theorem d_Md_key_5 : decode prog_12_method_18_code 5 = .ok (.ifCond .eq 23, 3) := by decide +kernel
theorem d_Md_key_8 : decode prog_12_method_18_code 8 = .ok (.iload_n 2, 1) := by decide +kernel
theorem d_Md_key_9 : decode prog_12_method_18_code 9 = .ok (.i2l, 1) := by decide +kernel
theorem d_Md_key_10 : decode prog_12_method_18_code 10 = .ok (.ldc2_w 201, 3) := by decide +kernel
theorem d_Md_key_13 : decode prog_12_method_18_code 13 = .ok (.aload_n 0, 1) := by decide +kernel
theorem d_Md_key_14 : decode prog_12_method_18_code 14 = .ok (.getfield 28, 3) := by decide +kernel
theorem d_Md_key_17 : decode prog_12_method_18_code 17 = .ok (.iload_n 1, 1) := by decide +kernel
theorem d_Md_key_18 : decode prog_12_method_18_code 18 = .ok (.iaload, 1) := by decide +kernel
theorem d_Md_key_19 : decode prog_12_method_18_code 19 = .ok (.iconst 1, 1) := by decide +kernel
theorem d_Md_key_20 : decode prog_12_method_18_code 20 = .ok (.isub, 1) := by decide +kernel
theorem d_Md_key_21 : decode prog_12_method_18_code 21 = .ok (.i2l, 1) := by decide +kernel
theorem d_Md_key_22 : decode prog_12_method_18_code 22 = .ok (.invokestatic 191, 3) := by decide +kernel
theorem d_Md_key_25 : decode prog_12_method_18_code 25 = .ok (.ifCond .ne 6, 3) := by decide +kernel
theorem d_Md_key_28 : decode prog_12_method_18_code 28 = .ok (.bipush (-5), 2) := by decide +kernel
theorem d_Md_key_30 : decode prog_12_method_18_code 30 = .ok (.ireturn, 1) := by decide +kernel
theorem d_Md_key_31 : decode prog_12_method_18_code 31 = .ok (.iload_n 2, 1) := by decide +kernel
theorem d_Md_key_32 : decode prog_12_method_18_code 32 = .ok (.ifCond .ge 12, 3) := by decide +kernel
theorem d_Md_key_35 : decode prog_12_method_18_code 35 = .ok (.aload_n 0, 1) := by decide +kernel
theorem d_Md_key_36 : decode prog_12_method_18_code 36 = .ok (.getfield 28, 3) := by decide +kernel
theorem d_Md_key_39 : decode prog_12_method_18_code 39 = .ok (.iload_n 1, 1) := by decide +kernel
theorem d_Md_key_40 : decode prog_12_method_18_code 40 = .ok (.iaload, 1) := by decide +kernel
theorem d_Md_key_41 : decode prog_12_method_18_code 41 = .ok (.goto 14, 3) := by decide +kernel
theorem d_Md_key_44 : decode prog_12_method_18_code 44 = .ok (.aload_n 0, 1) := by decide +kernel
theorem d_Md_key_45 : decode prog_12_method_18_code 45 = .ok (.getfield 25, 3) := by decide +kernel
theorem d_Md_key_48 : decode prog_12_method_18_code 48 = .ok (.bipush 12, 2) := by decide +kernel
theorem d_Md_key_50 : decode prog_12_method_18_code 50 = .ok (.iload_n 1, 1) := by decide +kernel
theorem d_Md_key_51 : decode prog_12_method_18_code 51 = .ok (.imul, 1) := by decide +kernel
theorem d_Md_key_52 : decode prog_12_method_18_code 52 = .ok (.iload_n 2, 1) := by decide +kernel
theorem d_Md_key_53 : decode prog_12_method_18_code 53 = .ok (.iadd, 1) := by decide +kernel
theorem d_Md_key_54 : decode prog_12_method_18_code 54 = .ok (.iaload, 1) := by decide +kernel
theorem d_Md_key_55 : decode prog_12_method_18_code 55 = .ok (.ireturn, 1) := by decide +kernel
set_option maxHeartbeats 4000000 in
set_option maxRecDepth 100000 in
theorem K_Md_key_e {F : FT} (hD : ∀ σ, va_D F.2.2.1 (GW F.2.1 σ)) (hm : F.2.2.2.2.2.2.2.2.2.2.2.2.2.2.1 = 3) (ok : OkF F prog_12_method_18_code "LastSeenModel" ({ frames := 1, cells := 0, slots := 0, locals := 25 } : Room)) {Q : Int → SS → Prop} (hQ : RetI F Q) {x1 x2 : Int} {s : SS} (h : Sp_Md_key x1 x2 s Q) : AtS F 0 [(0, .ref (F.2.1.1 10)), (1, vI x1), (2, vI x2)] [] s := by
  unfold Sp_Md_key at h
  refine r_aload_n ok 0 d_Md_key_0 rfl rfl ?_
  refine r_iload_n ok 1 d_Md_key_1 rfl rfl ?_
  refine r_callVi (As := [vI x1]) (rest := []) ok 10 rfl rfl rfl wl_Md_237 wi_y_Md_isName ws_y_Md_isName wn_Md wc_y_Md_isName (by decide) (by decide) hh_Md_isName (Nat.le_of_ble_eq_true rfl) rfl d_Md_key_2 (L_Md_isName F.1 F.2.1 F.2.2.1 hD h) (fun r2 s1 h => ?_)
  refine r_if_eq ok 28 d_Md_key_5 (by decide) h.1 (fun c => ?_) (fun c => ?_)
  · replace h := h.2.1 c
    refine r_bipush ok (-5) d_Md_key_28 (by decide) ?_
    exact hQ _ _ _ _ _ (ok_code ok) d_Md_key_30 h
  · replace h := h.2.2 c
    refine r_iload_n ok 2 d_Md_key_8 rfl rfl ?_
    refine r_i2l ok d_Md_key_9 h.1 ?_
    replace h := h.2
    refine r_ldc2 ok (-1) wk_Md_201 d_Md_key_10 (by decide) ?_
    refine r_aload_n ok 0 d_Md_key_13 rfl rfl ?_
    refine g_Md_keySize ok d_Md_key_14 ?_
    refine r_iload_n ok 1 d_Md_key_17 rfl rfl ?_
    refine r_iald ok 65 d_Md_key_18 (by decide) rfl h.1 ?_
    replace h := h.2
    refine r_iconst ok 1 d_Md_key_19 rfl ?_
    refine r_isub ok d_Md_key_20 ?_
    refine r_i2l ok d_Md_key_21 h.1 ?_
    replace h := h.2
    refine r_callSi (As := [vJ x2, vJ (-1), vJ ((s1.2 65 x1) - 1)]) (rest := []) ok wl_Md_191 wt_y_Md_isIn wn_Md wc_y_Md_isIn (by decide) (by decide) hh_Md_isIn (Nat.le_of_ble_eq_true rfl) rfl d_Md_key_22 (L_Md_isIn F.1 F.2.1 F.2.2.1 hD h) (fun r4 s3 h => ?_)
    refine r_if_ne ok 31 d_Md_key_25 (by decide) h.1 (fun c => ?_) (fun c => ?_)
    · replace h := h.2.1 c
      refine r_iload_n ok 2 d_Md_key_31 rfl rfl ?_
      refine r_if_ge ok 44 d_Md_key_32 (by decide) h.1 (fun c => ?_) (fun c => ?_)
      · replace h := h.2.1 c
        refine r_aload_n ok 0 d_Md_key_44 rfl rfl ?_
        refine g_Md_key ok d_Md_key_45 ?_
        refine r_bipush ok 12 d_Md_key_48 (by decide) ?_
        refine r_iload_n ok 1 d_Md_key_50 rfl rfl ?_
        refine r_imul ok d_Md_key_51 ?_
        refine r_iload_n ok 2 d_Md_key_52 rfl rfl ?_
        refine r_iadd ok d_Md_key_53 ?_
        refine r_iald ok 64 d_Md_key_54 (by decide) rfl h.1 ?_
        replace h := h.2
        exact hQ _ _ _ _ _ (ok_code ok) d_Md_key_55 h
      · replace h := h.2.2 c
        refine r_aload_n ok 0 d_Md_key_35 rfl rfl ?_
        refine g_Md_keySize ok d_Md_key_36 ?_
        refine r_iload_n ok 1 d_Md_key_39 rfl rfl ?_
        refine r_iald ok 65 d_Md_key_40 (by decide) rfl h.1 ?_
        replace h := h.2
        refine r_goto ok 55 d_Md_key_41 (by decide) ?_
        exact hQ _ _ _ _ _ (ok_code ok) d_Md_key_55 h
    · replace h := h.2.2 c
      refine r_bipush ok (-5) d_Md_key_28 (by decide) ?_
      exact hQ _ _ _ _ _ (ok_code ok) d_Md_key_30 h
theorem L_Md_key (l : Launch) (G : GE) (A : Nat → Prop) (hD : ∀ σ, va_D A (GW G σ)) {x1 x2 : Int} {s : SS} {Q : Int → SS → Prop} (h : Sp_Md_key x1 x2 s Q) : Met l y_Md_key (Cond.code y_Md_key prog_12_method_18_code 3 (some .int) :: lw_ok) ({ frames := 1, cells := 0, slots := 0, locals := 25 } : Room) (va_Pc [.ref (G.1 10), vI x1, vI x2] (gB G s)) (va_Qi (fun (r : Int32) (s2 : SS) => ∃ x : Int, r = iI x ∧ Q x s2) (fun s2 t => gB G s2 t) A) 0 0 A := by
  refine met_i hD (by decide) ⟨rfl, rfl⟩ (Nat.le_of_ble_eq_true rfl) (lv := [(0, .ref (G.1 10)), (1, vI x1), (2, vI x2)]) rfl (fun F h1 h2 h3 hm ok hQ => ?_)
  subst h1 h2 h3
  have hDF := hD
  exact K_Md_key_e hDF hm ok hQ h
theorem d_Md_haveOneKey_0 : decode prog_12_method_19_code 0 = .ok (.aload_n 0, 1) := by decide +kernel
theorem d_Md_haveOneKey_1 : decode prog_12_method_19_code 1 = .ok (.getfield 28, 3) := by decide +kernel
theorem d_Md_haveOneKey_4 : decode prog_12_method_19_code 4 = .ok (.iload_n 1, 1) := by decide +kernel
theorem d_Md_haveOneKey_5 : decode prog_12_method_19_code 5 = .ok (.iaload, 1) := by decide +kernel
theorem d_Md_haveOneKey_6 : decode prog_12_method_19_code 6 = .ok (.aload_n 0, 1) := by decide +kernel
theorem d_Md_haveOneKey_7 : decode prog_12_method_19_code 7 = .ok (.getfield 28, 3) := by decide +kernel
theorem d_Md_haveOneKey_10 : decode prog_12_method_19_code 10 = .ok (.iload_n 2, 1) := by decide +kernel
theorem d_Md_haveOneKey_11 : decode prog_12_method_19_code 11 = .ok (.iaload, 1) := by decide +kernel
theorem d_Md_haveOneKey_12 : decode prog_12_method_19_code 12 = .ok (.if_icmp .ne 7, 3) := by decide +kernel
theorem d_Md_haveOneKey_15 : decode prog_12_method_19_code 15 = .ok (.iconst 1, 1) := by decide +kernel
theorem d_Md_haveOneKey_16 : decode prog_12_method_19_code 16 = .ok (.goto 4, 3) := by decide +kernel
theorem d_Md_haveOneKey_19 : decode prog_12_method_19_code 19 = .ok (.iconst 0, 1) := by decide +kernel
theorem d_Md_haveOneKey_20 : decode prog_12_method_19_code 20 = .ok (.istore_n 3, 1) := by decide +kernel
theorem d_Md_haveOneKey_21 : decode prog_12_method_19_code 21 = .ok (.iconst 0, 1) := by decide +kernel
theorem d_Md_haveOneKey_22 : decode prog_12_method_19_code 22 = .ok (.istore 4, 2) := by decide +kernel
theorem d_Md_haveOneKey_24 : decode prog_12_method_19_code 24 = .ok (.iload 4, 2) := by decide +kernel
theorem d_Md_haveOneKey_26 : decode prog_12_method_19_code 26 = .ok (.aload_n 0, 1) := by decide +kernel
theorem d_Md_haveOneKey_27 : decode prog_12_method_19_code 27 = .ok (.getfield 28, 3) := by decide +kernel
theorem d_Md_haveOneKey_30 : decode prog_12_method_19_code 30 = .ok (.iload_n 1, 1) := by decide +kernel
theorem d_Md_haveOneKey_31 : decode prog_12_method_19_code 31 = .ok (.iaload, 1) := by decide +kernel
theorem d_Md_haveOneKey_32 : decode prog_12_method_19_code 32 = .ok (.if_icmp .ge 46, 3) := by decide +kernel
theorem d_Md_haveOneKey_35 : decode prog_12_method_19_code 35 = .ok (.iload_n 3, 1) := by decide +kernel
theorem d_Md_haveOneKey_36 : decode prog_12_method_19_code 36 = .ok (.ifCond .eq 42, 3) := by decide +kernel
theorem d_Md_haveOneKey_39 : decode prog_12_method_19_code 39 = .ok (.aload_n 0, 1) := by decide +kernel
theorem d_Md_haveOneKey_40 : decode prog_12_method_19_code 40 = .ok (.getfield 25, 3) := by decide +kernel
theorem d_Md_haveOneKey_43 : decode prog_12_method_19_code 43 = .ok (.bipush 12, 2) := by decide +kernel
theorem d_Md_haveOneKey_45 : decode prog_12_method_19_code 45 = .ok (.iload_n 1, 1) := by decide +kernel
theorem d_Md_haveOneKey_46 : decode prog_12_method_19_code 46 = .ok (.imul, 1) := by decide +kernel
theorem d_Md_haveOneKey_47 : decode prog_12_method_19_code 47 = .ok (.iload 4, 2) := by decide +kernel
theorem d_Md_haveOneKey_49 : decode prog_12_method_19_code 49 = .ok (.iadd, 1) := by decide +kernel
theorem d_Md_haveOneKey_50 : decode prog_12_method_19_code 50 = .ok (.iaload, 1) := by decide +kernel
theorem d_Md_haveOneKey_51 : decode prog_12_method_19_code 51 = .ok (.aload_n 0, 1) := by decide +kernel
theorem d_Md_haveOneKey_52 : decode prog_12_method_19_code 52 = .ok (.getfield 25, 3) := by decide +kernel
theorem d_Md_haveOneKey_55 : decode prog_12_method_19_code 55 = .ok (.bipush 12, 2) := by decide +kernel
theorem d_Md_haveOneKey_57 : decode prog_12_method_19_code 57 = .ok (.iload_n 2, 1) := by decide +kernel
theorem d_Md_haveOneKey_58 : decode prog_12_method_19_code 58 = .ok (.imul, 1) := by decide +kernel
theorem d_Md_haveOneKey_59 : decode prog_12_method_19_code 59 = .ok (.iload 4, 2) := by decide +kernel
theorem d_Md_haveOneKey_61 : decode prog_12_method_19_code 61 = .ok (.iadd, 1) := by decide +kernel
theorem d_Md_haveOneKey_62 : decode prog_12_method_19_code 62 = .ok (.iaload, 1) := by decide +kernel
theorem d_Md_haveOneKey_63 : decode prog_12_method_19_code 63 = .ok (.if_icmp .ne 7, 3) := by decide +kernel
theorem d_Md_haveOneKey_66 : decode prog_12_method_19_code 66 = .ok (.iconst 1, 1) := by decide +kernel
theorem d_Md_haveOneKey_67 : decode prog_12_method_19_code 67 = .ok (.goto 4, 3) := by decide +kernel
theorem d_Md_haveOneKey_70 : decode prog_12_method_19_code 70 = .ok (.iconst 0, 1) := by decide +kernel
theorem d_Md_haveOneKey_71 : decode prog_12_method_19_code 71 = .ok (.istore_n 3, 1) := by decide +kernel
theorem d_Md_haveOneKey_72 : decode prog_12_method_19_code 72 = .ok (.iinc 4 1, 3) := by decide +kernel
theorem d_Md_haveOneKey_75 : decode prog_12_method_19_code 75 = .ok (.goto (-51), 3) := by decide +kernel
theorem d_Md_haveOneKey_78 : decode prog_12_method_19_code 78 = .ok (.iload_n 3, 1) := by decide +kernel
theorem d_Md_haveOneKey_79 : decode prog_12_method_19_code 79 = .ok (.ireturn, 1) := by decide +kernel
set_option maxHeartbeats 4000000 in
set_option maxRecDepth 100000 in
theorem K_Md_haveOneKey_24 {F : FT} (hD : ∀ σ, va_D F.2.2.1 (GW F.2.1 σ)) (hm : F.2.2.2.2.2.2.2.2.2.2.2.2.2.2.1 = 5) (ok : OkF F prog_12_method_19_code "LastSeenModel" ({ frames := 0, cells := 0, slots := 0, locals := 0 } : Room)) {Q : Int → SS → Prop} (hQ : RetZ F Q) {x1 x2 x3 x4 : Int} {s : SS} (h : B_Md_haveOneKey_24 Q (fun x1 x2 x3 x4 s => AtS F 24 [(0, .ref (F.2.1.1 10)), (1, vI x1), (2, vI x2), (3, vI x3), (4, vI x4)] [] s) x1 x2 x3 x4 s) : AtS F 24 [(0, .ref (F.2.1.1 10)), (1, vI x1), (2, vI x2), (3, vI x3), (4, vI x4)] [] s := by
  unfold B_Md_haveOneKey_24 at h
  refine r_iload ok 4 d_Md_haveOneKey_24 rfl ?_
  refine r_aload_n ok 0 d_Md_haveOneKey_26 rfl rfl ?_
  refine g_Md_keySize ok d_Md_haveOneKey_27 ?_
  refine r_iload_n ok 1 d_Md_haveOneKey_30 rfl rfl ?_
  refine r_iald ok 65 d_Md_haveOneKey_31 (by decide) rfl h.1 ?_
  replace h := h.2
  refine r_icmp_ge ok 78 d_Md_haveOneKey_32 (by decide) h.1 h.2.1 (fun c => ?_) (fun c => ?_)
  · replace h := h.2.2.1 c
    refine r_iload_n ok 3 d_Md_haveOneKey_78 rfl rfl ?_
    exact hQ _ _ _ _ _ (ok_code ok) d_Md_haveOneKey_79 h.1 h.2
  · replace h := h.2.2.2 c
    refine r_iload_n ok 3 d_Md_haveOneKey_35 rfl rfl ?_
    refine r_if_eq ok 78 d_Md_haveOneKey_36 (by decide) h.1 (fun c => ?_) (fun c => ?_)
    · replace h := h.2.1 c
      refine r_iload_n ok 3 d_Md_haveOneKey_78 rfl rfl ?_
      exact hQ _ _ _ _ _ (ok_code ok) d_Md_haveOneKey_79 h.1 h.2
    · replace h := h.2.2 c
      refine r_aload_n ok 0 d_Md_haveOneKey_39 rfl rfl ?_
      refine g_Md_key ok d_Md_haveOneKey_40 ?_
      refine r_bipush ok 12 d_Md_haveOneKey_43 (by decide) ?_
      refine r_iload_n ok 1 d_Md_haveOneKey_45 rfl rfl ?_
      refine r_imul ok d_Md_haveOneKey_46 ?_
      refine r_iload ok 4 d_Md_haveOneKey_47 rfl ?_
      refine r_iadd ok d_Md_haveOneKey_49 ?_
      refine r_iald ok 64 d_Md_haveOneKey_50 (by decide) rfl h.1 ?_
      replace h := h.2
      refine r_aload_n ok 0 d_Md_haveOneKey_51 rfl rfl ?_
      refine g_Md_key ok d_Md_haveOneKey_52 ?_
      refine r_bipush ok 12 d_Md_haveOneKey_55 (by decide) ?_
      refine r_iload_n ok 2 d_Md_haveOneKey_57 rfl rfl ?_
      refine r_imul ok d_Md_haveOneKey_58 ?_
      refine r_iload ok 4 d_Md_haveOneKey_59 rfl ?_
      refine r_iadd ok d_Md_haveOneKey_61 ?_
      refine r_iald ok 64 d_Md_haveOneKey_62 (by decide) rfl h.1 ?_
      replace h := h.2
      refine r_icmp_ne ok 70 d_Md_haveOneKey_63 (by decide) h.1 h.2.1 (fun c => ?_) (fun c => ?_)
      · replace h := h.2.2.1 c
        refine r_iconst ok 0 d_Md_haveOneKey_70 rfl ?_
        refine r_istore_n ok [(3, vI 0), (0, .ref (F.2.1.1 10)), (1, vI x1), (2, vI x2), (4, vI x4)] d_Md_haveOneKey_71 rfl hm (by decide) rfl ?_
        refine r_iinc ok 4 (x4 + 1) [(4, vI (x4 + 1)), (3, vI 0), (0, .ref (F.2.1.1 10)), (1, vI x1), (2, vI x2)] d_Md_haveOneKey_72 rfl rfl hm (by decide) rfl ?_
        refine r_goto ok 24 d_Md_haveOneKey_75 (by decide) ?_
        exact r_sub [2, 3, 4, 1, 0] rfl h
      · replace h := h.2.2.2 c
        refine r_iconst ok 1 d_Md_haveOneKey_66 rfl ?_
        refine r_goto ok 71 d_Md_haveOneKey_67 (by decide) ?_
        refine r_istore_n ok [(3, vI 1), (0, .ref (F.2.1.1 10)), (1, vI x1), (2, vI x2), (4, vI x4)] d_Md_haveOneKey_71 rfl hm (by decide) rfl ?_
        refine r_iinc ok 4 (x4 + 1) [(4, vI (x4 + 1)), (3, vI 1), (0, .ref (F.2.1.1 10)), (1, vI x1), (2, vI x2)] d_Md_haveOneKey_72 rfl rfl hm (by decide) rfl ?_
        refine r_goto ok 24 d_Md_haveOneKey_75 (by decide) ?_
        exact r_sub [2, 3, 4, 1, 0] rfl h
set_option maxHeartbeats 4000000 in
set_option maxRecDepth 100000 in
theorem K_Md_haveOneKey_e {F : FT} (hD : ∀ σ, va_D F.2.2.1 (GW F.2.1 σ)) (hm : F.2.2.2.2.2.2.2.2.2.2.2.2.2.2.1 = 5) (ok : OkF F prog_12_method_19_code "LastSeenModel" ({ frames := 0, cells := 0, slots := 0, locals := 0 } : Room)) {Q : Int → SS → Prop} (hQ : RetZ F Q) {x1 x2 : Int} {s : SS} (h : B_Md_haveOneKey_e Q (fun x1 x2 x3 x4 s => AtS F 24 [(0, .ref (F.2.1.1 10)), (1, vI x1), (2, vI x2), (3, vI x3), (4, vI x4)] [] s) x1 x2 s) : AtS F 0 [(0, .ref (F.2.1.1 10)), (1, vI x1), (2, vI x2)] [] s := by
  unfold B_Md_haveOneKey_e at h
  refine r_aload_n ok 0 d_Md_haveOneKey_0 rfl rfl ?_
  refine g_Md_keySize ok d_Md_haveOneKey_1 ?_
  refine r_iload_n ok 1 d_Md_haveOneKey_4 rfl rfl ?_
  refine r_iald ok 65 d_Md_haveOneKey_5 (by decide) rfl h.1 ?_
  replace h := h.2
  refine r_aload_n ok 0 d_Md_haveOneKey_6 rfl rfl ?_
  refine g_Md_keySize ok d_Md_haveOneKey_7 ?_
  refine r_iload_n ok 2 d_Md_haveOneKey_10 rfl rfl ?_
  refine r_iald ok 65 d_Md_haveOneKey_11 (by decide) rfl h.1 ?_
  replace h := h.2
  refine r_icmp_ne ok 19 d_Md_haveOneKey_12 (by decide) h.1 h.2.1 (fun c => ?_) (fun c => ?_)
  · replace h := h.2.2.1 c
    refine r_iconst ok 0 d_Md_haveOneKey_19 rfl ?_
    refine r_istore_n ok [(3, vI 0), (0, .ref (F.2.1.1 10)), (1, vI x1), (2, vI x2)] d_Md_haveOneKey_20 rfl hm (by decide) rfl ?_
    refine r_iconst ok 0 d_Md_haveOneKey_21 rfl ?_
    refine r_istore ok [(4, vI 0), (3, vI 0), (0, .ref (F.2.1.1 10)), (1, vI x1), (2, vI x2)] d_Md_haveOneKey_22 hm (by decide) rfl ?_
    exact r_sub [2, 3, 4, 1, 0] rfl h
  · replace h := h.2.2.2 c
    refine r_iconst ok 1 d_Md_haveOneKey_15 rfl ?_
    refine r_goto ok 20 d_Md_haveOneKey_16 (by decide) ?_
    refine r_istore_n ok [(3, vI 1), (0, .ref (F.2.1.1 10)), (1, vI x1), (2, vI x2)] d_Md_haveOneKey_20 rfl hm (by decide) rfl ?_
    refine r_iconst ok 0 d_Md_haveOneKey_21 rfl ?_
    refine r_istore ok [(4, vI 0), (3, vI 1), (0, .ref (F.2.1.1 10)), (1, vI x1), (2, vI x2)] d_Md_haveOneKey_22 hm (by decide) rfl ?_
    exact r_sub [2, 3, 4, 1, 0] rfl h
theorem L_Md_haveOneKey (l : Launch) (G : GE) (A : Nat → Prop) (hD : ∀ σ, va_D A (GW G σ)) {x1 x2 : Int} {s : SS} {Q : Int → SS → Prop} (h : Sp_Md_haveOneKey x1 x2 s Q) : Met l y_Md_haveOneKey (Cond.code y_Md_haveOneKey prog_12_method_19_code 5 (some .boolean) :: lw_ok) ({ frames := 0, cells := 0, slots := 0, locals := 0 } : Room) (va_Pc [.ref (G.1 10), vI x1, vI x2] (gB G s)) (va_Qi (fun (r : Int32) (s2 : SS) => ∃ x : Int, r = iI x ∧ Q x s2) (fun s2 t => gB G s2 t) A) 0 0 A := by
  refine met_z hD (by decide) ⟨rfl, rfl⟩ (Nat.le_of_ble_eq_true rfl) (lv := [(0, .ref (G.1 10)), (1, vI x1), (2, vI x2)]) rfl (fun F h1 h2 h3 hm ok hQ => ?_)
  subst h1 h2 h3
  have hDF := hD
  exact K_Md_haveOneKey_e hDF hm ok hQ (h _ (fun _ _ _ _ _ hb => K_Md_haveOneKey_24 hDF hm ok hQ hb))
theorem d_Md_relates_0 : decode prog_12_method_20_code 0 = .ok (.aload_n 0, 1) := by decide +kernel
theorem d_Md_relates_1 : decode prog_12_method_20_code 1 = .ok (.iload_n 2, 1) := by decide +kernel
theorem d_Md_relates_2 : decode prog_12_method_20_code 2 = .ok (.invokevirtual 237, 3) := by decide +kernel
theorem d_Md_relates_5 : decode prog_12_method_20_code 5 = .ok (.ifCond .eq 11, 3) := by decide +kernel
theorem d_Md_relates_8 : decode prog_12_method_20_code 8 = .ok (.aload_n 0, 1) := by decide +kernel
theorem d_Md_relates_9 : decode prog_12_method_20_code 9 = .ok (.iload_n 3, 1) := by decide +kernel
theorem d_Md_relates_10 : decode prog_12_method_20_code 10 = .ok (.invokevirtual 237, 3) := by decide +kernel
theorem d_Md_relates_13 : decode prog_12_method_20_code 13 = .ok (.ifCond .ne 5, 3) := by decide +kernel
theorem d_Md_relates_16 : decode prog_12_method_20_code 16 = .ok (.iconst (-1), 1) := by decide +kernel
theorem d_Md_relates_17 : decode prog_12_method_20_code 17 = .ok (.ireturn, 1) := by decide +kernel
theorem d_Md_relates_18 : decode prog_12_method_20_code 18 = .ok (.iload_n 2, 1) := by decide +kernel
theorem d_Md_relates_19 : decode prog_12_method_20_code 19 = .ok (.iload_n 3, 1) := by decide +kernel
theorem d_Md_relates_20 : decode prog_12_method_20_code 20 = .ok (.if_icmp .ne 6, 3) := by decide +kernel
theorem d_Md_relates_23 : decode prog_12_method_20_code 23 = .ok (.bipush (-2), 2) := by decide +kernel
theorem d_Md_relates_25 : decode prog_12_method_20_code 25 = .ok (.ireturn, 1) := by decide +kernel
theorem d_Md_relates_26 : decode prog_12_method_20_code 26 = .ok (.aload_n 0, 1) := by decide +kernel
theorem d_Md_relates_27 : decode prog_12_method_20_code 27 = .ok (.getfield 198, 3) := by decide +kernel
theorem d_Md_relates_30 : decode prog_12_method_20_code 30 = .ok (.sipush 200, 3) := by decide +kernel
theorem d_Md_relates_33 : decode prog_12_method_20_code 33 = .ok (.if_icmp .ne 6, 3) := by decide +kernel
theorem d_Md_relates_36 : decode prog_12_method_20_code 36 = .ok (.bipush (-4), 2) := by decide +kernel
theorem d_Md_relates_38 : decode prog_12_method_20_code 38 = .ok (.ireturn, 1) := by decide +kernel
theorem d_Md_relates_39 : decode prog_12_method_20_code 39 = .ok (.aload_n 0, 1) := by decide +kernel
theorem d_Md_relates_40 : decode prog_12_method_20_code 40 = .ok (.iload_n 1, 1) := by decide +kernel
theorem d_Md_relates_41 : decode prog_12_method_20_code 41 = .ok (.iload_n 2, 1) := by decide +kernel
theorem d_Md_relates_42 : decode prog_12_method_20_code 42 = .ok (.iload_n 3, 1) := by decide +kernel
theorem d_Md_relates_43 : decode prog_12_method_20_code 43 = .ok (.invokevirtual 233, 3) := by decide +kernel
theorem d_Md_relates_46 : decode prog_12_method_20_code 46 = .ok (.aload_n 0, 1) := by decide +kernel
theorem d_Md_relates_47 : decode prog_12_method_20_code 47 = .ok (.getfield 198, 3) := by decide +kernel
theorem d_Md_relates_50 : decode prog_12_method_20_code 50 = .ok (.ireturn, 1) := by decide +kernel
set_option maxHeartbeats 4000000 in
set_option maxRecDepth 100000 in
theorem K_Md_relates_e {F : FT} (hD : ∀ σ, va_D F.2.2.1 (GW F.2.1 σ)) (hm : F.2.2.2.2.2.2.2.2.2.2.2.2.2.2.1 = 4) (ok : OkF F prog_12_method_20_code "LastSeenModel" ({ frames := 1, cells := 0, slots := 0, locals := 23 } : Room)) {Q : Int → SS → Prop} (hQ : RetI F Q) {x1 x2 x3 : Int} {s : SS} (h : Sp_Md_relates x1 x2 x3 s Q) : AtS F 0 [(0, .ref (F.2.1.1 10)), (1, vI x1), (2, vI x2), (3, vI x3)] [] s := by
  unfold Sp_Md_relates at h
  refine r_aload_n ok 0 d_Md_relates_0 rfl rfl ?_
  refine r_iload_n ok 2 d_Md_relates_1 rfl rfl ?_
  refine r_callVi (As := [vI x2]) (rest := []) ok 10 rfl rfl rfl wl_Md_237 wi_y_Md_isName ws_y_Md_isName wn_Md wc_y_Md_isName (by decide) (by decide) hh_Md_isName (Nat.le_of_ble_eq_true rfl) rfl d_Md_relates_2 (L_Md_isName F.1 F.2.1 F.2.2.1 hD h) (fun r2 s1 h => ?_)
  refine r_if_eq ok 16 d_Md_relates_5 (by decide) h.1 (fun c => ?_) (fun c => ?_)
  · replace h := h.2.1 c
    refine r_iconst ok (-1) d_Md_relates_16 rfl ?_
    exact hQ _ _ _ _ _ (ok_code ok) d_Md_relates_17 h
  · replace h := h.2.2 c
    refine r_aload_n ok 0 d_Md_relates_8 rfl rfl ?_
    refine r_iload_n ok 3 d_Md_relates_9 rfl rfl ?_
    refine r_callVi (As := [vI x3]) (rest := []) ok 10 rfl rfl rfl wl_Md_237 wi_y_Md_isName ws_y_Md_isName wn_Md wc_y_Md_isName (by decide) (by decide) hh_Md_isName (Nat.le_of_ble_eq_true rfl) rfl d_Md_relates_10 (L_Md_isName F.1 F.2.1 F.2.2.1 hD h) (fun r4 s3 h => ?_)
    refine r_if_ne ok 18 d_Md_relates_13 (by decide) h.1 (fun c => ?_) (fun c => ?_)
    · replace h := h.2.1 c
      refine r_iload_n ok 2 d_Md_relates_18 rfl rfl ?_
      refine r_iload_n ok 3 d_Md_relates_19 rfl rfl ?_
      refine r_icmp_ne ok 26 d_Md_relates_20 (by decide) h.1 h.2.1 (fun c => ?_) (fun c => ?_)
      · replace h := h.2.2.1 c
        refine r_aload_n ok 0 d_Md_relates_26 rfl rfl ?_
        refine g_Md_entries ok d_Md_relates_27 ?_
        refine r_sipush ok 200 d_Md_relates_30 (by decide) ?_
        refine r_icmp_ne ok 39 d_Md_relates_33 (by decide) h.1 (by decide) (fun c => ?_) (fun c => ?_)
        · replace h := h.2.1 c
          refine r_aload_n ok 0 d_Md_relates_39 rfl rfl ?_
          refine r_iload_n ok 1 d_Md_relates_40 rfl rfl ?_
          refine r_iload_n ok 2 d_Md_relates_41 rfl rfl ?_
          refine r_iload_n ok 3 d_Md_relates_42 rfl rfl ?_
          refine r_callVv (As := [vI x1, vI x2, vI x3]) (rest := []) ok 10 rfl rfl rfl wl_Md_233 wi_y_Md_enters ws_y_Md_enters wn_Md wc_y_Md_enters (by decide) (by decide) hh_Md_enters (Nat.le_of_ble_eq_true rfl) rfl d_Md_relates_43 (L_Md_enters F.1 F.2.1 F.2.2.1 hD h) (fun s5 h => ?_)
          refine r_aload_n ok 0 d_Md_relates_46 rfl rfl ?_
          refine g_Md_entries ok d_Md_relates_47 ?_
          exact hQ _ _ _ _ _ (ok_code ok) d_Md_relates_50 h
        · replace h := h.2.2 c
          refine r_bipush ok (-4) d_Md_relates_36 (by decide) ?_
          exact hQ _ _ _ _ _ (ok_code ok) d_Md_relates_38 h
      · replace h := h.2.2.2 c
        refine r_bipush ok (-2) d_Md_relates_23 (by decide) ?_
        exact hQ _ _ _ _ _ (ok_code ok) d_Md_relates_25 h
    · replace h := h.2.2 c
      refine r_iconst ok (-1) d_Md_relates_16 rfl ?_
      exact hQ _ _ _ _ _ (ok_code ok) d_Md_relates_17 h
theorem L_Md_relates (l : Launch) (G : GE) (A : Nat → Prop) (hD : ∀ σ, va_D A (GW G σ)) {x1 x2 x3 : Int} {s : SS} {Q : Int → SS → Prop} (h : Sp_Md_relates x1 x2 x3 s Q) : Met l y_Md_relates (Cond.code y_Md_relates prog_12_method_20_code 4 (some .int) :: lw_ok) ({ frames := 1, cells := 0, slots := 0, locals := 23 } : Room) (va_Pc [.ref (G.1 10), vI x1, vI x2, vI x3] (gB G s)) (va_Qi (fun (r : Int32) (s2 : SS) => ∃ x : Int, r = iI x ∧ Q x s2) (fun s2 t => gB G s2 t) A) 0 0 A := by
  refine met_i hD (by decide) ⟨rfl, rfl⟩ (Nat.le_of_ble_eq_true rfl) (lv := [(0, .ref (G.1 10)), (1, vI x1), (2, vI x2), (3, vI x3)]) rfl (fun F h1 h2 h3 hm ok hQ => ?_)
  subst h1 h2 h3
  have hDF := hD
  exact K_Md_relates_e hDF hm ok hQ h
theorem d_Md_join_0 : decode prog_12_method_21_code 0 = .ok (.aload_n 0, 1) := by decide +kernel
theorem d_Md_join_1 : decode prog_12_method_21_code 1 = .ok (.iconst 2, 1) := by decide +kernel
theorem d_Md_join_2 : decode prog_12_method_21_code 2 = .ok (.iload_n 1, 1) := by decide +kernel
theorem d_Md_join_3 : decode prog_12_method_21_code 3 = .ok (.iload_n 2, 1) := by decide +kernel
theorem d_Md_join_4 : decode prog_12_method_21_code 4 = .ok (.invokevirtual 240, 3) := by decide +kernel
theorem d_Md_join_7 : decode prog_12_method_21_code 7 = .ok (.ireturn, 1) := by decide +kernel
set_option maxHeartbeats 4000000 in
set_option maxRecDepth 100000 in
theorem K_Md_join_e {F : FT} (hD : ∀ σ, va_D F.2.2.1 (GW F.2.1 σ)) (hm : F.2.2.2.2.2.2.2.2.2.2.2.2.2.2.1 = 3) (ok : OkF F prog_12_method_21_code "LastSeenModel" ({ frames := 2, cells := 0, slots := 0, locals := 46 } : Room)) {Q : Int → SS → Prop} (hQ : RetI F Q) {x1 x2 : Int} {s : SS} (h : Sp_Md_join x1 x2 s Q) : AtS F 0 [(0, .ref (F.2.1.1 10)), (1, vI x1), (2, vI x2)] [] s := by
  unfold Sp_Md_join at h
  refine r_aload_n ok 0 d_Md_join_0 rfl rfl ?_
  refine r_iconst ok 2 d_Md_join_1 rfl ?_
  refine r_iload_n ok 1 d_Md_join_2 rfl rfl ?_
  refine r_iload_n ok 2 d_Md_join_3 rfl rfl ?_
  refine r_callVi (As := [vI 2, vI x1, vI x2]) (rest := []) ok 10 rfl rfl rfl wl_Md_240 wi_y_Md_relates ws_y_Md_relates wn_Md wc_y_Md_relates (by decide) (by decide) hh_Md_relates (Nat.le_of_ble_eq_true rfl) rfl d_Md_join_4 (L_Md_relates F.1 F.2.1 F.2.2.1 hD h) (fun r2 s1 h => ?_)
  exact hQ _ _ _ _ _ (ok_code ok) d_Md_join_7 h
theorem L_Md_join (l : Launch) (G : GE) (A : Nat → Prop) (hD : ∀ σ, va_D A (GW G σ)) {x1 x2 : Int} {s : SS} {Q : Int → SS → Prop} (h : Sp_Md_join x1 x2 s Q) : Met l y_Md_join (Cond.code y_Md_join prog_12_method_21_code 3 (some .int) :: lw_ok) ({ frames := 2, cells := 0, slots := 0, locals := 46 } : Room) (va_Pc [.ref (G.1 10), vI x1, vI x2] (gB G s)) (va_Qi (fun (r : Int32) (s2 : SS) => ∃ x : Int, r = iI x ∧ Q x s2) (fun s2 t => gB G s2 t) A) 0 0 A := by
  refine met_i hD (by decide) ⟨rfl, rfl⟩ (Nat.le_of_ble_eq_true rfl) (lv := [(0, .ref (G.1 10)), (1, vI x1), (2, vI x2)]) rfl (fun F h1 h2 h3 hm ok hQ => ?_)
  subst h1 h2 h3
  have hDF := hD
  exact K_Md_join_e hDF hm ok hQ h
theorem d_Md_part_0 : decode prog_12_method_22_code 0 = .ok (.aload_n 0, 1) := by decide +kernel
theorem d_Md_part_1 : decode prog_12_method_22_code 1 = .ok (.iconst 3, 1) := by decide +kernel
theorem d_Md_part_2 : decode prog_12_method_22_code 2 = .ok (.iload_n 1, 1) := by decide +kernel
theorem d_Md_part_3 : decode prog_12_method_22_code 3 = .ok (.iload_n 2, 1) := by decide +kernel
theorem d_Md_part_4 : decode prog_12_method_22_code 4 = .ok (.invokevirtual 240, 3) := by decide +kernel
theorem d_Md_part_7 : decode prog_12_method_22_code 7 = .ok (.ireturn, 1) := by decide +kernel
set_option maxHeartbeats 4000000 in
set_option maxRecDepth 100000 in
theorem K_Md_part_e {F : FT} (hD : ∀ σ, va_D F.2.2.1 (GW F.2.1 σ)) (hm : F.2.2.2.2.2.2.2.2.2.2.2.2.2.2.1 = 3) (ok : OkF F prog_12_method_22_code "LastSeenModel" ({ frames := 2, cells := 0, slots := 0, locals := 46 } : Room)) {Q : Int → SS → Prop} (hQ : RetI F Q) {x1 x2 : Int} {s : SS} (h : Sp_Md_part x1 x2 s Q) : AtS F 0 [(0, .ref (F.2.1.1 10)), (1, vI x1), (2, vI x2)] [] s := by
  unfold Sp_Md_part at h
  refine r_aload_n ok 0 d_Md_part_0 rfl rfl ?_
  refine r_iconst ok 3 d_Md_part_1 rfl ?_
  refine r_iload_n ok 1 d_Md_part_2 rfl rfl ?_
  refine r_iload_n ok 2 d_Md_part_3 rfl rfl ?_
  refine r_callVi (As := [vI 3, vI x1, vI x2]) (rest := []) ok 10 rfl rfl rfl wl_Md_240 wi_y_Md_relates ws_y_Md_relates wn_Md wc_y_Md_relates (by decide) (by decide) hh_Md_relates (Nat.le_of_ble_eq_true rfl) rfl d_Md_part_4 (L_Md_relates F.1 F.2.1 F.2.2.1 hD h) (fun r2 s1 h => ?_)
  exact hQ _ _ _ _ _ (ok_code ok) d_Md_part_7 h
theorem L_Md_part (l : Launch) (G : GE) (A : Nat → Prop) (hD : ∀ σ, va_D A (GW G σ)) {x1 x2 : Int} {s : SS} {Q : Int → SS → Prop} (h : Sp_Md_part x1 x2 s Q) : Met l y_Md_part (Cond.code y_Md_part prog_12_method_22_code 3 (some .int) :: lw_ok) ({ frames := 2, cells := 0, slots := 0, locals := 46 } : Room) (va_Pc [.ref (G.1 10), vI x1, vI x2] (gB G s)) (va_Qi (fun (r : Int32) (s2 : SS) => ∃ x : Int, r = iI x ∧ Q x s2) (fun s2 t => gB G s2 t) A) 0 0 A := by
  refine met_i hD (by decide) ⟨rfl, rfl⟩ (Nat.le_of_ble_eq_true rfl) (lv := [(0, .ref (G.1 10)), (1, vI x1), (2, vI x2)]) rfl (fun F h1 h2 h3 hm ok hQ => ?_)
  subst h1 h2 h3
  have hDF := hD
  exact K_Md_part_e hDF hm ok hQ h
theorem d_Md_findPersons_0 : decode prog_12_method_24_code 0 = .ok (.iconst 0, 1) := by decide +kernel
theorem d_Md_findPersons_1 : decode prog_12_method_24_code 1 = .ok (.istore_n 1, 1) := by decide +kernel
theorem d_Md_findPersons_2 : decode prog_12_method_24_code 2 = .ok (.iload_n 1, 1) := by decide +kernel
theorem d_Md_findPersons_3 : decode prog_12_method_24_code 3 = .ok (.aload_n 0, 1) := by decide +kernel
theorem d_Md_findPersons_4 : decode prog_12_method_24_code 4 = .ok (.getfield 244, 3) := by decide +kernel
theorem d_Md_findPersons_7 : decode prog_12_method_24_code 7 = .ok (.if_icmp .ge 16, 3) := by decide +kernel
theorem d_Md_findPersons_10 : decode prog_12_method_24_code 10 = .ok (.aload_n 0, 1) := by decide +kernel
theorem d_Md_findPersons_11 : decode prog_12_method_24_code 11 = .ok (.getfield 50, 3) := by decide +kernel
theorem d_Md_findPersons_14 : decode prog_12_method_24_code 14 = .ok (.iload_n 1, 1) := by decide +kernel
theorem d_Md_findPersons_15 : decode prog_12_method_24_code 15 = .ok (.iload_n 1, 1) := by decide +kernel
theorem d_Md_findPersons_16 : decode prog_12_method_24_code 16 = .ok (.iastore, 1) := by decide +kernel
theorem d_Md_findPersons_17 : decode prog_12_method_24_code 17 = .ok (.iinc 1 1, 3) := by decide +kernel
theorem d_Md_findPersons_20 : decode prog_12_method_24_code 20 = .ok (.goto (-18), 3) := by decide +kernel
theorem d_Md_findPersons_23 : decode prog_12_method_24_code 23 = .ok (.iconst 1, 1) := by decide +kernel
theorem d_Md_findPersons_24 : decode prog_12_method_24_code 24 = .ok (.istore_n 1, 1) := by decide +kernel
theorem d_Md_findPersons_25 : decode prog_12_method_24_code 25 = .ok (.iload_n 1, 1) := by decide +kernel
theorem d_Md_findPersons_26 : decode prog_12_method_24_code 26 = .ok (.ifCond .eq 86, 3) := by decide +kernel
theorem d_Md_findPersons_29 : decode prog_12_method_24_code 29 = .ok (.iconst 0, 1) := by decide +kernel
theorem d_Md_findPersons_30 : decode prog_12_method_24_code 30 = .ok (.istore_n 1, 1) := by decide +kernel
theorem d_Md_findPersons_31 : decode prog_12_method_24_code 31 = .ok (.iconst 0, 1) := by decide +kernel
theorem d_Md_findPersons_32 : decode prog_12_method_24_code 32 = .ok (.istore_n 2, 1) := by decide +kernel
theorem d_Md_findPersons_33 : decode prog_12_method_24_code 33 = .ok (.iload_n 2, 1) := by decide +kernel
theorem d_Md_findPersons_34 : decode prog_12_method_24_code 34 = .ok (.aload_n 0, 1) := by decide +kernel
theorem d_Md_findPersons_35 : decode prog_12_method_24_code 35 = .ok (.getfield 244, 3) := by decide +kernel
theorem d_Md_findPersons_38 : decode prog_12_method_24_code 38 = .ok (.if_icmp .ge 71, 3) := by decide +kernel
theorem d_Md_findPersons_41 : decode prog_12_method_24_code 41 = .ok (.iconst 0, 1) := by decide +kernel
theorem d_Md_findPersons_42 : decode prog_12_method_24_code 42 = .ok (.istore_n 3, 1) := by decide +kernel
theorem d_Md_findPersons_43 : decode prog_12_method_24_code 43 = .ok (.iload_n 3, 1) := by decide +kernel
theorem d_Md_findPersons_44 : decode prog_12_method_24_code 44 = .ok (.aload_n 0, 1) := by decide +kernel
theorem d_Md_findPersons_45 : decode prog_12_method_24_code 45 = .ok (.getfield 244, 3) := by decide +kernel
theorem d_Md_findPersons_48 : decode prog_12_method_24_code 48 = .ok (.if_icmp .ge 55, 3) := by decide +kernel
theorem d_Md_findPersons_51 : decode prog_12_method_24_code 51 = .ok (.aload_n 0, 1) := by decide +kernel
theorem d_Md_findPersons_52 : decode prog_12_method_24_code 52 = .ok (.getfield 34, 3) := by decide +kernel
theorem d_Md_findPersons_55 : decode prog_12_method_24_code 55 = .ok (.bipush 20, 2) := by decide +kernel
theorem d_Md_findPersons_57 : decode prog_12_method_24_code 57 = .ok (.iload_n 2, 1) := by decide +kernel
theorem d_Md_findPersons_58 : decode prog_12_method_24_code 58 = .ok (.imul, 1) := by decide +kernel
theorem d_Md_findPersons_59 : decode prog_12_method_24_code 59 = .ok (.iload_n 3, 1) := by decide +kernel
theorem d_Md_findPersons_60 : decode prog_12_method_24_code 60 = .ok (.iadd, 1) := by decide +kernel
theorem d_Md_findPersons_61 : decode prog_12_method_24_code 61 = .ok (.baload, 1) := by decide +kernel
theorem d_Md_findPersons_62 : decode prog_12_method_24_code 62 = .ok (.ifCond .eq 35, 3) := by decide +kernel
theorem d_Md_findPersons_65 : decode prog_12_method_24_code 65 = .ok (.aload_n 0, 1) := by decide +kernel
theorem d_Md_findPersons_66 : decode prog_12_method_24_code 66 = .ok (.getfield 50, 3) := by decide +kernel
theorem d_Md_findPersons_69 : decode prog_12_method_24_code 69 = .ok (.iload_n 3, 1) := by decide +kernel
theorem d_Md_findPersons_70 : decode prog_12_method_24_code 70 = .ok (.iaload, 1) := by decide +kernel
theorem d_Md_findPersons_71 : decode prog_12_method_24_code 71 = .ok (.aload_n 0, 1) := by decide +kernel
theorem d_Md_findPersons_72 : decode prog_12_method_24_code 72 = .ok (.getfield 50, 3) := by decide +kernel
theorem d_Md_findPersons_75 : decode prog_12_method_24_code 75 = .ok (.iload_n 2, 1) := by decide +kernel
theorem d_Md_findPersons_76 : decode prog_12_method_24_code 76 = .ok (.iaload, 1) := by decide +kernel
theorem d_Md_findPersons_77 : decode prog_12_method_24_code 77 = .ok (.if_icmp .gt 6, 3) := by decide +kernel
theorem d_Md_findPersons_80 : decode prog_12_method_24_code 80 = .ok (.goto 17, 3) := by decide +kernel
theorem d_Md_findPersons_83 : decode prog_12_method_24_code 83 = .ok (.aload_n 0, 1) := by decide +kernel
theorem d_Md_findPersons_84 : decode prog_12_method_24_code 84 = .ok (.getfield 50, 3) := by decide +kernel
theorem d_Md_findPersons_87 : decode prog_12_method_24_code 87 = .ok (.iload_n 3, 1) := by decide +kernel
theorem d_Md_findPersons_88 : decode prog_12_method_24_code 88 = .ok (.aload_n 0, 1) := by decide +kernel
theorem d_Md_findPersons_89 : decode prog_12_method_24_code 89 = .ok (.getfield 50, 3) := by decide +kernel
theorem d_Md_findPersons_92 : decode prog_12_method_24_code 92 = .ok (.iload_n 2, 1) := by decide +kernel
theorem d_Md_findPersons_93 : decode prog_12_method_24_code 93 = .ok (.iaload, 1) := by decide +kernel
theorem d_Md_findPersons_94 : decode prog_12_method_24_code 94 = .ok (.iastore, 1) := by decide +kernel
theorem d_Md_findPersons_95 : decode prog_12_method_24_code 95 = .ok (.iconst 1, 1) := by decide +kernel
theorem d_Md_findPersons_96 : decode prog_12_method_24_code 96 = .ok (.istore_n 1, 1) := by decide +kernel
theorem d_Md_findPersons_97 : decode prog_12_method_24_code 97 = .ok (.iinc 3 1, 3) := by decide +kernel
theorem d_Md_findPersons_100 : decode prog_12_method_24_code 100 = .ok (.goto (-57), 3) := by decide +kernel
theorem d_Md_findPersons_103 : decode prog_12_method_24_code 103 = .ok (.iinc 2 1, 3) := by decide +kernel
theorem d_Md_findPersons_106 : decode prog_12_method_24_code 106 = .ok (.goto (-73), 3) := by decide +kernel
theorem d_Md_findPersons_109 : decode prog_12_method_24_code 109 = .ok (.goto (-84), 3) := by decide +kernel
theorem d_Md_findPersons_112 : decode prog_12_method_24_code 112 = .ok (.return_, 1) := by decide +kernel
set_option maxHeartbeats 4000000 in
set_option maxRecDepth 100000 in
theorem K_Md_findPersons_2 {F : FT} (hD : ∀ σ, va_D F.2.2.1 (GW F.2.1 σ)) (hm : F.2.2.2.2.2.2.2.2.2.2.2.2.2.2.1 = 4) (ok : OkF F prog_12_method_24_code "LastSeenModel" ({ frames := 0, cells := 0, slots := 0, locals := 0 } : Room)) {Q : SS → Prop} (hQ : RetV F Q) {x1 : Int} {s : SS} (h : B_Md_findPersons_2 Q (fun x1 s => AtS F 2 [(0, .ref (F.2.1.1 10)), (1, vI x1)] [] s) (fun x1 s => AtS F 25 [(0, .ref (F.2.1.1 10)), (1, vI x1)] [] s) (fun x1 x2 s => AtS F 33 [(0, .ref (F.2.1.1 10)), (1, vI x1), (2, vI x2)] [] s) (fun x1 x2 x3 s => AtS F 43 [(0, .ref (F.2.1.1 10)), (1, vI x1), (2, vI x2), (3, vI x3)] [] s) x1 s) : AtS F 2 [(0, .ref (F.2.1.1 10)), (1, vI x1)] [] s := by
  unfold B_Md_findPersons_2 at h
  refine r_iload_n ok 1 d_Md_findPersons_2 rfl rfl ?_
  refine r_aload_n ok 0 d_Md_findPersons_3 rfl rfl ?_
  refine g_Md_seenNames ok d_Md_findPersons_4 ?_
  refine r_icmp_ge ok 23 d_Md_findPersons_7 (by decide) h.1 h.2.1 (fun c => ?_) (fun c => ?_)
  · replace h := h.2.2.1 c
    refine r_iconst ok 1 d_Md_findPersons_23 rfl ?_
    refine r_istore_n ok [(1, vI 1), (0, .ref (F.2.1.1 10))] d_Md_findPersons_24 rfl hm (by decide) rfl ?_
    exact r_sub [1, 0] rfl h
  · replace h := h.2.2.2 c
    refine r_aload_n ok 0 d_Md_findPersons_10 rfl rfl ?_
    refine g_Md_person ok d_Md_findPersons_11 ?_
    refine r_iload_n ok 1 d_Md_findPersons_14 rfl rfl ?_
    refine r_iload_n ok 1 d_Md_findPersons_15 rfl rfl ?_
    refine r_iast ok 72 d_Md_findPersons_16 (by decide) rfl h.1 ?_
    replace h := h.2 _ rfl
    generalize sA s 72 x1 x1 = s1 at h ⊢
    refine r_iinc ok 1 (x1 + 1) [(1, vI (x1 + 1)), (0, .ref (F.2.1.1 10))] d_Md_findPersons_17 rfl rfl hm (by decide) rfl ?_
    refine r_goto ok 2 d_Md_findPersons_20 (by decide) ?_
    exact r_sub [1, 0] rfl h
set_option maxHeartbeats 4000000 in
set_option maxRecDepth 100000 in
theorem K_Md_findPersons_25 {F : FT} (hD : ∀ σ, va_D F.2.2.1 (GW F.2.1 σ)) (hm : F.2.2.2.2.2.2.2.2.2.2.2.2.2.2.1 = 4) (ok : OkF F prog_12_method_24_code "LastSeenModel" ({ frames := 0, cells := 0, slots := 0, locals := 0 } : Room)) {Q : SS → Prop} (hQ : RetV F Q) {x1 : Int} {s : SS} (h : B_Md_findPersons_25 Q (fun x1 s => AtS F 2 [(0, .ref (F.2.1.1 10)), (1, vI x1)] [] s) (fun x1 s => AtS F 25 [(0, .ref (F.2.1.1 10)), (1, vI x1)] [] s) (fun x1 x2 s => AtS F 33 [(0, .ref (F.2.1.1 10)), (1, vI x1), (2, vI x2)] [] s) (fun x1 x2 x3 s => AtS F 43 [(0, .ref (F.2.1.1 10)), (1, vI x1), (2, vI x2), (3, vI x3)] [] s) x1 s) : AtS F 25 [(0, .ref (F.2.1.1 10)), (1, vI x1)] [] s := by
  unfold B_Md_findPersons_25 at h
  refine r_iload_n ok 1 d_Md_findPersons_25 rfl rfl ?_
  refine r_if_eq ok 112 d_Md_findPersons_26 (by decide) h.1 (fun c => ?_) (fun c => ?_)
  · replace h := h.2.1 c
    exact hQ _ _ _ _ (ok_code ok) d_Md_findPersons_112 h
  · replace h := h.2.2 c
    refine r_iconst ok 0 d_Md_findPersons_29 rfl ?_
    refine r_istore_n ok [(1, vI 0), (0, .ref (F.2.1.1 10))] d_Md_findPersons_30 rfl hm (by decide) rfl ?_
    refine r_iconst ok 0 d_Md_findPersons_31 rfl ?_
    refine r_istore_n ok [(2, vI 0), (1, vI 0), (0, .ref (F.2.1.1 10))] d_Md_findPersons_32 rfl hm (by decide) rfl ?_
    exact r_sub [2, 1, 0] rfl h
set_option maxHeartbeats 4000000 in
set_option maxRecDepth 100000 in
theorem K_Md_findPersons_33 {F : FT} (hD : ∀ σ, va_D F.2.2.1 (GW F.2.1 σ)) (hm : F.2.2.2.2.2.2.2.2.2.2.2.2.2.2.1 = 4) (ok : OkF F prog_12_method_24_code "LastSeenModel" ({ frames := 0, cells := 0, slots := 0, locals := 0 } : Room)) {Q : SS → Prop} (hQ : RetV F Q) {x1 x2 : Int} {s : SS} (h : B_Md_findPersons_33 Q (fun x1 s => AtS F 2 [(0, .ref (F.2.1.1 10)), (1, vI x1)] [] s) (fun x1 s => AtS F 25 [(0, .ref (F.2.1.1 10)), (1, vI x1)] [] s) (fun x1 x2 s => AtS F 33 [(0, .ref (F.2.1.1 10)), (1, vI x1), (2, vI x2)] [] s) (fun x1 x2 x3 s => AtS F 43 [(0, .ref (F.2.1.1 10)), (1, vI x1), (2, vI x2), (3, vI x3)] [] s) x1 x2 s) : AtS F 33 [(0, .ref (F.2.1.1 10)), (1, vI x1), (2, vI x2)] [] s := by
  unfold B_Md_findPersons_33 at h
  refine r_iload_n ok 2 d_Md_findPersons_33 rfl rfl ?_
  refine r_aload_n ok 0 d_Md_findPersons_34 rfl rfl ?_
  refine g_Md_seenNames ok d_Md_findPersons_35 ?_
  refine r_icmp_ge ok 109 d_Md_findPersons_38 (by decide) h.1 h.2.1 (fun c => ?_) (fun c => ?_)
  · replace h := h.2.2.1 c
    refine r_goto ok 25 d_Md_findPersons_109 (by decide) ?_
    exact r_sub [0, 1] rfl h
  · replace h := h.2.2.2 c
    refine r_iconst ok 0 d_Md_findPersons_41 rfl ?_
    refine r_istore_n ok [(3, vI 0), (0, .ref (F.2.1.1 10)), (1, vI x1), (2, vI x2)] d_Md_findPersons_42 rfl hm (by decide) rfl ?_
    exact r_sub [1, 2, 3, 0] rfl h
set_option maxHeartbeats 4000000 in
set_option maxRecDepth 100000 in
theorem K_Md_findPersons_43 {F : FT} (hD : ∀ σ, va_D F.2.2.1 (GW F.2.1 σ)) (hm : F.2.2.2.2.2.2.2.2.2.2.2.2.2.2.1 = 4) (ok : OkF F prog_12_method_24_code "LastSeenModel" ({ frames := 0, cells := 0, slots := 0, locals := 0 } : Room)) {Q : SS → Prop} (hQ : RetV F Q) {x1 x2 x3 : Int} {s : SS} (h : B_Md_findPersons_43 Q (fun x1 s => AtS F 2 [(0, .ref (F.2.1.1 10)), (1, vI x1)] [] s) (fun x1 s => AtS F 25 [(0, .ref (F.2.1.1 10)), (1, vI x1)] [] s) (fun x1 x2 s => AtS F 33 [(0, .ref (F.2.1.1 10)), (1, vI x1), (2, vI x2)] [] s) (fun x1 x2 x3 s => AtS F 43 [(0, .ref (F.2.1.1 10)), (1, vI x1), (2, vI x2), (3, vI x3)] [] s) x1 x2 x3 s) : AtS F 43 [(0, .ref (F.2.1.1 10)), (1, vI x1), (2, vI x2), (3, vI x3)] [] s := by
  unfold B_Md_findPersons_43 at h
  refine r_iload_n ok 3 d_Md_findPersons_43 rfl rfl ?_
  refine r_aload_n ok 0 d_Md_findPersons_44 rfl rfl ?_
  refine g_Md_seenNames ok d_Md_findPersons_45 ?_
  refine r_icmp_ge ok 103 d_Md_findPersons_48 (by decide) h.1 h.2.1 (fun c => ?_) (fun c => ?_)
  · replace h := h.2.2.1 c
    refine r_iinc ok 2 (x2 + 1) [(2, vI (x2 + 1)), (0, .ref (F.2.1.1 10)), (1, vI x1), (3, vI x3)] d_Md_findPersons_103 rfl rfl hm (by decide) rfl ?_
    refine r_goto ok 33 d_Md_findPersons_106 (by decide) ?_
    exact r_sub [1, 2, 0] rfl h
  · replace h := h.2.2.2 c
    refine r_aload_n ok 0 d_Md_findPersons_51 rfl rfl ?_
    refine g_Md_isLinked ok d_Md_findPersons_52 ?_
    refine r_bipush ok 20 d_Md_findPersons_55 (by decide) ?_
    refine r_iload_n ok 2 d_Md_findPersons_57 rfl rfl ?_
    refine r_imul ok d_Md_findPersons_58 ?_
    refine r_iload_n ok 3 d_Md_findPersons_59 rfl rfl ?_
    refine r_iadd ok d_Md_findPersons_60 ?_
    refine r_zald ok 67 d_Md_findPersons_61 (by decide) rfl h.1 ?_
    replace h := h.2
    refine r_if_eq ok 97 d_Md_findPersons_62 (by decide) h.1 (fun c => ?_) (fun c => ?_)
    · replace h := h.2.1 c
      refine r_iinc ok 3 (x3 + 1) [(3, vI (x3 + 1)), (0, .ref (F.2.1.1 10)), (1, vI x1), (2, vI x2)] d_Md_findPersons_97 rfl rfl hm (by decide) rfl ?_
      refine r_goto ok 43 d_Md_findPersons_100 (by decide) ?_
      exact r_sub [1, 2, 3, 0] rfl h
    · replace h := h.2.2 c
      refine r_aload_n ok 0 d_Md_findPersons_65 rfl rfl ?_
      refine g_Md_person ok d_Md_findPersons_66 ?_
      refine r_iload_n ok 3 d_Md_findPersons_69 rfl rfl ?_
      refine r_iald ok 72 d_Md_findPersons_70 (by decide) rfl h.1 ?_
      replace h := h.2
      refine r_aload_n ok 0 d_Md_findPersons_71 rfl rfl ?_
      refine g_Md_person ok d_Md_findPersons_72 ?_
      refine r_iload_n ok 2 d_Md_findPersons_75 rfl rfl ?_
      refine r_iald ok 72 d_Md_findPersons_76 (by decide) rfl h.1 ?_
      replace h := h.2
      refine r_icmp_gt ok 83 d_Md_findPersons_77 (by decide) h.1 h.2.1 (fun c => ?_) (fun c => ?_)
      · replace h := h.2.2.1 c
        refine r_aload_n ok 0 d_Md_findPersons_83 rfl rfl ?_
        refine g_Md_person ok d_Md_findPersons_84 ?_
        refine r_iload_n ok 3 d_Md_findPersons_87 rfl rfl ?_
        refine r_aload_n ok 0 d_Md_findPersons_88 rfl rfl ?_
        refine g_Md_person ok d_Md_findPersons_89 ?_
        refine r_iload_n ok 2 d_Md_findPersons_92 rfl rfl ?_
        refine r_iald ok 72 d_Md_findPersons_93 (by decide) rfl h.1 ?_
        replace h := h.2
        refine r_iast ok 72 d_Md_findPersons_94 (by decide) rfl h.1 ?_
        replace h := h.2 _ rfl
        generalize sA s 72 x3 (s.2 72 x2) = s2 at h ⊢
        refine r_iconst ok 1 d_Md_findPersons_95 rfl ?_
        refine r_istore_n ok [(1, vI 1), (0, .ref (F.2.1.1 10)), (2, vI x2), (3, vI x3)] d_Md_findPersons_96 rfl hm (by decide) rfl ?_
        refine r_iinc ok 3 (x3 + 1) [(3, vI (x3 + 1)), (1, vI 1), (0, .ref (F.2.1.1 10)), (2, vI x2)] d_Md_findPersons_97 rfl rfl hm (by decide) rfl ?_
        refine r_goto ok 43 d_Md_findPersons_100 (by decide) ?_
        exact r_sub [2, 1, 3, 0] rfl h
      · replace h := h.2.2.2 c
        refine r_goto ok 97 d_Md_findPersons_80 (by decide) ?_
        refine r_iinc ok 3 (x3 + 1) [(3, vI (x3 + 1)), (0, .ref (F.2.1.1 10)), (1, vI x1), (2, vI x2)] d_Md_findPersons_97 rfl rfl hm (by decide) rfl ?_
        refine r_goto ok 43 d_Md_findPersons_100 (by decide) ?_
        exact r_sub [1, 2, 3, 0] rfl h
set_option maxHeartbeats 4000000 in
set_option maxRecDepth 100000 in
theorem K_Md_findPersons_e {F : FT} (hD : ∀ σ, va_D F.2.2.1 (GW F.2.1 σ)) (hm : F.2.2.2.2.2.2.2.2.2.2.2.2.2.2.1 = 4) (ok : OkF F prog_12_method_24_code "LastSeenModel" ({ frames := 0, cells := 0, slots := 0, locals := 0 } : Room)) {Q : SS → Prop} (hQ : RetV F Q) {s : SS} (h : B_Md_findPersons_e Q (fun x1 s => AtS F 2 [(0, .ref (F.2.1.1 10)), (1, vI x1)] [] s) (fun x1 s => AtS F 25 [(0, .ref (F.2.1.1 10)), (1, vI x1)] [] s) (fun x1 x2 s => AtS F 33 [(0, .ref (F.2.1.1 10)), (1, vI x1), (2, vI x2)] [] s) (fun x1 x2 x3 s => AtS F 43 [(0, .ref (F.2.1.1 10)), (1, vI x1), (2, vI x2), (3, vI x3)] [] s)  s) : AtS F 0 [(0, .ref (F.2.1.1 10))] [] s := by
  unfold B_Md_findPersons_e at h
  refine r_iconst ok 0 d_Md_findPersons_0 rfl ?_
  refine r_istore_n ok [(1, vI 0), (0, .ref (F.2.1.1 10))] d_Md_findPersons_1 rfl hm (by decide) rfl ?_
  exact r_sub [1, 0] rfl h
theorem L_Md_findPersons (l : Launch) (G : GE) (A : Nat → Prop) (hD : ∀ σ, va_D A (GW G σ)) {s : SS} {Q : SS → Prop} (h : Sp_Md_findPersons  s Q) : Met l y_Md_findPersons (Cond.code y_Md_findPersons prog_12_method_24_code 4 (none) :: lw_ok) ({ frames := 0, cells := 0, slots := 0, locals := 0 } : Room) (va_Pc [.ref (G.1 10)] (gB G s)) (va_Qv (fun (s2 : SS) => Q s2) (fun s2 t => gB G s2 t) A) 0 0 A := by
  refine met_v hD (by decide) ⟨rfl, rfl⟩ (Nat.le_of_ble_eq_true rfl) (lv := [(0, .ref (G.1 10))]) rfl (fun F h1 h2 h3 hm ok hQ => ?_)
  subst h1 h2 h3
  have hDF := hD
  exact K_Md_findPersons_e hDF hm ok hQ (h _ _ _ _ (fun _ _ hb => K_Md_findPersons_2 hDF hm ok hQ hb) (fun _ _ hb => K_Md_findPersons_25 hDF hm ok hQ hb) (fun _ _ _ hb => K_Md_findPersons_33 hDF hm ok hQ hb) (fun _ _ _ _ hb => K_Md_findPersons_43 hDF hm ok hQ hb))
theorem d_Md_looks_0 : decode prog_12_method_23_code 0 = .ok (.aload_n 0, 1) := by decide +kernel
theorem d_Md_looks_1 : decode prog_12_method_23_code 1 = .ok (.iconst 0, 1) := by decide +kernel
theorem d_Md_looks_2 : decode prog_12_method_23_code 2 = .ok (.putfield 244, 3) := by decide +kernel
theorem d_Md_looks_5 : decode prog_12_method_23_code 5 = .ok (.aload_n 0, 1) := by decide +kernel
theorem d_Md_looks_6 : decode prog_12_method_23_code 6 = .ok (.iconst 0, 1) := by decide +kernel
theorem d_Md_looks_7 : decode prog_12_method_23_code 7 = .ok (.putfield 247, 3) := by decide +kernel
theorem d_Md_looks_10 : decode prog_12_method_23_code 10 = .ok (.aload_n 0, 1) := by decide +kernel
theorem d_Md_looks_11 : decode prog_12_method_23_code 11 = .ok (.iconst (-1), 1) := by decide +kernel
theorem d_Md_looks_12 : decode prog_12_method_23_code 12 = .ok (.putfield 250, 3) := by decide +kernel
theorem d_Md_looks_15 : decode prog_12_method_23_code 15 = .ok (.iconst 0, 1) := by decide +kernel
theorem d_Md_looks_16 : decode prog_12_method_23_code 16 = .ok (.istore_n 2, 1) := by decide +kernel
theorem d_Md_looks_17 : decode prog_12_method_23_code 17 = .ok (.iload_n 2, 1) := by decide +kernel
theorem d_Md_looks_18 : decode prog_12_method_23_code 18 = .ok (.sipush 400, 3) := by decide +kernel
theorem d_Md_looks_21 : decode prog_12_method_23_code 21 = .ok (.if_icmp .ge 64, 3) := by decide +kernel
theorem d_Md_looks_24 : decode prog_12_method_23_code 24 = .ok (.aload_n 0, 1) := by decide +kernel
theorem d_Md_looks_25 : decode prog_12_method_23_code 25 = .ok (.getfield 34, 3) := by decide +kernel
theorem d_Md_looks_28 : decode prog_12_method_23_code 28 = .ok (.iload_n 2, 1) := by decide +kernel
theorem d_Md_looks_29 : decode prog_12_method_23_code 29 = .ok (.iload_n 2, 1) := by decide +kernel
theorem d_Md_looks_30 : decode prog_12_method_23_code 30 = .ok (.bipush 20, 2) := by decide +kernel
theorem d_Md_looks_32 : decode prog_12_method_23_code 32 = .ok (.idiv, 1) := by decide +kernel
theorem d_Md_looks_33 : decode prog_12_method_23_code 33 = .ok (.aload_n 0, 1) := by decide +kernel
theorem d_Md_looks_34 : decode prog_12_method_23_code 34 = .ok (.getfield 179, 3) := by decide +kernel
theorem d_Md_looks_37 : decode prog_12_method_23_code 37 = .ok (.if_icmp .ge 33, 3) := by decide +kernel
theorem d_Md_looks_40 : decode prog_12_method_23_code 40 = .ok (.iload_n 2, 1) := by decide +kernel
theorem d_Md_looks_41 : decode prog_12_method_23_code 41 = .ok (.bipush 20, 2) := by decide +kernel
theorem d_Md_looks_43 : decode prog_12_method_23_code 43 = .ok (.irem, 1) := by decide +kernel
theorem d_Md_looks_44 : decode prog_12_method_23_code 44 = .ok (.aload_n 0, 1) := by decide +kernel
theorem d_Md_looks_45 : decode prog_12_method_23_code 45 = .ok (.getfield 179, 3) := by decide +kernel
theorem d_Md_looks_48 : decode prog_12_method_23_code 48 = .ok (.if_icmp .ge 22, 3) := by decide +kernel
theorem d_Md_looks_51 : decode prog_12_method_23_code 51 = .ok (.aload_n 0, 1) := by decide +kernel
theorem d_Md_looks_52 : decode prog_12_method_23_code 52 = .ok (.iload_n 2, 1) := by decide +kernel
theorem d_Md_looks_53 : decode prog_12_method_23_code 53 = .ok (.bipush 20, 2) := by decide +kernel
theorem d_Md_looks_55 : decode prog_12_method_23_code 55 = .ok (.idiv, 1) := by decide +kernel
theorem d_Md_looks_56 : decode prog_12_method_23_code 56 = .ok (.iload_n 2, 1) := by decide +kernel
theorem d_Md_looks_57 : decode prog_12_method_23_code 57 = .ok (.bipush 20, 2) := by decide +kernel
theorem d_Md_looks_59 : decode prog_12_method_23_code 59 = .ok (.irem, 1) := by decide +kernel
theorem d_Md_looks_60 : decode prog_12_method_23_code 60 = .ok (.invokevirtual 253, 3) := by decide +kernel
theorem d_Md_looks_63 : decode prog_12_method_23_code 63 = .ok (.ifCond .eq 7, 3) := by decide +kernel
theorem d_Md_looks_66 : decode prog_12_method_23_code 66 = .ok (.iconst 1, 1) := by decide +kernel
theorem d_Md_looks_67 : decode prog_12_method_23_code 67 = .ok (.goto 4, 3) := by decide +kernel
theorem d_Md_looks_70 : decode prog_12_method_23_code 70 = .ok (.iconst 0, 1) := by decide +kernel
theorem d_Md_looks_71 : decode prog_12_method_23_code 71 = .ok (.bastore, 1) := by decide +kernel
theorem d_Md_looks_72 : decode prog_12_method_23_code 72 = .ok (.aload_n 0, 1) := by decide +kernel
theorem d_Md_looks_73 : decode prog_12_method_23_code 73 = .ok (.getfield 38, 3) := by decide +kernel
theorem d_Md_looks_76 : decode prog_12_method_23_code 76 = .ok (.iload_n 2, 1) := by decide +kernel
theorem d_Md_looks_77 : decode prog_12_method_23_code 77 = .ok (.iconst 0, 1) := by decide +kernel
theorem d_Md_looks_78 : decode prog_12_method_23_code 78 = .ok (.bastore, 1) := by decide +kernel
theorem d_Md_looks_79 : decode prog_12_method_23_code 79 = .ok (.iinc 2 1, 3) := by decide +kernel
theorem d_Md_looks_82 : decode prog_12_method_23_code 82 = .ok (.goto (-65), 3) := by decide +kernel
theorem d_Md_looks_85 : decode prog_12_method_23_code 85 = .ok (.iconst 0, 1) := by decide +kernel
theorem d_Md_looks_86 : decode prog_12_method_23_code 86 = .ok (.istore_n 2, 1) := by decide +kernel
theorem d_Md_looks_87 : decode prog_12_method_23_code 87 = .ok (.iload_n 2, 1) := by decide +kernel
theorem d_Md_looks_88 : decode prog_12_method_23_code 88 = .ok (.bipush 40, 2) := by decide +kernel
theorem d_Md_looks_90 : decode prog_12_method_23_code 90 = .ok (.if_icmp .ge 16, 3) := by decide +kernel
theorem d_Md_looks_93 : decode prog_12_method_23_code 93 = .ok (.aload_n 0, 1) := by decide +kernel
theorem d_Md_looks_94 : decode prog_12_method_23_code 94 = .ok (.getfield 41, 3) := by decide +kernel
theorem d_Md_looks_97 : decode prog_12_method_23_code 97 = .ok (.iload_n 2, 1) := by decide +kernel
theorem d_Md_looks_98 : decode prog_12_method_23_code 98 = .ok (.iconst 0, 1) := by decide +kernel
theorem d_Md_looks_99 : decode prog_12_method_23_code 99 = .ok (.bastore, 1) := by decide +kernel
theorem d_Md_looks_100 : decode prog_12_method_23_code 100 = .ok (.iinc 2 1, 3) := by decide +kernel
theorem d_Md_looks_103 : decode prog_12_method_23_code 103 = .ok (.goto (-16), 3) := by decide +kernel
theorem d_Md_looks_106 : decode prog_12_method_23_code 106 = .ok (.iconst 0, 1) := by decide +kernel
theorem d_Md_looks_107 : decode prog_12_method_23_code 107 = .ok (.istore_n 2, 1) := by decide +kernel
theorem d_Md_looks_108 : decode prog_12_method_23_code 108 = .ok (.iload_n 2, 1) := by decide +kernel
theorem d_Md_looks_109 : decode prog_12_method_23_code 109 = .ok (.iload_n 1, 1) := by decide +kernel
theorem d_Md_looks_110 : decode prog_12_method_23_code 110 = .ok (.if_icmp .ge 209, 3) := by decide +kernel
theorem d_Md_looks_113 : decode prog_12_method_23_code 113 = .ok (.aload_n 0, 1) := by decide +kernel
theorem d_Md_looks_114 : decode prog_12_method_23_code 114 = .ok (.getfield 16, 3) := by decide +kernel
theorem d_Md_looks_117 : decode prog_12_method_23_code 117 = .ok (.iload_n 2, 1) := by decide +kernel
theorem d_Md_looks_118 : decode prog_12_method_23_code 118 = .ok (.iaload, 1) := by decide +kernel
theorem d_Md_looks_119 : decode prog_12_method_23_code 119 = .ok (.istore_n 3, 1) := by decide +kernel
theorem d_Md_looks_120 : decode prog_12_method_23_code 120 = .ok (.aload_n 0, 1) := by decide +kernel
theorem d_Md_looks_121 : decode prog_12_method_23_code 121 = .ok (.getfield 19, 3) := by decide +kernel
theorem d_Md_looks_124 : decode prog_12_method_23_code 124 = .ok (.iload_n 2, 1) := by decide +kernel
theorem d_Md_looks_125 : decode prog_12_method_23_code 125 = .ok (.iaload, 1) := by decide +kernel
theorem d_Md_looks_126 : decode prog_12_method_23_code 126 = .ok (.istore 4, 2) := by decide +kernel
theorem d_Md_looks_128 : decode prog_12_method_23_code 128 = .ok (.aload_n 0, 1) := by decide +kernel
theorem d_Md_looks_129 : decode prog_12_method_23_code 129 = .ok (.getfield 13, 3) := by decide +kernel
theorem d_Md_looks_132 : decode prog_12_method_23_code 132 = .ok (.iload_n 2, 1) := by decide +kernel
theorem d_Md_looks_133 : decode prog_12_method_23_code 133 = .ok (.iaload, 1) := by decide +kernel
theorem d_Md_looks_134 : decode prog_12_method_23_code 134 = .ok (.iconst 1, 1) := by decide +kernel
theorem d_Md_looks_135 : decode prog_12_method_23_code 135 = .ok (.if_icmp .ne 13, 3) := by decide +kernel
theorem d_Md_looks_138 : decode prog_12_method_23_code 138 = .ok (.aload_n 0, 1) := by decide +kernel
theorem d_Md_looks_139 : decode prog_12_method_23_code 139 = .ok (.dup, 1) := by decide +kernel
theorem d_Md_looks_140 : decode prog_12_method_23_code 140 = .ok (.getfield 244, 3) := by decide +kernel
theorem d_Md_looks_143 : decode prog_12_method_23_code 143 = .ok (.iconst 1, 1) := by decide +kernel
theorem d_Md_looks_144 : decode prog_12_method_23_code 144 = .ok (.iadd, 1) := by decide +kernel
theorem d_Md_looks_145 : decode prog_12_method_23_code 145 = .ok (.putfield 244, 3) := by decide +kernel
theorem d_Md_looks_148 : decode prog_12_method_23_code 148 = .ok (.aload_n 0, 1) := by decide +kernel
theorem d_Md_looks_149 : decode prog_12_method_23_code 149 = .ok (.getfield 13, 3) := by decide +kernel
theorem d_Md_looks_152 : decode prog_12_method_23_code 152 = .ok (.iload_n 2, 1) := by decide +kernel
theorem d_Md_looks_153 : decode prog_12_method_23_code 153 = .ok (.iaload, 1) := by decide +kernel
theorem d_Md_looks_154 : decode prog_12_method_23_code 154 = .ok (.iconst 4, 1) := by decide +kernel
theorem d_Md_looks_155 : decode prog_12_method_23_code 155 = .ok (.if_icmp .ne 13, 3) := by decide +kernel
theorem d_Md_looks_158 : decode prog_12_method_23_code 158 = .ok (.aload_n 0, 1) := by decide +kernel
theorem d_Md_looks_159 : decode prog_12_method_23_code 159 = .ok (.dup, 1) := by decide +kernel
theorem d_Md_looks_160 : decode prog_12_method_23_code 160 = .ok (.getfield 247, 3) := by decide +kernel
theorem d_Md_looks_163 : decode prog_12_method_23_code 163 = .ok (.iconst 1, 1) := by decide +kernel
theorem d_Md_looks_164 : decode prog_12_method_23_code 164 = .ok (.iadd, 1) := by decide +kernel
theorem d_Md_looks_165 : decode prog_12_method_23_code 165 = .ok (.putfield 247, 3) := by decide +kernel
theorem d_Md_looks_168 : decode prog_12_method_23_code 168 = .ok (.aload_n 0, 1) := by decide +kernel
theorem d_Md_looks_169 : decode prog_12_method_23_code 169 = .ok (.getfield 13, 3) := by decide +kernel
theorem d_Md_looks_172 : decode prog_12_method_23_code 172 = .ok (.iload_n 2, 1) := by decide +kernel
theorem d_Md_looks_173 : decode prog_12_method_23_code 173 = .ok (.iaload, 1) := by decide +kernel
theorem d_Md_looks_174 : decode prog_12_method_23_code 174 = .ok (.bipush 6, 2) := by decide +kernel
theorem d_Md_looks_176 : decode prog_12_method_23_code 176 = .ok (.if_icmp .ne 8, 3) := by decide +kernel
theorem d_Md_looks_179 : decode prog_12_method_23_code 179 = .ok (.aload_n 0, 1) := by decide +kernel
theorem d_Md_looks_180 : decode prog_12_method_23_code 180 = .ok (.iload_n 3, 1) := by decide +kernel
theorem d_Md_looks_181 : decode prog_12_method_23_code 181 = .ok (.putfield 250, 3) := by decide +kernel
theorem d_Md_looks_184 : decode prog_12_method_23_code 184 = .ok (.aload_n 0, 1) := by decide +kernel
theorem d_Md_looks_185 : decode prog_12_method_23_code 185 = .ok (.getfield 13, 3) := by decide +kernel
theorem d_Md_looks_188 : decode prog_12_method_23_code 188 = .ok (.iload_n 2, 1) := by decide +kernel
theorem d_Md_looks_189 : decode prog_12_method_23_code 189 = .ok (.iaload, 1) := by decide +kernel
theorem d_Md_looks_190 : decode prog_12_method_23_code 190 = .ok (.iconst 5, 1) := by decide +kernel
theorem d_Md_looks_191 : decode prog_12_method_23_code 191 = .ok (.if_icmp .ne 10, 3) := by decide +kernel
theorem d_Md_looks_194 : decode prog_12_method_23_code 194 = .ok (.aload_n 0, 1) := by decide +kernel
theorem d_Md_looks_195 : decode prog_12_method_23_code 195 = .ok (.getfield 41, 3) := by decide +kernel
theorem d_Md_looks_198 : decode prog_12_method_23_code 198 = .ok (.iload_n 3, 1) := by decide +kernel
theorem d_Md_looks_199 : decode prog_12_method_23_code 199 = .ok (.iconst 1, 1) := by decide +kernel
theorem d_Md_looks_200 : decode prog_12_method_23_code 200 = .ok (.bastore, 1) := by decide +kernel
theorem d_Md_looks_201 : decode prog_12_method_23_code 201 = .ok (.aload_n 0, 1) := by decide +kernel
theorem d_Md_looks_202 : decode prog_12_method_23_code 202 = .ok (.getfield 13, 3) := by decide +kernel
theorem d_Md_looks_205 : decode prog_12_method_23_code 205 = .ok (.iload_n 2, 1) := by decide +kernel
theorem d_Md_looks_206 : decode prog_12_method_23_code 206 = .ok (.iaload, 1) := by decide +kernel
theorem d_Md_looks_207 : decode prog_12_method_23_code 207 = .ok (.iconst 2, 1) := by decide +kernel
theorem d_Md_looks_208 : decode prog_12_method_23_code 208 = .ok (.if_icmp .eq 16, 3) := by decide +kernel
theorem d_Md_looks_211 : decode prog_12_method_23_code 211 = .ok (.aload_n 0, 1) := by decide +kernel
theorem d_Md_looks_212 : decode prog_12_method_23_code 212 = .ok (.getfield 13, 3) := by decide +kernel
theorem d_Md_looks_215 : decode prog_12_method_23_code 215 = .ok (.iload_n 2, 1) := by decide +kernel
theorem d_Md_looks_216 : decode prog_12_method_23_code 216 = .ok (.iaload, 1) := by decide +kernel
theorem d_Md_looks_217 : decode prog_12_method_23_code 217 = .ok (.iconst 3, 1) := by decide +kernel
theorem d_Md_looks_218 : decode prog_12_method_23_code 218 = .ok (.if_icmp .eq 6, 3) := by decide +kernel
theorem d_Md_looks_221 : decode prog_12_method_23_code 221 = .ok (.goto 92, 3) := by decide +kernel
theorem d_Md_looks_224 : decode prog_12_method_23_code 224 = .ok (.aload_n 0, 1) := by decide +kernel
theorem d_Md_looks_225 : decode prog_12_method_23_code 225 = .ok (.getfield 13, 3) := by decide +kernel
theorem d_Md_looks_228 : decode prog_12_method_23_code 228 = .ok (.iload_n 2, 1) := by decide +kernel
theorem d_Md_looks_229 : decode prog_12_method_23_code 229 = .ok (.iaload, 1) := by decide +kernel
theorem d_Md_looks_230 : decode prog_12_method_23_code 230 = .ok (.iconst 2, 1) := by decide +kernel
theorem d_Md_looks_231 : decode prog_12_method_23_code 231 = .ok (.if_icmp .ne 7, 3) := by decide +kernel
theorem d_Md_looks_234 : decode prog_12_method_23_code 234 = .ok (.iconst 1, 1) := by decide +kernel
theorem d_Md_looks_235 : decode prog_12_method_23_code 235 = .ok (.goto 4, 3) := by decide +kernel
theorem d_Md_looks_238 : decode prog_12_method_23_code 238 = .ok (.iconst 0, 1) := by decide +kernel
theorem d_Md_looks_239 : decode prog_12_method_23_code 239 = .ok (.istore 5, 2) := by decide +kernel
theorem d_Md_looks_241 : decode prog_12_method_23_code 241 = .ok (.aload_n 0, 1) := by decide +kernel
theorem d_Md_looks_242 : decode prog_12_method_23_code 242 = .ok (.getfield 34, 3) := by decide +kernel
theorem d_Md_looks_245 : decode prog_12_method_23_code 245 = .ok (.bipush 20, 2) := by decide +kernel
theorem d_Md_looks_247 : decode prog_12_method_23_code 247 = .ok (.iload_n 3, 1) := by decide +kernel
theorem d_Md_looks_248 : decode prog_12_method_23_code 248 = .ok (.imul, 1) := by decide +kernel
theorem d_Md_looks_249 : decode prog_12_method_23_code 249 = .ok (.iload 4, 2) := by decide +kernel
theorem d_Md_looks_251 : decode prog_12_method_23_code 251 = .ok (.iadd, 1) := by decide +kernel
theorem d_Md_looks_252 : decode prog_12_method_23_code 252 = .ok (.iload 5, 2) := by decide +kernel
theorem d_Md_looks_254 : decode prog_12_method_23_code 254 = .ok (.bastore, 1) := by decide +kernel
theorem d_Md_looks_255 : decode prog_12_method_23_code 255 = .ok (.aload_n 0, 1) := by decide +kernel
theorem d_Md_looks_256 : decode prog_12_method_23_code 256 = .ok (.getfield 34, 3) := by decide +kernel
theorem d_Md_looks_259 : decode prog_12_method_23_code 259 = .ok (.bipush 20, 2) := by decide +kernel
theorem d_Md_looks_261 : decode prog_12_method_23_code 261 = .ok (.iload 4, 2) := by decide +kernel
theorem d_Md_looks_263 : decode prog_12_method_23_code 263 = .ok (.imul, 1) := by decide +kernel
theorem d_Md_looks_264 : decode prog_12_method_23_code 264 = .ok (.iload_n 3, 1) := by decide +kernel
theorem d_Md_looks_265 : decode prog_12_method_23_code 265 = .ok (.iadd, 1) := by decide +kernel
theorem d_Md_looks_266 : decode prog_12_method_23_code 266 = .ok (.iload 5, 2) := by decide +kernel
theorem d_Md_looks_268 : decode prog_12_method_23_code 268 = .ok (.bastore, 1) := by decide +kernel
theorem d_Md_looks_269 : decode prog_12_method_23_code 269 = .ok (.aload_n 0, 1) := by decide +kernel
theorem d_Md_looks_270 : decode prog_12_method_23_code 270 = .ok (.getfield 38, 3) := by decide +kernel
theorem d_Md_looks_273 : decode prog_12_method_23_code 273 = .ok (.bipush 20, 2) := by decide +kernel
theorem d_Md_looks_275 : decode prog_12_method_23_code 275 = .ok (.iload_n 3, 1) := by decide +kernel
theorem d_Md_looks_276 : decode prog_12_method_23_code 276 = .ok (.imul, 1) := by decide +kernel
theorem d_Md_looks_277 : decode prog_12_method_23_code 277 = .ok (.iload 4, 2) := by decide +kernel
theorem d_Md_looks_279 : decode prog_12_method_23_code 279 = .ok (.iadd, 1) := by decide +kernel
theorem d_Md_looks_280 : decode prog_12_method_23_code 280 = .ok (.iload 5, 2) := by decide +kernel
theorem d_Md_looks_282 : decode prog_12_method_23_code 282 = .ok (.ifCond .ne 7, 3) := by decide +kernel
theorem d_Md_looks_285 : decode prog_12_method_23_code 285 = .ok (.iconst 1, 1) := by decide +kernel
theorem d_Md_looks_286 : decode prog_12_method_23_code 286 = .ok (.goto 4, 3) := by decide +kernel
theorem d_Md_looks_289 : decode prog_12_method_23_code 289 = .ok (.iconst 0, 1) := by decide +kernel
theorem d_Md_looks_290 : decode prog_12_method_23_code 290 = .ok (.bastore, 1) := by decide +kernel
theorem d_Md_looks_291 : decode prog_12_method_23_code 291 = .ok (.aload_n 0, 1) := by decide +kernel
theorem d_Md_looks_292 : decode prog_12_method_23_code 292 = .ok (.getfield 38, 3) := by decide +kernel
theorem d_Md_looks_295 : decode prog_12_method_23_code 295 = .ok (.bipush 20, 2) := by decide +kernel
theorem d_Md_looks_297 : decode prog_12_method_23_code 297 = .ok (.iload 4, 2) := by decide +kernel
theorem d_Md_looks_299 : decode prog_12_method_23_code 299 = .ok (.imul, 1) := by decide +kernel
theorem d_Md_looks_300 : decode prog_12_method_23_code 300 = .ok (.iload_n 3, 1) := by decide +kernel
theorem d_Md_looks_301 : decode prog_12_method_23_code 301 = .ok (.iadd, 1) := by decide +kernel
theorem d_Md_looks_302 : decode prog_12_method_23_code 302 = .ok (.iload 5, 2) := by decide +kernel
theorem d_Md_looks_304 : decode prog_12_method_23_code 304 = .ok (.ifCond .ne 7, 3) := by decide +kernel
theorem d_Md_looks_307 : decode prog_12_method_23_code 307 = .ok (.iconst 1, 1) := by decide +kernel
theorem d_Md_looks_308 : decode prog_12_method_23_code 308 = .ok (.goto 4, 3) := by decide +kernel
theorem d_Md_looks_311 : decode prog_12_method_23_code 311 = .ok (.iconst 0, 1) := by decide +kernel
theorem d_Md_looks_312 : decode prog_12_method_23_code 312 = .ok (.bastore, 1) := by decide +kernel
theorem d_Md_looks_313 : decode prog_12_method_23_code 313 = .ok (.iinc 2 1, 3) := by decide +kernel
theorem d_Md_looks_316 : decode prog_12_method_23_code 316 = .ok (.goto (-208), 3) := by decide +kernel
theorem d_Md_looks_319 : decode prog_12_method_23_code 319 = .ok (.aload_n 0, 1) := by decide +kernel
theorem d_Md_looks_320 : decode prog_12_method_23_code 320 = .ok (.invokevirtual 257, 3) := by decide +kernel
theorem d_Md_looks_323 : decode prog_12_method_23_code 323 = .ok (.iconst 0, 1) := by decide +kernel
theorem d_Md_looks_324 : decode prog_12_method_23_code 324 = .ok (.istore_n 2, 1) := by decide +kernel
theorem d_Md_looks_325 : decode prog_12_method_23_code 325 = .ok (.iload_n 2, 1) := by decide +kernel
theorem d_Md_looks_326 : decode prog_12_method_23_code 326 = .ok (.aload_n 0, 1) := by decide +kernel
theorem d_Md_looks_327 : decode prog_12_method_23_code 327 = .ok (.getfield 247, 3) := by decide +kernel
theorem d_Md_looks_330 : decode prog_12_method_23_code 330 = .ok (.if_icmp .ge 52, 3) := by decide +kernel
theorem d_Md_looks_333 : decode prog_12_method_23_code 333 = .ok (.aload_n 0, 1) := by decide +kernel
theorem d_Md_looks_334 : decode prog_12_method_23_code 334 = .ok (.getfield 44, 3) := by decide +kernel
theorem d_Md_looks_337 : decode prog_12_method_23_code 337 = .ok (.iload_n 2, 1) := by decide +kernel
theorem d_Md_looks_338 : decode prog_12_method_23_code 338 = .ok (.aload_n 0, 1) := by decide +kernel
theorem d_Md_looks_339 : decode prog_12_method_23_code 339 = .ok (.getfield 41, 3) := by decide +kernel
theorem d_Md_looks_342 : decode prog_12_method_23_code 342 = .ok (.iload_n 2, 1) := by decide +kernel
theorem d_Md_looks_343 : decode prog_12_method_23_code 343 = .ok (.baload, 1) := by decide +kernel
theorem d_Md_looks_344 : decode prog_12_method_23_code 344 = .ok (.ifCond .ne 30, 3) := by decide +kernel
theorem d_Md_looks_347 : decode prog_12_method_23_code 347 = .ok (.aload_n 0, 1) := by decide +kernel
theorem d_Md_looks_348 : decode prog_12_method_23_code 348 = .ok (.getfield 74, 3) := by decide +kernel
theorem d_Md_looks_351 : decode prog_12_method_23_code 351 = .ok (.iload_n 2, 1) := by decide +kernel
theorem d_Md_looks_352 : decode prog_12_method_23_code 352 = .ok (.iaload, 1) := by decide +kernel
theorem d_Md_looks_353 : decode prog_12_method_23_code 353 = .ok (.ifCond .lt 17, 3) := by decide +kernel
theorem d_Md_looks_356 : decode prog_12_method_23_code 356 = .ok (.aload_n 0, 1) := by decide +kernel
theorem d_Md_looks_357 : decode prog_12_method_23_code 357 = .ok (.getfield 44, 3) := by decide +kernel
theorem d_Md_looks_360 : decode prog_12_method_23_code 360 = .ok (.aload_n 0, 1) := by decide +kernel
theorem d_Md_looks_361 : decode prog_12_method_23_code 361 = .ok (.getfield 74, 3) := by decide +kernel
theorem d_Md_looks_364 : decode prog_12_method_23_code 364 = .ok (.iload_n 2, 1) := by decide +kernel
theorem d_Md_looks_365 : decode prog_12_method_23_code 365 = .ok (.iaload, 1) := by decide +kernel
theorem d_Md_looks_366 : decode prog_12_method_23_code 366 = .ok (.baload, 1) := by decide +kernel
theorem d_Md_looks_367 : decode prog_12_method_23_code 367 = .ok (.ifCond .eq 7, 3) := by decide +kernel
theorem d_Md_looks_370 : decode prog_12_method_23_code 370 = .ok (.iconst 1, 1) := by decide +kernel
theorem d_Md_looks_371 : decode prog_12_method_23_code 371 = .ok (.goto 4, 3) := by decide +kernel
theorem d_Md_looks_374 : decode prog_12_method_23_code 374 = .ok (.iconst 0, 1) := by decide +kernel
theorem d_Md_looks_375 : decode prog_12_method_23_code 375 = .ok (.bastore, 1) := by decide +kernel
theorem d_Md_looks_376 : decode prog_12_method_23_code 376 = .ok (.iinc 2 1, 3) := by decide +kernel
theorem d_Md_looks_379 : decode prog_12_method_23_code 379 = .ok (.goto (-54), 3) := by decide +kernel
theorem d_Md_looks_382 : decode prog_12_method_23_code 382 = .ok (.aload_n 0, 1) := by decide +kernel
theorem d_Md_looks_383 : decode prog_12_method_23_code 383 = .ok (.getfield 247, 3) := by decide +kernel
theorem d_Md_looks_386 : decode prog_12_method_23_code 386 = .ok (.istore_n 2, 1) := by decide +kernel
theorem d_Md_looks_387 : decode prog_12_method_23_code 387 = .ok (.iload_n 2, 1) := by decide +kernel
theorem d_Md_looks_388 : decode prog_12_method_23_code 388 = .ok (.bipush 40, 2) := by decide +kernel
theorem d_Md_looks_390 : decode prog_12_method_23_code 390 = .ok (.if_icmp .ge 16, 3) := by decide +kernel
theorem d_Md_looks_393 : decode prog_12_method_23_code 393 = .ok (.aload_n 0, 1) := by decide +kernel
theorem d_Md_looks_394 : decode prog_12_method_23_code 394 = .ok (.getfield 44, 3) := by decide +kernel
theorem d_Md_looks_397 : decode prog_12_method_23_code 397 = .ok (.iload_n 2, 1) := by decide +kernel
theorem d_Md_looks_398 : decode prog_12_method_23_code 398 = .ok (.iconst 0, 1) := by decide +kernel
theorem d_Md_looks_399 : decode prog_12_method_23_code 399 = .ok (.bastore, 1) := by decide +kernel
theorem d_Md_looks_400 : decode prog_12_method_23_code 400 = .ok (.iinc 2 1, 3) := by decide +kernel
theorem d_Md_looks_403 : decode prog_12_method_23_code 403 = .ok (.goto (-16), 3) := by decide +kernel
theorem d_Md_looks_406 : decode prog_12_method_23_code 406 = .ok (.return_, 1) := by decide +kernel
set_option maxHeartbeats 4000000 in
set_option maxRecDepth 100000 in
theorem K_Md_looks_17 {F : FT} (hD : ∀ σ, va_D F.2.2.1 (GW F.2.1 σ)) (hm : F.2.2.2.2.2.2.2.2.2.2.2.2.2.2.1 = 6) (ok : OkF F prog_12_method_23_code "LastSeenModel" ({ frames := 1, cells := 0, slots := 0, locals := 24 } : Room)) {Q : SS → Prop} (hQ : RetV F Q) {x1 x2 : Int} {s : SS} (h : B_Md_looks_17 Q (fun x1 x2 s => AtS F 17 [(0, .ref (F.2.1.1 10)), (1, vI x1), (2, vI x2)] [] s) (fun x1 x2 s => AtS F 87 [(0, .ref (F.2.1.1 10)), (1, vI x1), (2, vI x2)] [] s) (fun x1 x2 s => AtS F 108 [(0, .ref (F.2.1.1 10)), (1, vI x1), (2, vI x2)] [] s) (fun x1 x2 x3 x4 s => AtS F 168 [(0, .ref (F.2.1.1 10)), (1, vI x1), (2, vI x2), (3, vI x3), (4, vI x4)] [] s) (fun x1 x2 x3 x4 s => AtS F 201 [(0, .ref (F.2.1.1 10)), (1, vI x1), (2, vI x2), (3, vI x3), (4, vI x4)] [] s) (fun x1 x2 x3 x4 y0 s => AtS F 239 [(0, .ref (F.2.1.1 10)), (1, vI x1), (2, vI x2), (3, vI x3), (4, vI x4)] [vI y0] s) (fun x1 x2 x3 x4 x5 y0 y1 s => AtS F 290 [(0, .ref (F.2.1.1 10)), (1, vI x1), (2, vI x2), (3, vI x3), (4, vI x4), (5, vI x5)] [vI y0, vI y1, .ref (F.2.1.1 79)] s) (fun x2 s => AtS F 325 [(0, .ref (F.2.1.1 10)), (2, vI x2)] [] s) (fun x2 s => AtS F 387 [(0, .ref (F.2.1.1 10)), (2, vI x2)] [] s) x1 x2 s) : AtS F 17 [(0, .ref (F.2.1.1 10)), (1, vI x1), (2, vI x2)] [] s := by
  unfold B_Md_looks_17 at h
  refine r_iload_n ok 2 d_Md_looks_17 rfl rfl ?_
  refine r_sipush ok 400 d_Md_looks_18 (by decide) ?_
  refine r_icmp_ge ok 85 d_Md_looks_21 (by decide) h.1 (by decide) (fun c => ?_) (fun c => ?_)
  · replace h := h.2.1 c
    refine r_iconst ok 0 d_Md_looks_85 rfl ?_
    refine r_istore_n ok [(2, vI 0), (0, .ref (F.2.1.1 10)), (1, vI x1)] d_Md_looks_86 rfl hm (by decide) rfl ?_
    exact r_sub [1, 2, 0] rfl h
  · replace h := h.2.2 c
    refine r_aload_n ok 0 d_Md_looks_24 rfl rfl ?_
    refine g_Md_isLinked ok d_Md_looks_25 ?_
    refine r_iload_n ok 2 d_Md_looks_28 rfl rfl ?_
    refine r_iload_n ok 2 d_Md_looks_29 rfl rfl ?_
    refine r_bipush ok 20 d_Md_looks_30 (by decide) ?_
    refine r_idiv ok 20 d_Md_looks_32 h.1 (by decide) (by decide) ?_
    replace h := h.2
    refine r_aload_n ok 0 d_Md_looks_33 rfl rfl ?_
    refine g_Md_names ok d_Md_looks_34 ?_
    refine r_icmp_ge ok 70 d_Md_looks_37 (by decide) h.1 h.2.1 (fun c => ?_) (fun c => ?_)
    · replace h := h.2.2.1 c
      refine r_iconst ok 0 d_Md_looks_70 rfl ?_
      refine r_zast ok 67 d_Md_looks_71 (by decide) rfl h.1 (by decide) ?_
      replace h := h.2 _ rfl
      generalize sA s 67 x2 0 = s4 at h ⊢
      refine r_aload_n ok 0 d_Md_looks_72 rfl rfl ?_
      refine g_Md_isParted ok d_Md_looks_73 ?_
      refine r_iload_n ok 2 d_Md_looks_76 rfl rfl ?_
      refine r_iconst ok 0 d_Md_looks_77 rfl ?_
      refine r_zast ok 68 d_Md_looks_78 (by decide) rfl h.1 (by decide) ?_
      replace h := h.2 _ rfl
      generalize sA s4 68 x2 0 = s5 at h ⊢
      refine r_iinc ok 2 (x2 + 1) [(2, vI (x2 + 1)), (0, .ref (F.2.1.1 10)), (1, vI x1)] d_Md_looks_79 rfl rfl hm (by decide) rfl ?_
      refine r_goto ok 17 d_Md_looks_82 (by decide) ?_
      exact r_sub [1, 2, 0] rfl h
    · replace h := h.2.2.2 c
      refine r_iload_n ok 2 d_Md_looks_40 rfl rfl ?_
      refine r_bipush ok 20 d_Md_looks_41 (by decide) ?_
      refine r_irem ok 20 d_Md_looks_43 h.1 (by decide) (by decide) ?_
      replace h := h.2
      refine r_aload_n ok 0 d_Md_looks_44 rfl rfl ?_
      refine g_Md_names ok d_Md_looks_45 ?_
      refine r_icmp_ge ok 70 d_Md_looks_48 (by decide) h.1 h.2.1 (fun c => ?_) (fun c => ?_)
      · replace h := h.2.2.1 c
        refine r_iconst ok 0 d_Md_looks_70 rfl ?_
        refine r_zast ok 67 d_Md_looks_71 (by decide) rfl h.1 (by decide) ?_
        replace h := h.2 _ rfl
        generalize sA s 67 x2 0 = s6 at h ⊢
        refine r_aload_n ok 0 d_Md_looks_72 rfl rfl ?_
        refine g_Md_isParted ok d_Md_looks_73 ?_
        refine r_iload_n ok 2 d_Md_looks_76 rfl rfl ?_
        refine r_iconst ok 0 d_Md_looks_77 rfl ?_
        refine r_zast ok 68 d_Md_looks_78 (by decide) rfl h.1 (by decide) ?_
        replace h := h.2 _ rfl
        generalize sA s6 68 x2 0 = s7 at h ⊢
        refine r_iinc ok 2 (x2 + 1) [(2, vI (x2 + 1)), (0, .ref (F.2.1.1 10)), (1, vI x1)] d_Md_looks_79 rfl rfl hm (by decide) rfl ?_
        refine r_goto ok 17 d_Md_looks_82 (by decide) ?_
        exact r_sub [1, 2, 0] rfl h
      · replace h := h.2.2.2 c
        refine r_aload_n ok 0 d_Md_looks_51 rfl rfl ?_
        refine r_iload_n ok 2 d_Md_looks_52 rfl rfl ?_
        refine r_bipush ok 20 d_Md_looks_53 (by decide) ?_
        refine r_idiv ok 20 d_Md_looks_55 h.1 (by decide) (by decide) ?_
        replace h := h.2
        refine r_iload_n ok 2 d_Md_looks_56 rfl rfl ?_
        refine r_bipush ok 20 d_Md_looks_57 (by decide) ?_
        refine r_irem ok 20 d_Md_looks_59 h.1 (by decide) (by decide) ?_
        replace h := h.2
        refine r_callVi (As := [vI (x2 / 20), vI (x2 % 20)]) (rest := [vI x2, .ref (F.2.1.1 78)]) ok 10 rfl rfl rfl wl_Md_253 wi_y_Md_haveOneKey ws_y_Md_haveOneKey wn_Md wc_y_Md_haveOneKey (by decide) (by decide) hh_Md_haveOneKey (Nat.le_of_ble_eq_true rfl) rfl d_Md_looks_60 (L_Md_haveOneKey F.1 F.2.1 F.2.2.1 hD h) (fun r9 s8 h => ?_)
        refine r_if_eq ok 70 d_Md_looks_63 (by decide) h.1 (fun c => ?_) (fun c => ?_)
        · replace h := h.2.1 c
          refine r_iconst ok 0 d_Md_looks_70 rfl ?_
          refine r_zast ok 67 d_Md_looks_71 (by decide) rfl h.1 (by decide) ?_
          replace h := h.2 _ rfl
          generalize sA s8 67 x2 0 = s10 at h ⊢
          refine r_aload_n ok 0 d_Md_looks_72 rfl rfl ?_
          refine g_Md_isParted ok d_Md_looks_73 ?_
          refine r_iload_n ok 2 d_Md_looks_76 rfl rfl ?_
          refine r_iconst ok 0 d_Md_looks_77 rfl ?_
          refine r_zast ok 68 d_Md_looks_78 (by decide) rfl h.1 (by decide) ?_
          replace h := h.2 _ rfl
          generalize sA s10 68 x2 0 = s11 at h ⊢
          refine r_iinc ok 2 (x2 + 1) [(2, vI (x2 + 1)), (0, .ref (F.2.1.1 10)), (1, vI x1)] d_Md_looks_79 rfl rfl hm (by decide) rfl ?_
          refine r_goto ok 17 d_Md_looks_82 (by decide) ?_
          exact r_sub [1, 2, 0] rfl h
        · replace h := h.2.2 c
          refine r_iconst ok 1 d_Md_looks_66 rfl ?_
          refine r_goto ok 71 d_Md_looks_67 (by decide) ?_
          refine r_zast ok 67 d_Md_looks_71 (by decide) rfl h.1 (by decide) ?_
          replace h := h.2 _ rfl
          generalize sA s8 67 x2 1 = s12 at h ⊢
          refine r_aload_n ok 0 d_Md_looks_72 rfl rfl ?_
          refine g_Md_isParted ok d_Md_looks_73 ?_
          refine r_iload_n ok 2 d_Md_looks_76 rfl rfl ?_
          refine r_iconst ok 0 d_Md_looks_77 rfl ?_
          refine r_zast ok 68 d_Md_looks_78 (by decide) rfl h.1 (by decide) ?_
          replace h := h.2 _ rfl
          generalize sA s12 68 x2 0 = s13 at h ⊢
          refine r_iinc ok 2 (x2 + 1) [(2, vI (x2 + 1)), (0, .ref (F.2.1.1 10)), (1, vI x1)] d_Md_looks_79 rfl rfl hm (by decide) rfl ?_
          refine r_goto ok 17 d_Md_looks_82 (by decide) ?_
          exact r_sub [1, 2, 0] rfl h
set_option maxHeartbeats 4000000 in
set_option maxRecDepth 100000 in
theorem K_Md_looks_87 {F : FT} (hD : ∀ σ, va_D F.2.2.1 (GW F.2.1 σ)) (hm : F.2.2.2.2.2.2.2.2.2.2.2.2.2.2.1 = 6) (ok : OkF F prog_12_method_23_code "LastSeenModel" ({ frames := 1, cells := 0, slots := 0, locals := 24 } : Room)) {Q : SS → Prop} (hQ : RetV F Q) {x1 x2 : Int} {s : SS} (h : B_Md_looks_87 Q (fun x1 x2 s => AtS F 17 [(0, .ref (F.2.1.1 10)), (1, vI x1), (2, vI x2)] [] s) (fun x1 x2 s => AtS F 87 [(0, .ref (F.2.1.1 10)), (1, vI x1), (2, vI x2)] [] s) (fun x1 x2 s => AtS F 108 [(0, .ref (F.2.1.1 10)), (1, vI x1), (2, vI x2)] [] s) (fun x1 x2 x3 x4 s => AtS F 168 [(0, .ref (F.2.1.1 10)), (1, vI x1), (2, vI x2), (3, vI x3), (4, vI x4)] [] s) (fun x1 x2 x3 x4 s => AtS F 201 [(0, .ref (F.2.1.1 10)), (1, vI x1), (2, vI x2), (3, vI x3), (4, vI x4)] [] s) (fun x1 x2 x3 x4 y0 s => AtS F 239 [(0, .ref (F.2.1.1 10)), (1, vI x1), (2, vI x2), (3, vI x3), (4, vI x4)] [vI y0] s) (fun x1 x2 x3 x4 x5 y0 y1 s => AtS F 290 [(0, .ref (F.2.1.1 10)), (1, vI x1), (2, vI x2), (3, vI x3), (4, vI x4), (5, vI x5)] [vI y0, vI y1, .ref (F.2.1.1 79)] s) (fun x2 s => AtS F 325 [(0, .ref (F.2.1.1 10)), (2, vI x2)] [] s) (fun x2 s => AtS F 387 [(0, .ref (F.2.1.1 10)), (2, vI x2)] [] s) x1 x2 s) : AtS F 87 [(0, .ref (F.2.1.1 10)), (1, vI x1), (2, vI x2)] [] s := by
  unfold B_Md_looks_87 at h
  refine r_iload_n ok 2 d_Md_looks_87 rfl rfl ?_
  refine r_bipush ok 40 d_Md_looks_88 (by decide) ?_
  refine r_icmp_ge ok 106 d_Md_looks_90 (by decide) h.1 (by decide) (fun c => ?_) (fun c => ?_)
  · replace h := h.2.1 c
    refine r_iconst ok 0 d_Md_looks_106 rfl ?_
    refine r_istore_n ok [(2, vI 0), (0, .ref (F.2.1.1 10)), (1, vI x1)] d_Md_looks_107 rfl hm (by decide) rfl ?_
    exact r_sub [1, 2, 0] rfl h
  · replace h := h.2.2 c
    refine r_aload_n ok 0 d_Md_looks_93 rfl rfl ?_
    refine g_Md_isGone ok d_Md_looks_94 ?_
    refine r_iload_n ok 2 d_Md_looks_97 rfl rfl ?_
    refine r_iconst ok 0 d_Md_looks_98 rfl ?_
    refine r_zast ok 69 d_Md_looks_99 (by decide) rfl h.1 (by decide) ?_
    replace h := h.2 _ rfl
    generalize sA s 69 x2 0 = s14 at h ⊢
    refine r_iinc ok 2 (x2 + 1) [(2, vI (x2 + 1)), (0, .ref (F.2.1.1 10)), (1, vI x1)] d_Md_looks_100 rfl rfl hm (by decide) rfl ?_
    refine r_goto ok 87 d_Md_looks_103 (by decide) ?_
    exact r_sub [1, 2, 0] rfl h
set_option maxHeartbeats 4000000 in
set_option maxRecDepth 100000 in
theorem K_Md_looks_108 {F : FT} (hD : ∀ σ, va_D F.2.2.1 (GW F.2.1 σ)) (hm : F.2.2.2.2.2.2.2.2.2.2.2.2.2.2.1 = 6) (ok : OkF F prog_12_method_23_code "LastSeenModel" ({ frames := 1, cells := 0, slots := 0, locals := 24 } : Room)) {Q : SS → Prop} (hQ : RetV F Q) {x1 x2 : Int} {s : SS} (h : B_Md_looks_108 Q (fun x1 x2 s => AtS F 17 [(0, .ref (F.2.1.1 10)), (1, vI x1), (2, vI x2)] [] s) (fun x1 x2 s => AtS F 87 [(0, .ref (F.2.1.1 10)), (1, vI x1), (2, vI x2)] [] s) (fun x1 x2 s => AtS F 108 [(0, .ref (F.2.1.1 10)), (1, vI x1), (2, vI x2)] [] s) (fun x1 x2 x3 x4 s => AtS F 168 [(0, .ref (F.2.1.1 10)), (1, vI x1), (2, vI x2), (3, vI x3), (4, vI x4)] [] s) (fun x1 x2 x3 x4 s => AtS F 201 [(0, .ref (F.2.1.1 10)), (1, vI x1), (2, vI x2), (3, vI x3), (4, vI x4)] [] s) (fun x1 x2 x3 x4 y0 s => AtS F 239 [(0, .ref (F.2.1.1 10)), (1, vI x1), (2, vI x2), (3, vI x3), (4, vI x4)] [vI y0] s) (fun x1 x2 x3 x4 x5 y0 y1 s => AtS F 290 [(0, .ref (F.2.1.1 10)), (1, vI x1), (2, vI x2), (3, vI x3), (4, vI x4), (5, vI x5)] [vI y0, vI y1, .ref (F.2.1.1 79)] s) (fun x2 s => AtS F 325 [(0, .ref (F.2.1.1 10)), (2, vI x2)] [] s) (fun x2 s => AtS F 387 [(0, .ref (F.2.1.1 10)), (2, vI x2)] [] s) x1 x2 s) : AtS F 108 [(0, .ref (F.2.1.1 10)), (1, vI x1), (2, vI x2)] [] s := by
  unfold B_Md_looks_108 at h
  refine r_iload_n ok 2 d_Md_looks_108 rfl rfl ?_
  refine r_iload_n ok 1 d_Md_looks_109 rfl rfl ?_
  refine r_icmp_ge ok 319 d_Md_looks_110 (by decide) h.1 h.2.1 (fun c => ?_) (fun c => ?_)
  · replace h := h.2.2.1 c
    refine r_aload_n ok 0 d_Md_looks_319 rfl rfl ?_
    refine r_callVv (As := []) (rest := []) ok 10 rfl rfl rfl wl_Md_257 wi_y_Md_findPersons ws_y_Md_findPersons wn_Md wc_y_Md_findPersons (by decide) (by decide) hh_Md_findPersons (Nat.le_of_ble_eq_true rfl) rfl d_Md_looks_320 (L_Md_findPersons F.1 F.2.1 F.2.2.1 hD h) (fun s15 h => ?_)
    refine r_iconst ok 0 d_Md_looks_323 rfl ?_
    refine r_istore_n ok [(2, vI 0), (0, .ref (F.2.1.1 10)), (1, vI x1)] d_Md_looks_324 rfl hm (by decide) rfl ?_
    exact r_sub [1, 0] rfl h
  · replace h := h.2.2.2 c
    refine r_aload_n ok 0 d_Md_looks_113 rfl rfl ?_
    refine g_Md_entryA ok d_Md_looks_114 ?_
    refine r_iload_n ok 2 d_Md_looks_117 rfl rfl ?_
    refine r_iald ok 61 d_Md_looks_118 (by decide) rfl h.1 ?_
    replace h := h.2
    refine r_istore_n ok [(3, vI (s.2 61 x2)), (0, .ref (F.2.1.1 10)), (1, vI x1), (2, vI x2)] d_Md_looks_119 rfl hm (by decide) rfl ?_
    refine r_aload_n ok 1 d_Md_looks_120 rfl rfl ?_
    refine g_Md_entryB ok d_Md_looks_121 ?_
    refine r_iload_n ok 3 d_Md_looks_124 rfl rfl ?_
    refine r_iald ok 62 d_Md_looks_125 (by decide) rfl h.1 ?_
    replace h := h.2
    refine r_istore ok [(4, vI (s.2 62 x2)), (3, vI (s.2 61 x2)), (0, .ref (F.2.1.1 10)), (1, vI x1), (2, vI x2)] d_Md_looks_126 hm (by decide) rfl ?_
    refine r_aload_n ok 2 d_Md_looks_128 rfl rfl ?_
    refine g_Md_entryIs ok d_Md_looks_129 ?_
    refine r_iload_n ok 4 d_Md_looks_132 rfl rfl ?_
    refine r_iald ok 60 d_Md_looks_133 (by decide) rfl h.1 ?_
    replace h := h.2
    refine r_iconst ok 1 d_Md_looks_134 rfl ?_
    refine r_icmp_ne ok 148 d_Md_looks_135 (by decide) h.1 (by decide) (fun c => ?_) (fun c => ?_)
    · replace h := h.2.1 c
      refine r_aload_n ok 2 d_Md_looks_148 rfl rfl ?_
      refine g_Md_entryIs ok d_Md_looks_149 ?_
      refine r_iload_n ok 4 d_Md_looks_152 rfl rfl ?_
      refine r_iald ok 60 d_Md_looks_153 (by decide) rfl h.1 ?_
      replace h := h.2
      refine r_iconst ok 4 d_Md_looks_154 rfl ?_
      refine r_icmp_ne ok 168 d_Md_looks_155 (by decide) h.1 (by decide) (fun c => ?_) (fun c => ?_)
      · replace h := h.2.1 c
        exact r_sub [2, 3, 4, 1, 0] rfl h
      · replace h := h.2.2 c
        refine r_aload_n ok 2 d_Md_looks_158 rfl rfl ?_
        refine r_dup ok d_Md_looks_159 rfl ?_
        refine g_Md_seenWords ok d_Md_looks_160 ?_
        refine r_iconst ok 1 d_Md_looks_163 rfl ?_
        refine r_iadd ok d_Md_looks_164 ?_
        refine p_Md_seenWords ok d_Md_looks_165 ?_
        replace h := h _ rfl
        generalize sF s 34 ((s.1 34) + 1) = s16 at h ⊢
        exact r_sub [2, 3, 4, 1, 0] rfl h
    · replace h := h.2.2 c
      refine r_aload_n ok 2 d_Md_looks_138 rfl rfl ?_
      refine r_dup ok d_Md_looks_139 rfl ?_
      refine g_Md_seenNames ok d_Md_looks_140 ?_
      refine r_iconst ok 1 d_Md_looks_143 rfl ?_
      refine r_iadd ok d_Md_looks_144 ?_
      refine p_Md_seenNames ok d_Md_looks_145 ?_
      replace h := h _ rfl
      generalize sF s 33 ((s.1 33) + 1) = s17 at h ⊢
      refine r_aload_n ok 2 d_Md_looks_148 rfl rfl ?_
      refine g_Md_entryIs ok d_Md_looks_149 ?_
      refine r_iload_n ok 4 d_Md_looks_152 rfl rfl ?_
      refine r_iald ok 60 d_Md_looks_153 (by decide) rfl h.1 ?_
      replace h := h.2
      refine r_iconst ok 4 d_Md_looks_154 rfl ?_
      refine r_icmp_ne ok 168 d_Md_looks_155 (by decide) h.1 (by decide) (fun c => ?_) (fun c => ?_)
      · replace h := h.2.1 c
        exact r_sub [2, 3, 4, 1, 0] rfl h
      · replace h := h.2.2 c
        refine r_aload_n ok 2 d_Md_looks_158 rfl rfl ?_
        refine r_dup ok d_Md_looks_159 rfl ?_
        refine g_Md_seenWords ok d_Md_looks_160 ?_
        refine r_iconst ok 1 d_Md_looks_163 rfl ?_
        refine r_iadd ok d_Md_looks_164 ?_
        refine p_Md_seenWords ok d_Md_looks_165 ?_
        replace h := h _ rfl
        generalize sF s17 34 ((s17.1 34) + 1) = s18 at h ⊢
        exact r_sub [2, 3, 4, 1, 0] rfl h
set_option maxHeartbeats 4000000 in
set_option maxRecDepth 100000 in
theorem K_Md_looks_168 {F : FT} (hD : ∀ σ, va_D F.2.2.1 (GW F.2.1 σ)) (hm : F.2.2.2.2.2.2.2.2.2.2.2.2.2.2.1 = 6) (ok : OkF F prog_12_method_23_code "LastSeenModel" ({ frames := 1, cells := 0, slots := 0, locals := 24 } : Room)) {Q : SS → Prop} (hQ : RetV F Q) {x1 x2 x3 x4 : Int} {s : SS} (h : B_Md_looks_168 Q (fun x1 x2 s => AtS F 17 [(0, .ref (F.2.1.1 10)), (1, vI x1), (2, vI x2)] [] s) (fun x1 x2 s => AtS F 87 [(0, .ref (F.2.1.1 10)), (1, vI x1), (2, vI x2)] [] s) (fun x1 x2 s => AtS F 108 [(0, .ref (F.2.1.1 10)), (1, vI x1), (2, vI x2)] [] s) (fun x1 x2 x3 x4 s => AtS F 168 [(0, .ref (F.2.1.1 10)), (1, vI x1), (2, vI x2), (3, vI x3), (4, vI x4)] [] s) (fun x1 x2 x3 x4 s => AtS F 201 [(0, .ref (F.2.1.1 10)), (1, vI x1), (2, vI x2), (3, vI x3), (4, vI x4)] [] s) (fun x1 x2 x3 x4 y0 s => AtS F 239 [(0, .ref (F.2.1.1 10)), (1, vI x1), (2, vI x2), (3, vI x3), (4, vI x4)] [vI y0] s) (fun x1 x2 x3 x4 x5 y0 y1 s => AtS F 290 [(0, .ref (F.2.1.1 10)), (1, vI x1), (2, vI x2), (3, vI x3), (4, vI x4), (5, vI x5)] [vI y0, vI y1, .ref (F.2.1.1 79)] s) (fun x2 s => AtS F 325 [(0, .ref (F.2.1.1 10)), (2, vI x2)] [] s) (fun x2 s => AtS F 387 [(0, .ref (F.2.1.1 10)), (2, vI x2)] [] s) x1 x2 x3 x4 s) : AtS F 168 [(0, .ref (F.2.1.1 10)), (1, vI x1), (2, vI x2), (3, vI x3), (4, vI x4)] [] s := by
  unfold B_Md_looks_168 at h
  refine r_aload_n ok 0 d_Md_looks_168 rfl rfl ?_
  refine g_Md_entryIs ok d_Md_looks_169 ?_
  refine r_iload_n ok 2 d_Md_looks_172 rfl rfl ?_
  refine r_iald ok 60 d_Md_looks_173 (by decide) rfl h.1 ?_
  replace h := h.2
  refine r_bipush ok 6 d_Md_looks_174 (by decide) ?_
  refine r_icmp_ne ok 184 d_Md_looks_176 (by decide) h.1 (by decide) (fun c => ?_) (fun c => ?_)
  · replace h := h.2.1 c
    refine r_aload_n ok 0 d_Md_looks_184 rfl rfl ?_
    refine g_Md_entryIs ok d_Md_looks_185 ?_
    refine r_iload_n ok 2 d_Md_looks_188 rfl rfl ?_
    refine r_iald ok 60 d_Md_looks_189 (by decide) rfl h.1 ?_
    replace h := h.2
    refine r_iconst ok 5 d_Md_looks_190 rfl ?_
    refine r_icmp_ne ok 201 d_Md_looks_191 (by decide) h.1 (by decide) (fun c => ?_) (fun c => ?_)
    · replace h := h.2.1 c
      exact r_sub [0, 1, 2, 3, 4] rfl h
    · replace h := h.2.2 c
      refine r_aload_n ok 0 d_Md_looks_194 rfl rfl ?_
      refine g_Md_isGone ok d_Md_looks_195 ?_
      refine r_iload_n ok 3 d_Md_looks_198 rfl rfl ?_
      refine r_iconst ok 1 d_Md_looks_199 rfl ?_
      refine r_zast ok 69 d_Md_looks_200 (by decide) rfl h.1 (by decide) ?_
      replace h := h.2 _ rfl
      generalize sA s 69 x3 1 = s23 at h ⊢
      exact r_sub [0, 1, 2, 3, 4] rfl h
  · replace h := h.2.2 c
    refine r_aload_n ok 0 d_Md_looks_179 rfl rfl ?_
    refine r_iload_n ok 3 d_Md_looks_180 rfl rfl ?_
    refine p_Md_seenRule ok d_Md_looks_181 ?_
    replace h := h _ rfl
    generalize sF s 35 x3 = s24 at h ⊢
    refine r_aload_n ok 0 d_Md_looks_184 rfl rfl ?_
    refine g_Md_entryIs ok d_Md_looks_185 ?_
    refine r_iload_n ok 2 d_Md_looks_188 rfl rfl ?_
    refine r_iald ok 60 d_Md_looks_189 (by decide) rfl h.1 ?_
    replace h := h.2
    refine r_iconst ok 5 d_Md_looks_190 rfl ?_
    refine r_icmp_ne ok 201 d_Md_looks_191 (by decide) h.1 (by decide) (fun c => ?_) (fun c => ?_)
    · replace h := h.2.1 c
      exact r_sub [0, 1, 2, 3, 4] rfl h
    · replace h := h.2.2 c
      refine r_aload_n ok 0 d_Md_looks_194 rfl rfl ?_
      refine g_Md_isGone ok d_Md_looks_195 ?_
      refine r_iload_n ok 3 d_Md_looks_198 rfl rfl ?_
      refine r_iconst ok 1 d_Md_looks_199 rfl ?_
      refine r_zast ok 69 d_Md_looks_200 (by decide) rfl h.1 (by decide) ?_
      replace h := h.2 _ rfl
      generalize sA s24 69 x3 1 = s25 at h ⊢
      exact r_sub [0, 1, 2, 3, 4] rfl h
set_option maxHeartbeats 4000000 in
set_option maxRecDepth 100000 in
theorem K_Md_looks_201 {F : FT} (hD : ∀ σ, va_D F.2.2.1 (GW F.2.1 σ)) (hm : F.2.2.2.2.2.2.2.2.2.2.2.2.2.2.1 = 6) (ok : OkF F prog_12_method_23_code "LastSeenModel" ({ frames := 1, cells := 0, slots := 0, locals := 24 } : Room)) {Q : SS → Prop} (hQ : RetV F Q) {x1 x2 x3 x4 : Int} {s : SS} (h : B_Md_looks_201 Q (fun x1 x2 s => AtS F 17 [(0, .ref (F.2.1.1 10)), (1, vI x1), (2, vI x2)] [] s) (fun x1 x2 s => AtS F 87 [(0, .ref (F.2.1.1 10)), (1, vI x1), (2, vI x2)] [] s) (fun x1 x2 s => AtS F 108 [(0, .ref (F.2.1.1 10)), (1, vI x1), (2, vI x2)] [] s) (fun x1 x2 x3 x4 s => AtS F 168 [(0, .ref (F.2.1.1 10)), (1, vI x1), (2, vI x2), (3, vI x3), (4, vI x4)] [] s) (fun x1 x2 x3 x4 s => AtS F 201 [(0, .ref (F.2.1.1 10)), (1, vI x1), (2, vI x2), (3, vI x3), (4, vI x4)] [] s) (fun x1 x2 x3 x4 y0 s => AtS F 239 [(0, .ref (F.2.1.1 10)), (1, vI x1), (2, vI x2), (3, vI x3), (4, vI x4)] [vI y0] s) (fun x1 x2 x3 x4 x5 y0 y1 s => AtS F 290 [(0, .ref (F.2.1.1 10)), (1, vI x1), (2, vI x2), (3, vI x3), (4, vI x4), (5, vI x5)] [vI y0, vI y1, .ref (F.2.1.1 79)] s) (fun x2 s => AtS F 325 [(0, .ref (F.2.1.1 10)), (2, vI x2)] [] s) (fun x2 s => AtS F 387 [(0, .ref (F.2.1.1 10)), (2, vI x2)] [] s) x1 x2 x3 x4 s) : AtS F 201 [(0, .ref (F.2.1.1 10)), (1, vI x1), (2, vI x2), (3, vI x3), (4, vI x4)] [] s := by
  unfold B_Md_looks_201 at h
  refine r_aload_n ok 0 d_Md_looks_201 rfl rfl ?_
  refine g_Md_entryIs ok d_Md_looks_202 ?_
  refine r_iload_n ok 2 d_Md_looks_205 rfl rfl ?_
  refine r_iald ok 60 d_Md_looks_206 (by decide) rfl h.1 ?_
  replace h := h.2
  refine r_iconst ok 2 d_Md_looks_207 rfl ?_
  refine r_icmp_eq ok 224 d_Md_looks_208 (by decide) h.1 (by decide) (fun c => ?_) (fun c => ?_)
  · replace h := h.2.1 c
    refine r_aload_n ok 0 d_Md_looks_224 rfl rfl ?_
    refine g_Md_entryIs ok d_Md_looks_225 ?_
    refine r_iload_n ok 2 d_Md_looks_228 rfl rfl ?_
    refine r_iald ok 60 d_Md_looks_229 (by decide) rfl h.1 ?_
    replace h := h.2
    refine r_iconst ok 2 d_Md_looks_230 rfl ?_
    refine r_icmp_ne ok 238 d_Md_looks_231 (by decide) h.1 (by decide) (fun c => ?_) (fun c => ?_)
    · replace h := h.2.1 c
      refine r_iconst ok 0 d_Md_looks_238 rfl ?_
      exact r_sub [0, 1, 2, 3, 4] rfl h
    · replace h := h.2.2 c
      refine r_iconst ok 1 d_Md_looks_234 rfl ?_
      refine r_goto ok 239 d_Md_looks_235 (by decide) ?_
      exact r_sub [0, 1, 2, 3, 4] rfl h
  · replace h := h.2.2 c
    refine r_aload_n ok 0 d_Md_looks_211 rfl rfl ?_
    refine g_Md_entryIs ok d_Md_looks_212 ?_
    refine r_iload_n ok 2 d_Md_looks_215 rfl rfl ?_
    refine r_iald ok 60 d_Md_looks_216 (by decide) rfl h.1 ?_
    replace h := h.2
    refine r_iconst ok 3 d_Md_looks_217 rfl ?_
    refine r_icmp_eq ok 224 d_Md_looks_218 (by decide) h.1 (by decide) (fun c => ?_) (fun c => ?_)
    · replace h := h.2.1 c
      refine r_aload_n ok 0 d_Md_looks_224 rfl rfl ?_
      refine g_Md_entryIs ok d_Md_looks_225 ?_
      refine r_iload_n ok 2 d_Md_looks_228 rfl rfl ?_
      refine r_iald ok 60 d_Md_looks_229 (by decide) rfl h.1 ?_
      replace h := h.2
      refine r_iconst ok 2 d_Md_looks_230 rfl ?_
      refine r_icmp_ne ok 238 d_Md_looks_231 (by decide) h.1 (by decide) (fun c => ?_) (fun c => ?_)
      · replace h := h.2.1 c
        refine r_iconst ok 0 d_Md_looks_238 rfl ?_
        exact r_sub [0, 1, 2, 3, 4] rfl h
      · replace h := h.2.2 c
        refine r_iconst ok 1 d_Md_looks_234 rfl ?_
        refine r_goto ok 239 d_Md_looks_235 (by decide) ?_
        exact r_sub [0, 1, 2, 3, 4] rfl h
    · replace h := h.2.2 c
      refine r_goto ok 313 d_Md_looks_221 (by decide) ?_
      refine r_iinc ok 2 (x2 + 1) [(2, vI (x2 + 1)), (0, .ref (F.2.1.1 10)), (1, vI x1), (3, vI x3), (4, vI x4)] d_Md_looks_313 rfl rfl hm (by decide) rfl ?_
      refine r_goto ok 108 d_Md_looks_316 (by decide) ?_
      exact r_sub [1, 2, 0] rfl h
set_option maxHeartbeats 4000000 in
set_option maxRecDepth 100000 in
theorem K_Md_looks_239 {F : FT} (hD : ∀ σ, va_D F.2.2.1 (GW F.2.1 σ)) (hm : F.2.2.2.2.2.2.2.2.2.2.2.2.2.2.1 = 6) (ok : OkF F prog_12_method_23_code "LastSeenModel" ({ frames := 1, cells := 0, slots := 0, locals := 24 } : Room)) {Q : SS → Prop} (hQ : RetV F Q) {x1 x2 x3 x4 y0 : Int} {s : SS} (h : B_Md_looks_239 Q (fun x1 x2 s => AtS F 17 [(0, .ref (F.2.1.1 10)), (1, vI x1), (2, vI x2)] [] s) (fun x1 x2 s => AtS F 87 [(0, .ref (F.2.1.1 10)), (1, vI x1), (2, vI x2)] [] s) (fun x1 x2 s => AtS F 108 [(0, .ref (F.2.1.1 10)), (1, vI x1), (2, vI x2)] [] s) (fun x1 x2 x3 x4 s => AtS F 168 [(0, .ref (F.2.1.1 10)), (1, vI x1), (2, vI x2), (3, vI x3), (4, vI x4)] [] s) (fun x1 x2 x3 x4 s => AtS F 201 [(0, .ref (F.2.1.1 10)), (1, vI x1), (2, vI x2), (3, vI x3), (4, vI x4)] [] s) (fun x1 x2 x3 x4 y0 s => AtS F 239 [(0, .ref (F.2.1.1 10)), (1, vI x1), (2, vI x2), (3, vI x3), (4, vI x4)] [vI y0] s) (fun x1 x2 x3 x4 x5 y0 y1 s => AtS F 290 [(0, .ref (F.2.1.1 10)), (1, vI x1), (2, vI x2), (3, vI x3), (4, vI x4), (5, vI x5)] [vI y0, vI y1, .ref (F.2.1.1 79)] s) (fun x2 s => AtS F 325 [(0, .ref (F.2.1.1 10)), (2, vI x2)] [] s) (fun x2 s => AtS F 387 [(0, .ref (F.2.1.1 10)), (2, vI x2)] [] s) x1 x2 x3 x4 y0 s) : AtS F 239 [(0, .ref (F.2.1.1 10)), (1, vI x1), (2, vI x2), (3, vI x3), (4, vI x4)] [vI y0] s := by
  unfold B_Md_looks_239 at h
  refine r_istore ok [(5, vI y0), (0, .ref (F.2.1.1 10)), (1, vI x1), (2, vI x2), (3, vI x3), (4, vI x4)] d_Md_looks_239 hm (by decide) rfl ?_
  refine r_aload_n ok 1 d_Md_looks_241 rfl rfl ?_
  refine g_Md_isLinked ok d_Md_looks_242 ?_
  refine r_bipush ok 20 d_Md_looks_245 (by decide) ?_
  refine r_iload_n ok 4 d_Md_looks_247 rfl rfl ?_
  refine r_imul ok d_Md_looks_248 ?_
  refine r_iload ok 5 d_Md_looks_249 rfl ?_
  refine r_iadd ok d_Md_looks_251 ?_
  refine r_iload ok 0 d_Md_looks_252 rfl ?_
  refine r_zast ok 67 d_Md_looks_254 (by decide) rfl h.1 h.2.1 ?_
  replace h := h.2.2 _ rfl
  generalize sA s 67 ((20 * x3) + x4) y0 = s27 at h ⊢
  refine r_aload_n ok 1 d_Md_looks_255 rfl rfl ?_
  refine g_Md_isLinked ok d_Md_looks_256 ?_
  refine r_bipush ok 20 d_Md_looks_259 (by decide) ?_
  refine r_iload ok 5 d_Md_looks_261 rfl ?_
  refine r_imul ok d_Md_looks_263 ?_
  refine r_iload_n ok 4 d_Md_looks_264 rfl rfl ?_
  refine r_iadd ok d_Md_looks_265 ?_
  refine r_iload ok 0 d_Md_looks_266 rfl ?_
  refine r_zast ok 67 d_Md_looks_268 (by decide) rfl h.1 h.2.1 ?_
  replace h := h.2.2 _ rfl
  generalize sA s27 67 ((20 * x4) + x3) y0 = s28 at h ⊢
  refine r_aload_n ok 1 d_Md_looks_269 rfl rfl ?_
  refine g_Md_isParted ok d_Md_looks_270 ?_
  refine r_bipush ok 20 d_Md_looks_273 (by decide) ?_
  refine r_iload_n ok 4 d_Md_looks_275 rfl rfl ?_
  refine r_imul ok d_Md_looks_276 ?_
  refine r_iload ok 5 d_Md_looks_277 rfl ?_
  refine r_iadd ok d_Md_looks_279 ?_
  refine r_iload ok 0 d_Md_looks_280 rfl ?_
  refine r_if_ne ok 289 d_Md_looks_282 (by decide) h.1 (fun c => ?_) (fun c => ?_)
  · replace h := h.2.1 c
    refine r_iconst ok 0 d_Md_looks_289 rfl ?_
    exact r_sub [1, 2, 3, 4, 5, 0] rfl h
  · replace h := h.2.2 c
    refine r_iconst ok 1 d_Md_looks_285 rfl ?_
    refine r_goto ok 290 d_Md_looks_286 (by decide) ?_
    exact r_sub [1, 2, 3, 4, 5, 0] rfl h
set_option maxHeartbeats 4000000 in
set_option maxRecDepth 100000 in
theorem K_Md_looks_290 {F : FT} (hD : ∀ σ, va_D F.2.2.1 (GW F.2.1 σ)) (hm : F.2.2.2.2.2.2.2.2.2.2.2.2.2.2.1 = 6) (ok : OkF F prog_12_method_23_code "LastSeenModel" ({ frames := 1, cells := 0, slots := 0, locals := 24 } : Room)) {Q : SS → Prop} (hQ : RetV F Q) {x1 x2 x3 x4 x5 y0 y1 : Int} {s : SS} (h : B_Md_looks_290 Q (fun x1 x2 s => AtS F 17 [(0, .ref (F.2.1.1 10)), (1, vI x1), (2, vI x2)] [] s) (fun x1 x2 s => AtS F 87 [(0, .ref (F.2.1.1 10)), (1, vI x1), (2, vI x2)] [] s) (fun x1 x2 s => AtS F 108 [(0, .ref (F.2.1.1 10)), (1, vI x1), (2, vI x2)] [] s) (fun x1 x2 x3 x4 s => AtS F 168 [(0, .ref (F.2.1.1 10)), (1, vI x1), (2, vI x2), (3, vI x3), (4, vI x4)] [] s) (fun x1 x2 x3 x4 s => AtS F 201 [(0, .ref (F.2.1.1 10)), (1, vI x1), (2, vI x2), (3, vI x3), (4, vI x4)] [] s) (fun x1 x2 x3 x4 y0 s => AtS F 239 [(0, .ref (F.2.1.1 10)), (1, vI x1), (2, vI x2), (3, vI x3), (4, vI x4)] [vI y0] s) (fun x1 x2 x3 x4 x5 y0 y1 s => AtS F 290 [(0, .ref (F.2.1.1 10)), (1, vI x1), (2, vI x2), (3, vI x3), (4, vI x4), (5, vI x5)] [vI y0, vI y1, .ref (F.2.1.1 79)] s) (fun x2 s => AtS F 325 [(0, .ref (F.2.1.1 10)), (2, vI x2)] [] s) (fun x2 s => AtS F 387 [(0, .ref (F.2.1.1 10)), (2, vI x2)] [] s) x1 x2 x3 x4 x5 y0 y1 s) : AtS F 290 [(0, .ref (F.2.1.1 10)), (1, vI x1), (2, vI x2), (3, vI x3), (4, vI x4), (5, vI x5)] [vI y0, vI y1, .ref (F.2.1.1 79)] s := by
  unfold B_Md_looks_290 at h
  refine r_zast ok 68 d_Md_looks_290 (by decide) rfl h.1 h.2.1 ?_
  replace h := h.2.2 _ rfl
  generalize sA s 68 y1 y0 = s29 at h ⊢
  refine r_aload_n ok 0 d_Md_looks_291 rfl rfl ?_
  refine g_Md_isParted ok d_Md_looks_292 ?_
  refine r_bipush ok 20 d_Md_looks_295 (by decide) ?_
  refine r_iload ok 4 d_Md_looks_297 rfl ?_
  refine r_imul ok d_Md_looks_299 ?_
  refine r_iload_n ok 3 d_Md_looks_300 rfl rfl ?_
  refine r_iadd ok d_Md_looks_301 ?_
  refine r_iload ok 5 d_Md_looks_302 rfl ?_
  refine r_if_ne ok 311 d_Md_looks_304 (by decide) h.1 (fun c => ?_) (fun c => ?_)
  · replace h := h.2.1 c
    refine r_iconst ok 0 d_Md_looks_311 rfl ?_
    refine r_zast ok 68 d_Md_looks_312 (by decide) rfl h.1 (by decide) ?_
    replace h := h.2 _ rfl
    generalize sA s29 68 ((20 * x4) + x3) 0 = s30 at h ⊢
    refine r_iinc ok 2 (x2 + 1) [(2, vI (x2 + 1)), (0, .ref (F.2.1.1 10)), (1, vI x1), (3, vI x3), (4, vI x4), (5, vI x5)] d_Md_looks_313 rfl rfl hm (by decide) rfl ?_
    refine r_goto ok 108 d_Md_looks_316 (by decide) ?_
    exact r_sub [1, 2, 0] rfl h
  · replace h := h.2.2 c
    refine r_iconst ok 1 d_Md_looks_307 rfl ?_
    refine r_goto ok 312 d_Md_looks_308 (by decide) ?_
    refine r_zast ok 68 d_Md_looks_312 (by decide) rfl h.1 (by decide) ?_
    replace h := h.2 _ rfl
    generalize sA s29 68 ((20 * x4) + x3) 1 = s31 at h ⊢
    refine r_iinc ok 2 (x2 + 1) [(2, vI (x2 + 1)), (0, .ref (F.2.1.1 10)), (1, vI x1), (3, vI x3), (4, vI x4), (5, vI x5)] d_Md_looks_313 rfl rfl hm (by decide) rfl ?_
    refine r_goto ok 108 d_Md_looks_316 (by decide) ?_
    exact r_sub [1, 2, 0] rfl h
set_option maxHeartbeats 4000000 in
set_option maxRecDepth 100000 in
theorem K_Md_looks_325 {F : FT} (hD : ∀ σ, va_D F.2.2.1 (GW F.2.1 σ)) (hm : F.2.2.2.2.2.2.2.2.2.2.2.2.2.2.1 = 6) (ok : OkF F prog_12_method_23_code "LastSeenModel" ({ frames := 1, cells := 0, slots := 0, locals := 24 } : Room)) {Q : SS → Prop} (hQ : RetV F Q) {x2 : Int} {s : SS} (h : B_Md_looks_325 Q (fun x1 x2 s => AtS F 17 [(0, .ref (F.2.1.1 10)), (1, vI x1), (2, vI x2)] [] s) (fun x1 x2 s => AtS F 87 [(0, .ref (F.2.1.1 10)), (1, vI x1), (2, vI x2)] [] s) (fun x1 x2 s => AtS F 108 [(0, .ref (F.2.1.1 10)), (1, vI x1), (2, vI x2)] [] s) (fun x1 x2 x3 x4 s => AtS F 168 [(0, .ref (F.2.1.1 10)), (1, vI x1), (2, vI x2), (3, vI x3), (4, vI x4)] [] s) (fun x1 x2 x3 x4 s => AtS F 201 [(0, .ref (F.2.1.1 10)), (1, vI x1), (2, vI x2), (3, vI x3), (4, vI x4)] [] s) (fun x1 x2 x3 x4 y0 s => AtS F 239 [(0, .ref (F.2.1.1 10)), (1, vI x1), (2, vI x2), (3, vI x3), (4, vI x4)] [vI y0] s) (fun x1 x2 x3 x4 x5 y0 y1 s => AtS F 290 [(0, .ref (F.2.1.1 10)), (1, vI x1), (2, vI x2), (3, vI x3), (4, vI x4), (5, vI x5)] [vI y0, vI y1, .ref (F.2.1.1 79)] s) (fun x2 s => AtS F 325 [(0, .ref (F.2.1.1 10)), (2, vI x2)] [] s) (fun x2 s => AtS F 387 [(0, .ref (F.2.1.1 10)), (2, vI x2)] [] s) x2 s) : AtS F 325 [(0, .ref (F.2.1.1 10)), (2, vI x2)] [] s := by
  unfold B_Md_looks_325 at h
  refine r_iload_n ok 1 d_Md_looks_325 rfl rfl ?_
  refine r_aload_n ok 0 d_Md_looks_326 rfl rfl ?_
  refine g_Md_seenWords ok d_Md_looks_327 ?_
  refine r_icmp_ge ok 382 d_Md_looks_330 (by decide) h.1 h.2.1 (fun c => ?_) (fun c => ?_)
  · replace h := h.2.2.1 c
    refine r_aload_n ok 0 d_Md_looks_382 rfl rfl ?_
    refine g_Md_seenWords ok d_Md_looks_383 ?_
    refine r_istore_n ok [(2, vI (s.1 34)), (0, .ref (F.2.1.1 10))] d_Md_looks_386 rfl hm (by decide) rfl ?_
    exact r_sub [1, 0] rfl h
  · replace h := h.2.2.2 c
    refine r_aload_n ok 0 d_Md_looks_333 rfl rfl ?_
    refine g_Md_stands ok d_Md_looks_334 ?_
    refine r_iload_n ok 1 d_Md_looks_337 rfl rfl ?_
    refine r_aload_n ok 0 d_Md_looks_338 rfl rfl ?_
    refine g_Md_isGone ok d_Md_looks_339 ?_
    refine r_iload_n ok 1 d_Md_looks_342 rfl rfl ?_
    refine r_zald ok 69 d_Md_looks_343 (by decide) rfl h.1 ?_
    replace h := h.2
    refine r_if_ne ok 374 d_Md_looks_344 (by decide) h.1 (fun c => ?_) (fun c => ?_)
    · replace h := h.2.1 c
      refine r_iconst ok 0 d_Md_looks_374 rfl ?_
      refine r_zast ok 70 d_Md_looks_375 (by decide) rfl h.1 (by decide) ?_
      replace h := h.2 _ rfl
      generalize sA s 70 x2 0 = s19 at h ⊢
      refine r_iinc ok 1 (x2 + 1) [(2, vI (x2 + 1)), (0, .ref (F.2.1.1 10))] d_Md_looks_376 rfl rfl hm (by decide) rfl ?_
      refine r_goto ok 325 d_Md_looks_379 (by decide) ?_
      exact r_sub [1, 0] rfl h
    · replace h := h.2.2 c
      refine r_aload_n ok 0 d_Md_looks_347 rfl rfl ?_
      refine g_Md_heardOf ok d_Md_looks_348 ?_
      refine r_iload_n ok 1 d_Md_looks_351 rfl rfl ?_
      refine r_iald ok 80 d_Md_looks_352 (by decide) rfl h.1 ?_
      replace h := h.2
      refine r_if_lt ok 370 d_Md_looks_353 (by decide) h.1 (fun c => ?_) (fun c => ?_)
      · replace h := h.2.1 c
        refine r_iconst ok 1 d_Md_looks_370 rfl ?_
        refine r_goto ok 375 d_Md_looks_371 (by decide) ?_
        refine r_zast ok 70 d_Md_looks_375 (by decide) rfl h.1 (by decide) ?_
        replace h := h.2 _ rfl
        generalize sA s 70 x2 1 = s20 at h ⊢
        refine r_iinc ok 1 (x2 + 1) [(2, vI (x2 + 1)), (0, .ref (F.2.1.1 10))] d_Md_looks_376 rfl rfl hm (by decide) rfl ?_
        refine r_goto ok 325 d_Md_looks_379 (by decide) ?_
        exact r_sub [1, 0] rfl h
      · replace h := h.2.2 c
        refine r_aload_n ok 0 d_Md_looks_356 rfl rfl ?_
        refine g_Md_stands ok d_Md_looks_357 ?_
        refine r_aload_n ok 0 d_Md_looks_360 rfl rfl ?_
        refine g_Md_heardOf ok d_Md_looks_361 ?_
        refine r_iload_n ok 1 d_Md_looks_364 rfl rfl ?_
        refine r_iald ok 80 d_Md_looks_365 (by decide) rfl h.1 ?_
        replace h := h.2
        refine r_zald ok 70 d_Md_looks_366 (by decide) rfl h.1 ?_
        replace h := h.2
        refine r_if_eq ok 374 d_Md_looks_367 (by decide) h.1 (fun c => ?_) (fun c => ?_)
        · replace h := h.2.1 c
          refine r_iconst ok 0 d_Md_looks_374 rfl ?_
          refine r_zast ok 70 d_Md_looks_375 (by decide) rfl h.1 (by decide) ?_
          replace h := h.2 _ rfl
          generalize sA s 70 x2 0 = s21 at h ⊢
          refine r_iinc ok 1 (x2 + 1) [(2, vI (x2 + 1)), (0, .ref (F.2.1.1 10))] d_Md_looks_376 rfl rfl hm (by decide) rfl ?_
          refine r_goto ok 325 d_Md_looks_379 (by decide) ?_
          exact r_sub [1, 0] rfl h
        · replace h := h.2.2 c
          refine r_iconst ok 1 d_Md_looks_370 rfl ?_
          refine r_goto ok 375 d_Md_looks_371 (by decide) ?_
          refine r_zast ok 70 d_Md_looks_375 (by decide) rfl h.1 (by decide) ?_
          replace h := h.2 _ rfl
          generalize sA s 70 x2 1 = s22 at h ⊢
          refine r_iinc ok 1 (x2 + 1) [(2, vI (x2 + 1)), (0, .ref (F.2.1.1 10))] d_Md_looks_376 rfl rfl hm (by decide) rfl ?_
          refine r_goto ok 325 d_Md_looks_379 (by decide) ?_
          exact r_sub [1, 0] rfl h
set_option maxHeartbeats 4000000 in
set_option maxRecDepth 100000 in
theorem K_Md_looks_387 {F : FT} (hD : ∀ σ, va_D F.2.2.1 (GW F.2.1 σ)) (hm : F.2.2.2.2.2.2.2.2.2.2.2.2.2.2.1 = 6) (ok : OkF F prog_12_method_23_code "LastSeenModel" ({ frames := 1, cells := 0, slots := 0, locals := 24 } : Room)) {Q : SS → Prop} (hQ : RetV F Q) {x2 : Int} {s : SS} (h : B_Md_looks_387 Q (fun x1 x2 s => AtS F 17 [(0, .ref (F.2.1.1 10)), (1, vI x1), (2, vI x2)] [] s) (fun x1 x2 s => AtS F 87 [(0, .ref (F.2.1.1 10)), (1, vI x1), (2, vI x2)] [] s) (fun x1 x2 s => AtS F 108 [(0, .ref (F.2.1.1 10)), (1, vI x1), (2, vI x2)] [] s) (fun x1 x2 x3 x4 s => AtS F 168 [(0, .ref (F.2.1.1 10)), (1, vI x1), (2, vI x2), (3, vI x3), (4, vI x4)] [] s) (fun x1 x2 x3 x4 s => AtS F 201 [(0, .ref (F.2.1.1 10)), (1, vI x1), (2, vI x2), (3, vI x3), (4, vI x4)] [] s) (fun x1 x2 x3 x4 y0 s => AtS F 239 [(0, .ref (F.2.1.1 10)), (1, vI x1), (2, vI x2), (3, vI x3), (4, vI x4)] [vI y0] s) (fun x1 x2 x3 x4 x5 y0 y1 s => AtS F 290 [(0, .ref (F.2.1.1 10)), (1, vI x1), (2, vI x2), (3, vI x3), (4, vI x4), (5, vI x5)] [vI y0, vI y1, .ref (F.2.1.1 79)] s) (fun x2 s => AtS F 325 [(0, .ref (F.2.1.1 10)), (2, vI x2)] [] s) (fun x2 s => AtS F 387 [(0, .ref (F.2.1.1 10)), (2, vI x2)] [] s) x2 s) : AtS F 387 [(0, .ref (F.2.1.1 10)), (2, vI x2)] [] s := by
  unfold B_Md_looks_387 at h
  refine r_iload_n ok 1 d_Md_looks_387 rfl rfl ?_
  refine r_bipush ok 40 d_Md_looks_388 (by decide) ?_
  refine r_icmp_ge ok 406 d_Md_looks_390 (by decide) h.1 (by decide) (fun c => ?_) (fun c => ?_)
  · replace h := h.2.1 c
    exact hQ _ _ _ _ (ok_code ok) d_Md_looks_406 h
  · replace h := h.2.2 c
    refine r_aload_n ok 0 d_Md_looks_393 rfl rfl ?_
    refine g_Md_stands ok d_Md_looks_394 ?_
    refine r_iload_n ok 1 d_Md_looks_397 rfl rfl ?_
    refine r_iconst ok 0 d_Md_looks_398 rfl ?_
    refine r_zast ok 70 d_Md_looks_399 (by decide) rfl h.1 (by decide) ?_
    replace h := h.2 _ rfl
    generalize sA s 70 x2 0 = s26 at h ⊢
    refine r_iinc ok 1 (x2 + 1) [(2, vI (x2 + 1)), (0, .ref (F.2.1.1 10))] d_Md_looks_400 rfl rfl hm (by decide) rfl ?_
    refine r_goto ok 387 d_Md_looks_403 (by decide) ?_
    exact r_sub [1, 0] rfl h
set_option maxHeartbeats 4000000 in
set_option maxRecDepth 100000 in
theorem K_Md_looks_e {F : FT} (hD : ∀ σ, va_D F.2.2.1 (GW F.2.1 σ)) (hm : F.2.2.2.2.2.2.2.2.2.2.2.2.2.2.1 = 6) (ok : OkF F prog_12_method_23_code "LastSeenModel" ({ frames := 1, cells := 0, slots := 0, locals := 24 } : Room)) {Q : SS → Prop} (hQ : RetV F Q) {x1 : Int} {s : SS} (h : B_Md_looks_e Q (fun x1 x2 s => AtS F 17 [(0, .ref (F.2.1.1 10)), (1, vI x1), (2, vI x2)] [] s) (fun x1 x2 s => AtS F 87 [(0, .ref (F.2.1.1 10)), (1, vI x1), (2, vI x2)] [] s) (fun x1 x2 s => AtS F 108 [(0, .ref (F.2.1.1 10)), (1, vI x1), (2, vI x2)] [] s) (fun x1 x2 x3 x4 s => AtS F 168 [(0, .ref (F.2.1.1 10)), (1, vI x1), (2, vI x2), (3, vI x3), (4, vI x4)] [] s) (fun x1 x2 x3 x4 s => AtS F 201 [(0, .ref (F.2.1.1 10)), (1, vI x1), (2, vI x2), (3, vI x3), (4, vI x4)] [] s) (fun x1 x2 x3 x4 y0 s => AtS F 239 [(0, .ref (F.2.1.1 10)), (1, vI x1), (2, vI x2), (3, vI x3), (4, vI x4)] [vI y0] s) (fun x1 x2 x3 x4 x5 y0 y1 s => AtS F 290 [(0, .ref (F.2.1.1 10)), (1, vI x1), (2, vI x2), (3, vI x3), (4, vI x4), (5, vI x5)] [vI y0, vI y1, .ref (F.2.1.1 79)] s) (fun x2 s => AtS F 325 [(0, .ref (F.2.1.1 10)), (2, vI x2)] [] s) (fun x2 s => AtS F 387 [(0, .ref (F.2.1.1 10)), (2, vI x2)] [] s) x1 s) : AtS F 0 [(0, .ref (F.2.1.1 10)), (1, vI x1)] [] s := by
  unfold B_Md_looks_e at h
  refine r_aload_n ok 0 d_Md_looks_0 rfl rfl ?_
  refine r_iconst ok 0 d_Md_looks_1 rfl ?_
  refine p_Md_seenNames ok d_Md_looks_2 ?_
  replace h := h _ rfl
  generalize sF s 33 0 = s1 at h ⊢
  refine r_aload_n ok 0 d_Md_looks_5 rfl rfl ?_
  refine r_iconst ok 0 d_Md_looks_6 rfl ?_
  refine p_Md_seenWords ok d_Md_looks_7 ?_
  replace h := h _ rfl
  generalize sF s1 34 0 = s2 at h ⊢
  refine r_aload_n ok 0 d_Md_looks_10 rfl rfl ?_
  refine r_iconst ok (-1) d_Md_looks_11 rfl ?_
  refine p_Md_seenRule ok d_Md_looks_12 ?_
  replace h := h _ rfl
  generalize sF s2 35 (-1) = s3 at h ⊢
  refine r_iconst ok 0 d_Md_looks_15 rfl ?_
  refine r_istore_n ok [(2, vI 0), (0, .ref (F.2.1.1 10)), (1, vI x1)] d_Md_looks_16 rfl hm (by decide) rfl ?_
  exact r_sub [1, 2, 0] rfl h
theorem L_Md_looks (l : Launch) (G : GE) (A : Nat → Prop) (hD : ∀ σ, va_D A (GW G σ)) {x1 : Int} {s : SS} {Q : SS → Prop} (h : Sp_Md_looks x1 s Q) : Met l y_Md_looks (Cond.code y_Md_looks prog_12_method_23_code 6 (none) :: lw_ok) ({ frames := 1, cells := 0, slots := 0, locals := 24 } : Room) (va_Pc [.ref (G.1 10), vI x1] (gB G s)) (va_Qv (fun (s2 : SS) => Q s2) (fun s2 t => gB G s2 t) A) 0 0 A := by
  refine met_v hD (by decide) ⟨rfl, rfl⟩ (Nat.le_of_ble_eq_true rfl) (lv := [(0, .ref (G.1 10)), (1, vI x1)]) rfl (fun F h1 h2 h3 hm ok hQ => ?_)
  subst h1 h2 h3
  have hDF := hD
  exact K_Md_looks_e hDF hm ok hQ (h _ _ _ _ _ _ _ _ _ (fun _ _ _ hb => K_Md_looks_17 hDF hm ok hQ hb) (fun _ _ _ hb => K_Md_looks_87 hDF hm ok hQ hb) (fun _ _ _ hb => K_Md_looks_108 hDF hm ok hQ hb) (fun _ _ _ _ _ hb => K_Md_looks_168 hDF hm ok hQ hb) (fun _ _ _ _ _ hb => K_Md_looks_201 hDF hm ok hQ hb) (fun _ _ _ _ _ _ hb => K_Md_looks_239 hDF hm ok hQ hb) (fun _ _ _ _ _ _ _ _ hb => K_Md_looks_290 hDF hm ok hQ hb) (fun _ _ hb => K_Md_looks_325 hDF hm ok hQ hb) (fun _ _ hb => K_Md_looks_387 hDF hm ok hQ hb))
theorem d_Md_link_0 : decode prog_12_method_25_code 0 = .ok (.aload_n 0, 1) := by decide +kernel
theorem d_Md_link_1 : decode prog_12_method_25_code 1 = .ok (.iload_n 1, 1) := by decide +kernel
theorem d_Md_link_2 : decode prog_12_method_25_code 2 = .ok (.invokevirtual 237, 3) := by decide +kernel
theorem d_Md_link_5 : decode prog_12_method_25_code 5 = .ok (.ifCond .eq 19, 3) := by decide +kernel
theorem d_Md_link_8 : decode prog_12_method_25_code 8 = .ok (.aload_n 0, 1) := by decide +kernel
theorem d_Md_link_9 : decode prog_12_method_25_code 9 = .ok (.iload_n 2, 1) := by decide +kernel
theorem d_Md_link_10 : decode prog_12_method_25_code 10 = .ok (.invokevirtual 237, 3) := by decide +kernel
theorem d_Md_link_13 : decode prog_12_method_25_code 13 = .ok (.ifCond .eq 11, 3) := by decide +kernel
theorem d_Md_link_16 : decode prog_12_method_25_code 16 = .ok (.aload_n 0, 1) := by decide +kernel
theorem d_Md_link_17 : decode prog_12_method_25_code 17 = .ok (.iload_n 3, 1) := by decide +kernel
theorem d_Md_link_18 : decode prog_12_method_25_code 18 = .ok (.invokevirtual 260, 3) := by decide +kernel
theorem d_Md_link_21 : decode prog_12_method_25_code 21 = .ok (.ifCond .ne 5, 3) := by decide +kernel
theorem d_Md_link_24 : decode prog_12_method_25_code 24 = .ok (.iconst (-1), 1) := by decide +kernel
theorem d_Md_link_25 : decode prog_12_method_25_code 25 = .ok (.ireturn, 1) := by decide +kernel
theorem d_Md_link_26 : decode prog_12_method_25_code 26 = .ok (.aload_n 0, 1) := by decide +kernel
theorem d_Md_link_27 : decode prog_12_method_25_code 27 = .ok (.aload_n 0, 1) := by decide +kernel
theorem d_Md_link_28 : decode prog_12_method_25_code 28 = .ok (.iload_n 3, 1) := by decide +kernel
theorem d_Md_link_29 : decode prog_12_method_25_code 29 = .ok (.invokevirtual 263, 3) := by decide +kernel
theorem d_Md_link_32 : decode prog_12_method_25_code 32 = .ok (.invokevirtual 266, 3) := by decide +kernel
theorem d_Md_link_35 : decode prog_12_method_25_code 35 = .ok (.iload_n 1, 1) := by decide +kernel
theorem d_Md_link_36 : decode prog_12_method_25_code 36 = .ok (.aload_n 0, 1) := by decide +kernel
theorem d_Md_link_37 : decode prog_12_method_25_code 37 = .ok (.getfield 244, 3) := by decide +kernel
theorem d_Md_link_40 : decode prog_12_method_25_code 40 = .ok (.if_icmp .ge 11, 3) := by decide +kernel
theorem d_Md_link_43 : decode prog_12_method_25_code 43 = .ok (.iload_n 2, 1) := by decide +kernel
theorem d_Md_link_44 : decode prog_12_method_25_code 44 = .ok (.aload_n 0, 1) := by decide +kernel
theorem d_Md_link_45 : decode prog_12_method_25_code 45 = .ok (.getfield 244, 3) := by decide +kernel
theorem d_Md_link_48 : decode prog_12_method_25_code 48 = .ok (.if_icmp .lt 5, 3) := by decide +kernel
theorem d_Md_link_51 : decode prog_12_method_25_code 51 = .ok (.iconst (-1), 1) := by decide +kernel
theorem d_Md_link_52 : decode prog_12_method_25_code 52 = .ok (.ireturn, 1) := by decide +kernel
theorem d_Md_link_53 : decode prog_12_method_25_code 53 = .ok (.iload_n 1, 1) := by decide +kernel
theorem d_Md_link_54 : decode prog_12_method_25_code 54 = .ok (.iload_n 2, 1) := by decide +kernel
theorem d_Md_link_55 : decode prog_12_method_25_code 55 = .ok (.if_icmp .ne 6, 3) := by decide +kernel
theorem d_Md_link_58 : decode prog_12_method_25_code 58 = .ok (.bipush (-2), 2) := by decide +kernel
theorem d_Md_link_60 : decode prog_12_method_25_code 60 = .ok (.ireturn, 1) := by decide +kernel
theorem d_Md_link_61 : decode prog_12_method_25_code 61 = .ok (.aload_n 0, 1) := by decide +kernel
theorem d_Md_link_62 : decode prog_12_method_25_code 62 = .ok (.getfield 34, 3) := by decide +kernel
theorem d_Md_link_65 : decode prog_12_method_25_code 65 = .ok (.bipush 20, 2) := by decide +kernel
theorem d_Md_link_67 : decode prog_12_method_25_code 67 = .ok (.iload_n 1, 1) := by decide +kernel
theorem d_Md_link_68 : decode prog_12_method_25_code 68 = .ok (.imul, 1) := by decide +kernel
theorem d_Md_link_69 : decode prog_12_method_25_code 69 = .ok (.iload_n 2, 1) := by decide +kernel
theorem d_Md_link_70 : decode prog_12_method_25_code 70 = .ok (.iadd, 1) := by decide +kernel
theorem d_Md_link_71 : decode prog_12_method_25_code 71 = .ok (.baload, 1) := by decide +kernel
theorem d_Md_link_72 : decode prog_12_method_25_code 72 = .ok (.ifCond .eq 7, 3) := by decide +kernel
theorem d_Md_link_75 : decode prog_12_method_25_code 75 = .ok (.iconst 1, 1) := by decide +kernel
theorem d_Md_link_76 : decode prog_12_method_25_code 76 = .ok (.goto 4, 3) := by decide +kernel
theorem d_Md_link_79 : decode prog_12_method_25_code 79 = .ok (.iconst 0, 1) := by decide +kernel
theorem d_Md_link_80 : decode prog_12_method_25_code 80 = .ok (.ireturn, 1) := by decide +kernel
set_option maxHeartbeats 4000000 in
set_option maxRecDepth 100000 in
theorem K_Md_link_e {F : FT} (hD : ∀ σ, va_D F.2.2.1 (GW F.2.1 σ)) (hm : F.2.2.2.2.2.2.2.2.2.2.2.2.2.2.1 = 4) (ok : OkF F prog_12_method_25_code "LastSeenModel" ({ frames := 2, cells := 0, slots := 0, locals := 49 } : Room)) {Q : Int → SS → Prop} (hQ : RetI F Q) {x1 x2 x3 : Int} {s : SS} (h : Sp_Md_link x1 x2 x3 s Q) : AtS F 0 [(0, .ref (F.2.1.1 10)), (1, vI x1), (2, vI x2), (3, vI x3)] [] s := by
  unfold Sp_Md_link at h
  refine r_aload_n ok 0 d_Md_link_0 rfl rfl ?_
  refine r_iload_n ok 1 d_Md_link_1 rfl rfl ?_
  refine r_callVi (As := [vI x1]) (rest := []) ok 10 rfl rfl rfl wl_Md_237 wi_y_Md_isName ws_y_Md_isName wn_Md wc_y_Md_isName (by decide) (by decide) hh_Md_isName (Nat.le_of_ble_eq_true rfl) rfl d_Md_link_2 (L_Md_isName F.1 F.2.1 F.2.2.1 hD h) (fun r2 s1 h => ?_)
  refine r_if_eq ok 24 d_Md_link_5 (by decide) h.1 (fun c => ?_) (fun c => ?_)
  · replace h := h.2.1 c
    refine r_iconst ok (-1) d_Md_link_24 rfl ?_
    exact hQ _ _ _ _ _ (ok_code ok) d_Md_link_25 h
  · replace h := h.2.2 c
    refine r_aload_n ok 0 d_Md_link_8 rfl rfl ?_
    refine r_iload_n ok 2 d_Md_link_9 rfl rfl ?_
    refine r_callVi (As := [vI x2]) (rest := []) ok 10 rfl rfl rfl wl_Md_237 wi_y_Md_isName ws_y_Md_isName wn_Md wc_y_Md_isName (by decide) (by decide) hh_Md_isName (Nat.le_of_ble_eq_true rfl) rfl d_Md_link_10 (L_Md_isName F.1 F.2.1 F.2.2.1 hD h) (fun r4 s3 h => ?_)
    refine r_if_eq ok 24 d_Md_link_13 (by decide) h.1 (fun c => ?_) (fun c => ?_)
    · replace h := h.2.1 c
      refine r_iconst ok (-1) d_Md_link_24 rfl ?_
      exact hQ _ _ _ _ _ (ok_code ok) d_Md_link_25 h
    · replace h := h.2.2 c
      refine r_aload_n ok 0 d_Md_link_16 rfl rfl ?_
      refine r_iload_n ok 3 d_Md_link_17 rfl rfl ?_
      refine r_callVi (As := [vI x3]) (rest := []) ok 10 rfl rfl rfl wl_Md_260 wi_y_Md_isTold ws_y_Md_isTold wn_Md wc_y_Md_isTold (by decide) (by decide) hh_Md_isTold (Nat.le_of_ble_eq_true rfl) rfl d_Md_link_18 (L_Md_isTold F.1 F.2.1 F.2.2.1 hD h) (fun r6 s5 h => ?_)
      refine r_if_ne ok 26 d_Md_link_21 (by decide) h.1 (fun c => ?_) (fun c => ?_)
      · replace h := h.2.1 c
        refine r_aload_n ok 0 d_Md_link_26 rfl rfl ?_
        refine r_aload_n ok 0 d_Md_link_27 rfl rfl ?_
        refine r_iload_n ok 3 d_Md_link_28 rfl rfl ?_
        refine r_callVi (As := [vI x3]) (rest := [.ref (F.2.1.1 10)]) ok 10 rfl rfl rfl wl_Md_263 wi_y_Md_by ws_y_Md_by wn_Md wc_y_Md_by (by decide) (by decide) hh_Md_by (Nat.le_of_ble_eq_true rfl) rfl d_Md_link_29 (L_Md_by F.1 F.2.1 F.2.2.1 hD h) (fun r8 s7 h => ?_)
        refine r_callVv (As := [vI r8]) (rest := []) ok 10 rfl rfl rfl wl_Md_266 wi_y_Md_looks ws_y_Md_looks wn_Md wc_y_Md_looks (by decide) (by decide) hh_Md_looks (Nat.le_of_ble_eq_true rfl) rfl d_Md_link_32 (L_Md_looks F.1 F.2.1 F.2.2.1 hD h) (fun s9 h => ?_)
        refine r_iload_n ok 1 d_Md_link_35 rfl rfl ?_
        refine r_aload_n ok 0 d_Md_link_36 rfl rfl ?_
        refine g_Md_seenNames ok d_Md_link_37 ?_
        refine r_icmp_ge ok 51 d_Md_link_40 (by decide) h.1 h.2.1 (fun c => ?_) (fun c => ?_)
        · replace h := h.2.2.1 c
          refine r_iconst ok (-1) d_Md_link_51 rfl ?_
          exact hQ _ _ _ _ _ (ok_code ok) d_Md_link_52 h
        · replace h := h.2.2.2 c
          refine r_iload_n ok 2 d_Md_link_43 rfl rfl ?_
          refine r_aload_n ok 0 d_Md_link_44 rfl rfl ?_
          refine g_Md_seenNames ok d_Md_link_45 ?_
          refine r_icmp_lt ok 53 d_Md_link_48 (by decide) h.1 h.2.1 (fun c => ?_) (fun c => ?_)
          · replace h := h.2.2.1 c
            refine r_iload_n ok 1 d_Md_link_53 rfl rfl ?_
            refine r_iload_n ok 2 d_Md_link_54 rfl rfl ?_
            refine r_icmp_ne ok 61 d_Md_link_55 (by decide) h.1 h.2.1 (fun c => ?_) (fun c => ?_)
            · replace h := h.2.2.1 c
              refine r_aload_n ok 0 d_Md_link_61 rfl rfl ?_
              refine g_Md_isLinked ok d_Md_link_62 ?_
              refine r_bipush ok 20 d_Md_link_65 (by decide) ?_
              refine r_iload_n ok 1 d_Md_link_67 rfl rfl ?_
              refine r_imul ok d_Md_link_68 ?_
              refine r_iload_n ok 2 d_Md_link_69 rfl rfl ?_
              refine r_iadd ok d_Md_link_70 ?_
              refine r_zald ok 67 d_Md_link_71 (by decide) rfl h.1 ?_
              replace h := h.2
              refine r_if_eq ok 79 d_Md_link_72 (by decide) h.1 (fun c => ?_) (fun c => ?_)
              · replace h := h.2.1 c
                refine r_iconst ok 0 d_Md_link_79 rfl ?_
                exact hQ _ _ _ _ _ (ok_code ok) d_Md_link_80 h
              · replace h := h.2.2 c
                refine r_iconst ok 1 d_Md_link_75 rfl ?_
                refine r_goto ok 80 d_Md_link_76 (by decide) ?_
                exact hQ _ _ _ _ _ (ok_code ok) d_Md_link_80 h
            · replace h := h.2.2.2 c
              refine r_bipush ok (-2) d_Md_link_58 (by decide) ?_
              exact hQ _ _ _ _ _ (ok_code ok) d_Md_link_60 h
          · replace h := h.2.2.2 c
            refine r_iconst ok (-1) d_Md_link_51 rfl ?_
            exact hQ _ _ _ _ _ (ok_code ok) d_Md_link_52 h
      · replace h := h.2.2 c
        refine r_iconst ok (-1) d_Md_link_24 rfl ?_
        exact hQ _ _ _ _ _ (ok_code ok) d_Md_link_25 h
theorem L_Md_link (l : Launch) (G : GE) (A : Nat → Prop) (hD : ∀ σ, va_D A (GW G σ)) {x1 x2 x3 : Int} {s : SS} {Q : Int → SS → Prop} (h : Sp_Md_link x1 x2 x3 s Q) : Met l y_Md_link (Cond.code y_Md_link prog_12_method_25_code 4 (some .int) :: lw_ok) ({ frames := 2, cells := 0, slots := 0, locals := 49 } : Room) (va_Pc [.ref (G.1 10), vI x1, vI x2, vI x3] (gB G s)) (va_Qi (fun (r : Int32) (s2 : SS) => ∃ x : Int, r = iI x ∧ Q x s2) (fun s2 t => gB G s2 t) A) 0 0 A := by
  refine met_i hD (by decide) ⟨rfl, rfl⟩ (Nat.le_of_ble_eq_true rfl) (lv := [(0, .ref (G.1 10)), (1, vI x1), (2, vI x2), (3, vI x3)]) rfl (fun F h1 h2 h3 hm ok hQ => ?_)
  subst h1 h2 h3
  have hDF := hD
  exact K_Md_link_e hDF hm ok hQ h
theorem d_Md_isThere_0 : decode prog_12_method_26_code 0 = .ok (.aload_n 0, 1) := by decide +kernel
theorem d_Md_isThere_1 : decode prog_12_method_26_code 1 = .ok (.iload_n 1, 1) := by decide +kernel
theorem d_Md_isThere_2 : decode prog_12_method_26_code 2 = .ok (.invokevirtual 237, 3) := by decide +kernel
theorem d_Md_isThere_5 : decode prog_12_method_26_code 5 = .ok (.ifCond .eq 11, 3) := by decide +kernel
theorem d_Md_isThere_8 : decode prog_12_method_26_code 8 = .ok (.aload_n 0, 1) := by decide +kernel
theorem d_Md_isThere_9 : decode prog_12_method_26_code 9 = .ok (.iload_n 2, 1) := by decide +kernel
theorem d_Md_isThere_10 : decode prog_12_method_26_code 10 = .ok (.invokevirtual 260, 3) := by decide +kernel
theorem d_Md_isThere_13 : decode prog_12_method_26_code 13 = .ok (.ifCond .ne 5, 3) := by decide +kernel
theorem d_Md_isThere_16 : decode prog_12_method_26_code 16 = .ok (.iconst 0, 1) := by decide +kernel
theorem d_Md_isThere_17 : decode prog_12_method_26_code 17 = .ok (.ireturn, 1) := by decide +kernel
theorem d_Md_isThere_18 : decode prog_12_method_26_code 18 = .ok (.aload_n 0, 1) := by decide +kernel
theorem d_Md_isThere_19 : decode prog_12_method_26_code 19 = .ok (.aload_n 0, 1) := by decide +kernel
theorem d_Md_isThere_20 : decode prog_12_method_26_code 20 = .ok (.iload_n 2, 1) := by decide +kernel
theorem d_Md_isThere_21 : decode prog_12_method_26_code 21 = .ok (.invokevirtual 263, 3) := by decide +kernel
theorem d_Md_isThere_24 : decode prog_12_method_26_code 24 = .ok (.invokevirtual 266, 3) := by decide +kernel
theorem d_Md_isThere_27 : decode prog_12_method_26_code 27 = .ok (.iload_n 1, 1) := by decide +kernel
theorem d_Md_isThere_28 : decode prog_12_method_26_code 28 = .ok (.aload_n 0, 1) := by decide +kernel
theorem d_Md_isThere_29 : decode prog_12_method_26_code 29 = .ok (.getfield 244, 3) := by decide +kernel
theorem d_Md_isThere_32 : decode prog_12_method_26_code 32 = .ok (.if_icmp .ge 7, 3) := by decide +kernel
theorem d_Md_isThere_35 : decode prog_12_method_26_code 35 = .ok (.iconst 1, 1) := by decide +kernel
theorem d_Md_isThere_36 : decode prog_12_method_26_code 36 = .ok (.goto 4, 3) := by decide +kernel
theorem d_Md_isThere_39 : decode prog_12_method_26_code 39 = .ok (.iconst 0, 1) := by decide +kernel
theorem d_Md_isThere_40 : decode prog_12_method_26_code 40 = .ok (.ireturn, 1) := by decide +kernel
set_option maxHeartbeats 4000000 in
set_option maxRecDepth 100000 in
theorem K_Md_isThere_e {F : FT} (hD : ∀ σ, va_D F.2.2.1 (GW F.2.1 σ)) (hm : F.2.2.2.2.2.2.2.2.2.2.2.2.2.2.1 = 3) (ok : OkF F prog_12_method_26_code "LastSeenModel" ({ frames := 2, cells := 0, slots := 0, locals := 49 } : Room)) {Q : Int → SS → Prop} (hQ : RetZ F Q) {x1 x2 : Int} {s : SS} (h : Sp_Md_isThere x1 x2 s Q) : AtS F 0 [(0, .ref (F.2.1.1 10)), (1, vI x1), (2, vI x2)] [] s := by
  unfold Sp_Md_isThere at h
  refine r_aload_n ok 0 d_Md_isThere_0 rfl rfl ?_
  refine r_iload_n ok 1 d_Md_isThere_1 rfl rfl ?_
  refine r_callVi (As := [vI x1]) (rest := []) ok 10 rfl rfl rfl wl_Md_237 wi_y_Md_isName ws_y_Md_isName wn_Md wc_y_Md_isName (by decide) (by decide) hh_Md_isName (Nat.le_of_ble_eq_true rfl) rfl d_Md_isThere_2 (L_Md_isName F.1 F.2.1 F.2.2.1 hD h) (fun r2 s1 h => ?_)
  refine r_if_eq ok 16 d_Md_isThere_5 (by decide) h.1 (fun c => ?_) (fun c => ?_)
  · replace h := h.2.1 c
    refine r_iconst ok 0 d_Md_isThere_16 rfl ?_
    exact hQ _ _ _ _ _ (ok_code ok) d_Md_isThere_17 (by decide) h
  · replace h := h.2.2 c
    refine r_aload_n ok 0 d_Md_isThere_8 rfl rfl ?_
    refine r_iload_n ok 2 d_Md_isThere_9 rfl rfl ?_
    refine r_callVi (As := [vI x2]) (rest := []) ok 10 rfl rfl rfl wl_Md_260 wi_y_Md_isTold ws_y_Md_isTold wn_Md wc_y_Md_isTold (by decide) (by decide) hh_Md_isTold (Nat.le_of_ble_eq_true rfl) rfl d_Md_isThere_10 (L_Md_isTold F.1 F.2.1 F.2.2.1 hD h) (fun r4 s3 h => ?_)
    refine r_if_ne ok 18 d_Md_isThere_13 (by decide) h.1 (fun c => ?_) (fun c => ?_)
    · replace h := h.2.1 c
      refine r_aload_n ok 0 d_Md_isThere_18 rfl rfl ?_
      refine r_aload_n ok 0 d_Md_isThere_19 rfl rfl ?_
      refine r_iload_n ok 2 d_Md_isThere_20 rfl rfl ?_
      refine r_callVi (As := [vI x2]) (rest := [.ref (F.2.1.1 10)]) ok 10 rfl rfl rfl wl_Md_263 wi_y_Md_by ws_y_Md_by wn_Md wc_y_Md_by (by decide) (by decide) hh_Md_by (Nat.le_of_ble_eq_true rfl) rfl d_Md_isThere_21 (L_Md_by F.1 F.2.1 F.2.2.1 hD h) (fun r6 s5 h => ?_)
      refine r_callVv (As := [vI r6]) (rest := []) ok 10 rfl rfl rfl wl_Md_266 wi_y_Md_looks ws_y_Md_looks wn_Md wc_y_Md_looks (by decide) (by decide) hh_Md_looks (Nat.le_of_ble_eq_true rfl) rfl d_Md_isThere_24 (L_Md_looks F.1 F.2.1 F.2.2.1 hD h) (fun s7 h => ?_)
      refine r_iload_n ok 1 d_Md_isThere_27 rfl rfl ?_
      refine r_aload_n ok 0 d_Md_isThere_28 rfl rfl ?_
      refine g_Md_seenNames ok d_Md_isThere_29 ?_
      refine r_icmp_ge ok 39 d_Md_isThere_32 (by decide) h.1 h.2.1 (fun c => ?_) (fun c => ?_)
      · replace h := h.2.2.1 c
        refine r_iconst ok 0 d_Md_isThere_39 rfl ?_
        exact hQ _ _ _ _ _ (ok_code ok) d_Md_isThere_40 (by decide) h
      · replace h := h.2.2.2 c
        refine r_iconst ok 1 d_Md_isThere_35 rfl ?_
        refine r_goto ok 40 d_Md_isThere_36 (by decide) ?_
        exact hQ _ _ _ _ _ (ok_code ok) d_Md_isThere_40 (by decide) h
    · replace h := h.2.2 c
      refine r_iconst ok 0 d_Md_isThere_16 rfl ?_
      exact hQ _ _ _ _ _ (ok_code ok) d_Md_isThere_17 (by decide) h
theorem L_Md_isThere (l : Launch) (G : GE) (A : Nat → Prop) (hD : ∀ σ, va_D A (GW G σ)) {x1 x2 : Int} {s : SS} {Q : Int → SS → Prop} (h : Sp_Md_isThere x1 x2 s Q) : Met l y_Md_isThere (Cond.code y_Md_isThere prog_12_method_26_code 3 (some .boolean) :: lw_ok) ({ frames := 2, cells := 0, slots := 0, locals := 49 } : Room) (va_Pc [.ref (G.1 10), vI x1, vI x2] (gB G s)) (va_Qi (fun (r : Int32) (s2 : SS) => ∃ x : Int, r = iI x ∧ Q x s2) (fun s2 t => gB G s2 t) A) 0 0 A := by
  refine met_z hD (by decide) ⟨rfl, rfl⟩ (Nat.le_of_ble_eq_true rfl) (lv := [(0, .ref (G.1 10)), (1, vI x1), (2, vI x2)]) rfl (fun F h1 h2 h3 hm ok hQ => ?_)
  subst h1 h2 h3
  have hDF := hD
  exact K_Md_isThere_e hDF hm ok hQ h
theorem d_Md_person_0 : decode prog_12_method_27_code 0 = .ok (.aload_n 0, 1) := by decide +kernel
theorem d_Md_person_1 : decode prog_12_method_27_code 1 = .ok (.iload_n 1, 1) := by decide +kernel
theorem d_Md_person_2 : decode prog_12_method_27_code 2 = .ok (.iload_n 2, 1) := by decide +kernel
theorem d_Md_person_3 : decode prog_12_method_27_code 3 = .ok (.invokevirtual 269, 3) := by decide +kernel
theorem d_Md_person_6 : decode prog_12_method_27_code 6 = .ok (.ifCond .eq 12, 3) := by decide +kernel
theorem d_Md_person_9 : decode prog_12_method_27_code 9 = .ok (.aload_n 0, 1) := by decide +kernel
theorem d_Md_person_10 : decode prog_12_method_27_code 10 = .ok (.getfield 50, 3) := by decide +kernel
theorem d_Md_person_13 : decode prog_12_method_27_code 13 = .ok (.iload_n 1, 1) := by decide +kernel
theorem d_Md_person_14 : decode prog_12_method_27_code 14 = .ok (.iaload, 1) := by decide +kernel
theorem d_Md_person_15 : decode prog_12_method_27_code 15 = .ok (.goto 4, 3) := by decide +kernel
theorem d_Md_person_18 : decode prog_12_method_27_code 18 = .ok (.iconst (-1), 1) := by decide +kernel
theorem d_Md_person_19 : decode prog_12_method_27_code 19 = .ok (.ireturn, 1) := by decide +kernel
set_option maxHeartbeats 4000000 in
set_option maxRecDepth 100000 in
theorem K_Md_person_e {F : FT} (hD : ∀ σ, va_D F.2.2.1 (GW F.2.1 σ)) (hm : F.2.2.2.2.2.2.2.2.2.2.2.2.2.2.1 = 3) (ok : OkF F prog_12_method_27_code "LastSeenModel" ({ frames := 3, cells := 0, slots := 0, locals := 71 } : Room)) {Q : Int → SS → Prop} (hQ : RetI F Q) {x1 x2 : Int} {s : SS} (h : Sp_Md_person x1 x2 s Q) : AtS F 0 [(0, .ref (F.2.1.1 10)), (1, vI x1), (2, vI x2)] [] s := by
  unfold Sp_Md_person at h
  refine r_aload_n ok 0 d_Md_person_0 rfl rfl ?_
  refine r_iload_n ok 1 d_Md_person_1 rfl rfl ?_
  refine r_iload_n ok 2 d_Md_person_2 rfl rfl ?_
  refine r_callVi (As := [vI x1, vI x2]) (rest := []) ok 10 rfl rfl rfl wl_Md_269 wi_y_Md_isThere ws_y_Md_isThere wn_Md wc_y_Md_isThere (by decide) (by decide) hh_Md_isThere (Nat.le_of_ble_eq_true rfl) rfl d_Md_person_3 (L_Md_isThere F.1 F.2.1 F.2.2.1 hD h) (fun r2 s1 h => ?_)
  refine r_if_eq ok 18 d_Md_person_6 (by decide) h.1 (fun c => ?_) (fun c => ?_)
  · replace h := h.2.1 c
    refine r_iconst ok (-1) d_Md_person_18 rfl ?_
    exact hQ _ _ _ _ _ (ok_code ok) d_Md_person_19 h
  · replace h := h.2.2 c
    refine r_aload_n ok 0 d_Md_person_9 rfl rfl ?_
    refine g_Md_person ok d_Md_person_10 ?_
    refine r_iload_n ok 1 d_Md_person_13 rfl rfl ?_
    refine r_iald ok 72 d_Md_person_14 (by decide) rfl h.1 ?_
    replace h := h.2
    refine r_goto ok 19 d_Md_person_15 (by decide) ?_
    exact hQ _ _ _ _ _ (ok_code ok) d_Md_person_19 h
theorem L_Md_person (l : Launch) (G : GE) (A : Nat → Prop) (hD : ∀ σ, va_D A (GW G σ)) {x1 x2 : Int} {s : SS} {Q : Int → SS → Prop} (h : Sp_Md_person x1 x2 s Q) : Met l y_Md_person (Cond.code y_Md_person prog_12_method_27_code 3 (some .int) :: lw_ok) ({ frames := 3, cells := 0, slots := 0, locals := 71 } : Room) (va_Pc [.ref (G.1 10), vI x1, vI x2] (gB G s)) (va_Qi (fun (r : Int32) (s2 : SS) => ∃ x : Int, r = iI x ∧ Q x s2) (fun s2 t => gB G s2 t) A) 0 0 A := by
  refine met_i hD (by decide) ⟨rfl, rfl⟩ (Nat.le_of_ble_eq_true rfl) (lv := [(0, .ref (G.1 10)), (1, vI x1), (2, vI x2)]) rfl (fun F h1 h2 h3 hm ok hQ => ?_)
  subst h1 h2 h3
  have hDF := hD
  exact K_Md_person_e hDF hm ok hQ h
theorem d_Md_tie_0 : decode prog_12_method_28_code 0 = .ok (.aload_n 0, 1) := by decide +kernel
theorem d_Md_tie_1 : decode prog_12_method_28_code 1 = .ok (.iload_n 1, 1) := by decide +kernel
theorem d_Md_tie_2 : decode prog_12_method_28_code 2 = .ok (.invokevirtual 237, 3) := by decide +kernel
theorem d_Md_tie_5 : decode prog_12_method_28_code 5 = .ok (.ifCond .eq 16, 3) := by decide +kernel
theorem d_Md_tie_8 : decode prog_12_method_28_code 8 = .ok (.aload_n 0, 1) := by decide +kernel
theorem d_Md_tie_9 : decode prog_12_method_28_code 9 = .ok (.iload_n 2, 1) := by decide +kernel
theorem d_Md_tie_10 : decode prog_12_method_28_code 10 = .ok (.invokevirtual 237, 3) := by decide +kernel
theorem d_Md_tie_13 : decode prog_12_method_28_code 13 = .ok (.ifCond .eq 8, 3) := by decide +kernel
theorem d_Md_tie_16 : decode prog_12_method_28_code 16 = .ok (.iload_n 3, 1) := by decide +kernel
theorem d_Md_tie_17 : decode prog_12_method_28_code 17 = .ok (.iconst (-1), 1) := by decide +kernel
theorem d_Md_tie_18 : decode prog_12_method_28_code 18 = .ok (.if_icmp .ge 5, 3) := by decide +kernel
theorem d_Md_tie_21 : decode prog_12_method_28_code 21 = .ok (.iconst (-1), 1) := by decide +kernel
theorem d_Md_tie_22 : decode prog_12_method_28_code 22 = .ok (.ireturn, 1) := by decide +kernel
theorem d_Md_tie_23 : decode prog_12_method_28_code 23 = .ok (.iload_n 1, 1) := by decide +kernel
theorem d_Md_tie_24 : decode prog_12_method_28_code 24 = .ok (.iload_n 2, 1) := by decide +kernel
theorem d_Md_tie_25 : decode prog_12_method_28_code 25 = .ok (.if_icmp .ne 6, 3) := by decide +kernel
theorem d_Md_tie_28 : decode prog_12_method_28_code 28 = .ok (.bipush (-2), 2) := by decide +kernel
theorem d_Md_tie_30 : decode prog_12_method_28_code 30 = .ok (.ireturn, 1) := by decide +kernel
theorem d_Md_tie_31 : decode prog_12_method_28_code 31 = .ok (.aload_n 0, 1) := by decide +kernel
theorem d_Md_tie_32 : decode prog_12_method_28_code 32 = .ok (.aload_n 0, 1) := by decide +kernel
theorem d_Md_tie_33 : decode prog_12_method_28_code 33 = .ok (.getfield 198, 3) := by decide +kernel
theorem d_Md_tie_36 : decode prog_12_method_28_code 36 = .ok (.invokevirtual 266, 3) := by decide +kernel
theorem d_Md_tie_39 : decode prog_12_method_28_code 39 = .ok (.aload_n 0, 1) := by decide +kernel
theorem d_Md_tie_40 : decode prog_12_method_28_code 40 = .ok (.getfield 38, 3) := by decide +kernel
theorem d_Md_tie_43 : decode prog_12_method_28_code 43 = .ok (.bipush 20, 2) := by decide +kernel
theorem d_Md_tie_45 : decode prog_12_method_28_code 45 = .ok (.iload_n 1, 1) := by decide +kernel
theorem d_Md_tie_46 : decode prog_12_method_28_code 46 = .ok (.imul, 1) := by decide +kernel
theorem d_Md_tie_47 : decode prog_12_method_28_code 47 = .ok (.iload_n 2, 1) := by decide +kernel
theorem d_Md_tie_48 : decode prog_12_method_28_code 48 = .ok (.iadd, 1) := by decide +kernel
theorem d_Md_tie_49 : decode prog_12_method_28_code 49 = .ok (.baload, 1) := by decide +kernel
theorem d_Md_tie_50 : decode prog_12_method_28_code 50 = .ok (.ifCond .eq 18, 3) := by decide +kernel
theorem d_Md_tie_53 : decode prog_12_method_28_code 53 = .ok (.aload_n 0, 1) := by decide +kernel
theorem d_Md_tie_54 : decode prog_12_method_28_code 54 = .ok (.getfield 50, 3) := by decide +kernel
theorem d_Md_tie_57 : decode prog_12_method_28_code 57 = .ok (.iload_n 1, 1) := by decide +kernel
theorem d_Md_tie_58 : decode prog_12_method_28_code 58 = .ok (.iaload, 1) := by decide +kernel
theorem d_Md_tie_59 : decode prog_12_method_28_code 59 = .ok (.aload_n 0, 1) := by decide +kernel
theorem d_Md_tie_60 : decode prog_12_method_28_code 60 = .ok (.getfield 50, 3) := by decide +kernel
theorem d_Md_tie_63 : decode prog_12_method_28_code 63 = .ok (.iload_n 2, 1) := by decide +kernel
theorem d_Md_tie_64 : decode prog_12_method_28_code 64 = .ok (.iaload, 1) := by decide +kernel
theorem d_Md_tie_65 : decode prog_12_method_28_code 65 = .ok (.if_icmp .eq 6, 3) := by decide +kernel
theorem d_Md_tie_68 : decode prog_12_method_28_code 68 = .ok (.bipush (-3), 2) := by decide +kernel
theorem d_Md_tie_70 : decode prog_12_method_28_code 70 = .ok (.ireturn, 1) := by decide +kernel
theorem d_Md_tie_71 : decode prog_12_method_28_code 71 = .ok (.iload_n 1, 1) := by decide +kernel
theorem d_Md_tie_72 : decode prog_12_method_28_code 72 = .ok (.iload_n 2, 1) := by decide +kernel
theorem d_Md_tie_73 : decode prog_12_method_28_code 73 = .ok (.if_icmp .ge 7, 3) := by decide +kernel
theorem d_Md_tie_76 : decode prog_12_method_28_code 76 = .ok (.iload_n 1, 1) := by decide +kernel
theorem d_Md_tie_77 : decode prog_12_method_28_code 77 = .ok (.goto 4, 3) := by decide +kernel
theorem d_Md_tie_80 : decode prog_12_method_28_code 80 = .ok (.iload_n 2, 1) := by decide +kernel
theorem d_Md_tie_81 : decode prog_12_method_28_code 81 = .ok (.istore 4, 2) := by decide +kernel
theorem d_Md_tie_83 : decode prog_12_method_28_code 83 = .ok (.iload_n 1, 1) := by decide +kernel
theorem d_Md_tie_84 : decode prog_12_method_28_code 84 = .ok (.iload_n 2, 1) := by decide +kernel
theorem d_Md_tie_85 : decode prog_12_method_28_code 85 = .ok (.if_icmp .ge 7, 3) := by decide +kernel
theorem d_Md_tie_88 : decode prog_12_method_28_code 88 = .ok (.iload_n 2, 1) := by decide +kernel
theorem d_Md_tie_89 : decode prog_12_method_28_code 89 = .ok (.goto 4, 3) := by decide +kernel
theorem d_Md_tie_92 : decode prog_12_method_28_code 92 = .ok (.iload_n 1, 1) := by decide +kernel
theorem d_Md_tie_93 : decode prog_12_method_28_code 93 = .ok (.istore 5, 2) := by decide +kernel
theorem d_Md_tie_95 : decode prog_12_method_28_code 95 = .ok (.iconst 0, 1) := by decide +kernel
theorem d_Md_tie_96 : decode prog_12_method_28_code 96 = .ok (.istore 6, 2) := by decide +kernel
theorem d_Md_tie_98 : decode prog_12_method_28_code 98 = .ok (.iload 6, 2) := by decide +kernel
theorem d_Md_tie_100 : decode prog_12_method_28_code 100 = .ok (.aload_n 0, 1) := by decide +kernel
theorem d_Md_tie_101 : decode prog_12_method_28_code 101 = .ok (.getfield 179, 3) := by decide +kernel
theorem d_Md_tie_104 : decode prog_12_method_28_code 104 = .ok (.if_icmp .ge 29, 3) := by decide +kernel
theorem d_Md_tie_107 : decode prog_12_method_28_code 107 = .ok (.aload_n 0, 1) := by decide +kernel
theorem d_Md_tie_108 : decode prog_12_method_28_code 108 = .ok (.getfield 53, 3) := by decide +kernel
theorem d_Md_tie_111 : decode prog_12_method_28_code 111 = .ok (.iload 6, 2) := by decide +kernel
theorem d_Md_tie_113 : decode prog_12_method_28_code 113 = .ok (.iload 6, 2) := by decide +kernel
theorem d_Md_tie_115 : decode prog_12_method_28_code 115 = .ok (.iload 5, 2) := by decide +kernel
theorem d_Md_tie_117 : decode prog_12_method_28_code 117 = .ok (.if_icmp .ne 7, 3) := by decide +kernel
theorem d_Md_tie_120 : decode prog_12_method_28_code 120 = .ok (.iconst 0, 1) := by decide +kernel
theorem d_Md_tie_121 : decode prog_12_method_28_code 121 = .ok (.goto 5, 3) := by decide +kernel
theorem d_Md_tie_124 : decode prog_12_method_28_code 124 = .ok (.bipush 100, 2) := by decide +kernel
theorem d_Md_tie_126 : decode prog_12_method_28_code 126 = .ok (.iastore, 1) := by decide +kernel
theorem d_Md_tie_127 : decode prog_12_method_28_code 127 = .ok (.iinc 6 1, 3) := by decide +kernel
theorem d_Md_tie_130 : decode prog_12_method_28_code 130 = .ok (.goto (-32), 3) := by decide +kernel
theorem d_Md_tie_133 : decode prog_12_method_28_code 133 = .ok (.iconst 0, 1) := by decide +kernel
theorem d_Md_tie_134 : decode prog_12_method_28_code 134 = .ok (.istore 6, 2) := by decide +kernel
theorem d_Md_tie_136 : decode prog_12_method_28_code 136 = .ok (.iload 6, 2) := by decide +kernel
theorem d_Md_tie_138 : decode prog_12_method_28_code 138 = .ok (.aload_n 0, 1) := by decide +kernel
theorem d_Md_tie_139 : decode prog_12_method_28_code 139 = .ok (.getfield 179, 3) := by decide +kernel
theorem d_Md_tie_142 : decode prog_12_method_28_code 142 = .ok (.if_icmp .ge 96, 3) := by decide +kernel
theorem d_Md_tie_145 : decode prog_12_method_28_code 145 = .ok (.iconst 0, 1) := by decide +kernel
theorem d_Md_tie_146 : decode prog_12_method_28_code 146 = .ok (.istore 7, 2) := by decide +kernel
theorem d_Md_tie_148 : decode prog_12_method_28_code 148 = .ok (.iload 7, 2) := by decide +kernel
theorem d_Md_tie_150 : decode prog_12_method_28_code 150 = .ok (.aload_n 0, 1) := by decide +kernel
theorem d_Md_tie_151 : decode prog_12_method_28_code 151 = .ok (.getfield 179, 3) := by decide +kernel
theorem d_Md_tie_154 : decode prog_12_method_28_code 154 = .ok (.if_icmp .ge 78, 3) := by decide +kernel
theorem d_Md_tie_157 : decode prog_12_method_28_code 157 = .ok (.iconst 0, 1) := by decide +kernel
theorem d_Md_tie_158 : decode prog_12_method_28_code 158 = .ok (.istore 8, 2) := by decide +kernel
theorem d_Md_tie_160 : decode prog_12_method_28_code 160 = .ok (.iload 8, 2) := by decide +kernel
theorem d_Md_tie_162 : decode prog_12_method_28_code 162 = .ok (.aload_n 0, 1) := by decide +kernel
theorem d_Md_tie_163 : decode prog_12_method_28_code 163 = .ok (.getfield 179, 3) := by decide +kernel
theorem d_Md_tie_166 : decode prog_12_method_28_code 166 = .ok (.if_icmp .ge 60, 3) := by decide +kernel
theorem d_Md_tie_169 : decode prog_12_method_28_code 169 = .ok (.aload_n 0, 1) := by decide +kernel
theorem d_Md_tie_170 : decode prog_12_method_28_code 170 = .ok (.getfield 34, 3) := by decide +kernel
theorem d_Md_tie_173 : decode prog_12_method_28_code 173 = .ok (.bipush 20, 2) := by decide +kernel
theorem d_Md_tie_175 : decode prog_12_method_28_code 175 = .ok (.iload 7, 2) := by decide +kernel
theorem d_Md_tie_177 : decode prog_12_method_28_code 177 = .ok (.imul, 1) := by decide +kernel
theorem d_Md_tie_178 : decode prog_12_method_28_code 178 = .ok (.iload 8, 2) := by decide +kernel
theorem d_Md_tie_180 : decode prog_12_method_28_code 180 = .ok (.iadd, 1) := by decide +kernel
theorem d_Md_tie_181 : decode prog_12_method_28_code 181 = .ok (.baload, 1) := by decide +kernel
theorem d_Md_tie_182 : decode prog_12_method_28_code 182 = .ok (.ifCond .eq 38, 3) := by decide +kernel
theorem d_Md_tie_185 : decode prog_12_method_28_code 185 = .ok (.aload_n 0, 1) := by decide +kernel
theorem d_Md_tie_186 : decode prog_12_method_28_code 186 = .ok (.getfield 53, 3) := by decide +kernel
theorem d_Md_tie_189 : decode prog_12_method_28_code 189 = .ok (.iload 8, 2) := by decide +kernel
theorem d_Md_tie_191 : decode prog_12_method_28_code 191 = .ok (.iaload, 1) := by decide +kernel
theorem d_Md_tie_192 : decode prog_12_method_28_code 192 = .ok (.iconst 1, 1) := by decide +kernel
theorem d_Md_tie_193 : decode prog_12_method_28_code 193 = .ok (.iadd, 1) := by decide +kernel
theorem d_Md_tie_194 : decode prog_12_method_28_code 194 = .ok (.aload_n 0, 1) := by decide +kernel
theorem d_Md_tie_195 : decode prog_12_method_28_code 195 = .ok (.getfield 53, 3) := by decide +kernel
theorem d_Md_tie_198 : decode prog_12_method_28_code 198 = .ok (.iload 7, 2) := by decide +kernel
theorem d_Md_tie_200 : decode prog_12_method_28_code 200 = .ok (.iaload, 1) := by decide +kernel
theorem d_Md_tie_201 : decode prog_12_method_28_code 201 = .ok (.if_icmp .ge 19, 3) := by decide +kernel
theorem d_Md_tie_204 : decode prog_12_method_28_code 204 = .ok (.aload_n 0, 1) := by decide +kernel
theorem d_Md_tie_205 : decode prog_12_method_28_code 205 = .ok (.getfield 53, 3) := by decide +kernel
theorem d_Md_tie_208 : decode prog_12_method_28_code 208 = .ok (.iload 7, 2) := by decide +kernel
theorem d_Md_tie_210 : decode prog_12_method_28_code 210 = .ok (.aload_n 0, 1) := by decide +kernel
theorem d_Md_tie_211 : decode prog_12_method_28_code 211 = .ok (.getfield 53, 3) := by decide +kernel
theorem d_Md_tie_214 : decode prog_12_method_28_code 214 = .ok (.iload 8, 2) := by decide +kernel
theorem d_Md_tie_216 : decode prog_12_method_28_code 216 = .ok (.iaload, 1) := by decide +kernel
theorem d_Md_tie_217 : decode prog_12_method_28_code 217 = .ok (.iconst 1, 1) := by decide +kernel
theorem d_Md_tie_218 : decode prog_12_method_28_code 218 = .ok (.iadd, 1) := by decide +kernel
theorem d_Md_tie_219 : decode prog_12_method_28_code 219 = .ok (.iastore, 1) := by decide +kernel
theorem d_Md_tie_220 : decode prog_12_method_28_code 220 = .ok (.iinc 8 1, 3) := by decide +kernel
theorem d_Md_tie_223 : decode prog_12_method_28_code 223 = .ok (.goto (-63), 3) := by decide +kernel
theorem d_Md_tie_226 : decode prog_12_method_28_code 226 = .ok (.iinc 7 1, 3) := by decide +kernel
theorem d_Md_tie_229 : decode prog_12_method_28_code 229 = .ok (.goto (-81), 3) := by decide +kernel
theorem d_Md_tie_232 : decode prog_12_method_28_code 232 = .ok (.iinc 6 1, 3) := by decide +kernel
theorem d_Md_tie_235 : decode prog_12_method_28_code 235 = .ok (.goto (-99), 3) := by decide +kernel
theorem d_Md_tie_238 : decode prog_12_method_28_code 238 = .ok (.aload_n 0, 1) := by decide +kernel
theorem d_Md_tie_239 : decode prog_12_method_28_code 239 = .ok (.getfield 53, 3) := by decide +kernel
theorem d_Md_tie_242 : decode prog_12_method_28_code 242 = .ok (.iload 4, 2) := by decide +kernel
theorem d_Md_tie_244 : decode prog_12_method_28_code 244 = .ok (.iaload, 1) := by decide +kernel
theorem d_Md_tie_245 : decode prog_12_method_28_code 245 = .ok (.iconst 1, 1) := by decide +kernel
theorem d_Md_tie_246 : decode prog_12_method_28_code 246 = .ok (.iadd, 1) := by decide +kernel
theorem d_Md_tie_247 : decode prog_12_method_28_code 247 = .ok (.istore 6, 2) := by decide +kernel
theorem d_Md_tie_249 : decode prog_12_method_28_code 249 = .ok (.aload_n 0, 1) := by decide +kernel
theorem d_Md_tie_250 : decode prog_12_method_28_code 250 = .ok (.getfield 56, 3) := by decide +kernel
theorem d_Md_tie_253 : decode prog_12_method_28_code 253 = .ok (.iconst 0, 1) := by decide +kernel
theorem d_Md_tie_254 : decode prog_12_method_28_code 254 = .ok (.iload 4, 2) := by decide +kernel
theorem d_Md_tie_256 : decode prog_12_method_28_code 256 = .ok (.iastore, 1) := by decide +kernel
theorem d_Md_tie_257 : decode prog_12_method_28_code 257 = .ok (.iconst 1, 1) := by decide +kernel
theorem d_Md_tie_258 : decode prog_12_method_28_code 258 = .ok (.istore 7, 2) := by decide +kernel
theorem d_Md_tie_260 : decode prog_12_method_28_code 260 = .ok (.iload 7, 2) := by decide +kernel
theorem d_Md_tie_262 : decode prog_12_method_28_code 262 = .ok (.iload 6, 2) := by decide +kernel
theorem d_Md_tie_264 : decode prog_12_method_28_code 264 = .ok (.if_icmp .ge 67, 3) := by decide +kernel
theorem d_Md_tie_267 : decode prog_12_method_28_code 267 = .ok (.iconst 0, 1) := by decide +kernel
theorem d_Md_tie_268 : decode prog_12_method_28_code 268 = .ok (.istore 8, 2) := by decide +kernel
theorem d_Md_tie_270 : decode prog_12_method_28_code 270 = .ok (.aload_n 0, 1) := by decide +kernel
theorem d_Md_tie_271 : decode prog_12_method_28_code 271 = .ok (.getfield 34, 3) := by decide +kernel
theorem d_Md_tie_274 : decode prog_12_method_28_code 274 = .ok (.bipush 20, 2) := by decide +kernel
theorem d_Md_tie_276 : decode prog_12_method_28_code 276 = .ok (.aload_n 0, 1) := by decide +kernel
theorem d_Md_tie_277 : decode prog_12_method_28_code 277 = .ok (.getfield 56, 3) := by decide +kernel
theorem d_Md_tie_280 : decode prog_12_method_28_code 280 = .ok (.iload 7, 2) := by decide +kernel
theorem d_Md_tie_282 : decode prog_12_method_28_code 282 = .ok (.iconst 1, 1) := by decide +kernel
theorem d_Md_tie_283 : decode prog_12_method_28_code 283 = .ok (.isub, 1) := by decide +kernel
theorem d_Md_tie_284 : decode prog_12_method_28_code 284 = .ok (.iaload, 1) := by decide +kernel
theorem d_Md_tie_285 : decode prog_12_method_28_code 285 = .ok (.imul, 1) := by decide +kernel
theorem d_Md_tie_286 : decode prog_12_method_28_code 286 = .ok (.iload 8, 2) := by decide +kernel
theorem d_Md_tie_288 : decode prog_12_method_28_code 288 = .ok (.iadd, 1) := by decide +kernel
theorem d_Md_tie_289 : decode prog_12_method_28_code 289 = .ok (.baload, 1) := by decide +kernel
theorem d_Md_tie_290 : decode prog_12_method_28_code 290 = .ok (.ifCond .eq 20, 3) := by decide +kernel
theorem d_Md_tie_293 : decode prog_12_method_28_code 293 = .ok (.aload_n 0, 1) := by decide +kernel
theorem d_Md_tie_294 : decode prog_12_method_28_code 294 = .ok (.getfield 53, 3) := by decide +kernel
theorem d_Md_tie_297 : decode prog_12_method_28_code 297 = .ok (.iload 8, 2) := by decide +kernel
theorem d_Md_tie_299 : decode prog_12_method_28_code 299 = .ok (.iaload, 1) := by decide +kernel
theorem d_Md_tie_300 : decode prog_12_method_28_code 300 = .ok (.iload 6, 2) := by decide +kernel
theorem d_Md_tie_302 : decode prog_12_method_28_code 302 = .ok (.iconst 1, 1) := by decide +kernel
theorem d_Md_tie_303 : decode prog_12_method_28_code 303 = .ok (.isub, 1) := by decide +kernel
theorem d_Md_tie_304 : decode prog_12_method_28_code 304 = .ok (.iload 7, 2) := by decide +kernel
theorem d_Md_tie_306 : decode prog_12_method_28_code 306 = .ok (.isub, 1) := by decide +kernel
theorem d_Md_tie_307 : decode prog_12_method_28_code 307 = .ok (.if_icmp .eq 9, 3) := by decide +kernel
theorem d_Md_tie_310 : decode prog_12_method_28_code 310 = .ok (.iinc 8 1, 3) := by decide +kernel
theorem d_Md_tie_313 : decode prog_12_method_28_code 313 = .ok (.goto (-43), 3) := by decide +kernel
theorem d_Md_tie_316 : decode prog_12_method_28_code 316 = .ok (.aload_n 0, 1) := by decide +kernel
theorem d_Md_tie_317 : decode prog_12_method_28_code 317 = .ok (.getfield 56, 3) := by decide +kernel
theorem d_Md_tie_320 : decode prog_12_method_28_code 320 = .ok (.iload 7, 2) := by decide +kernel
theorem d_Md_tie_322 : decode prog_12_method_28_code 322 = .ok (.iload 8, 2) := by decide +kernel
theorem d_Md_tie_324 : decode prog_12_method_28_code 324 = .ok (.iastore, 1) := by decide +kernel
theorem d_Md_tie_325 : decode prog_12_method_28_code 325 = .ok (.iinc 7 1, 3) := by decide +kernel
theorem d_Md_tie_328 : decode prog_12_method_28_code 328 = .ok (.goto (-68), 3) := by decide +kernel
theorem d_Md_tie_331 : decode prog_12_method_28_code 331 = .ok (.iload_n 3, 1) := by decide +kernel
theorem d_Md_tie_332 : decode prog_12_method_28_code 332 = .ok (.iconst (-1), 1) := by decide +kernel
theorem d_Md_tie_333 : decode prog_12_method_28_code 333 = .ok (.if_icmp .ne 6, 3) := by decide +kernel
theorem d_Md_tie_336 : decode prog_12_method_28_code 336 = .ok (.iload 6, 2) := by decide +kernel
theorem d_Md_tie_338 : decode prog_12_method_28_code 338 = .ok (.ireturn, 1) := by decide +kernel
theorem d_Md_tie_339 : decode prog_12_method_28_code 339 = .ok (.iload_n 3, 1) := by decide +kernel
theorem d_Md_tie_340 : decode prog_12_method_28_code 340 = .ok (.i2l, 1) := by decide +kernel
theorem d_Md_tie_341 : decode prog_12_method_28_code 341 = .ok (.lconst 0, 1) := by decide +kernel
theorem d_Md_tie_342 : decode prog_12_method_28_code 342 = .ok (.iload 6, 2) := by decide +kernel
theorem d_Md_tie_344 : decode prog_12_method_28_code 344 = .ok (.iconst 1, 1) := by decide +kernel
theorem d_Md_tie_345 : decode prog_12_method_28_code 345 = .ok (.isub, 1) := by decide +kernel
theorem d_Md_tie_346 : decode prog_12_method_28_code 346 = .ok (.i2l, 1) := by decide +kernel
theorem d_Md_tie_347 : decode prog_12_method_28_code 347 = .ok (.invokestatic 191, 3) := by decide +kernel
theorem d_Md_tie_350 : decode prog_12_method_28_code 350 = .ok (.ifCond .eq 12, 3) := by decide +kernel
theorem d_Md_tie_353 : decode prog_12_method_28_code 353 = .ok (.aload_n 0, 1) := by decide +kernel
theorem d_Md_tie_354 : decode prog_12_method_28_code 354 = .ok (.getfield 56, 3) := by decide +kernel
theorem d_Md_tie_357 : decode prog_12_method_28_code 357 = .ok (.iload_n 3, 1) := by decide +kernel
theorem d_Md_tie_358 : decode prog_12_method_28_code 358 = .ok (.iaload, 1) := by decide +kernel
theorem d_Md_tie_359 : decode prog_12_method_28_code 359 = .ok (.goto 4, 3) := by decide +kernel
theorem d_Md_tie_362 : decode prog_12_method_28_code 362 = .ok (.iconst (-1), 1) := by decide +kernel
theorem d_Md_tie_363 : decode prog_12_method_28_code 363 = .ok (.ireturn, 1) := by decide +kernel
set_option maxHeartbeats 4000000 in
set_option maxRecDepth 100000 in
theorem K_Md_tie_81 {F : FT} (hD : ∀ σ, va_D F.2.2.1 (GW F.2.1 σ)) (hm : F.2.2.2.2.2.2.2.2.2.2.2.2.2.2.1 = 9) (ok : OkF F prog_12_method_28_code "LastSeenModel" ({ frames := 2, cells := 0, slots := 0, locals := 49 } : Room)) {Q : Int → SS → Prop} (hQ : RetI F Q) {x1 x2 x3 y0 : Int} {s : SS} (h : B_Md_tie_81 Q (fun x1 x2 x3 y0 s => AtS F 81 [(0, .ref (F.2.1.1 10)), (1, vI x1), (2, vI x2), (3, vI x3)] [vI y0] s) (fun x3 x4 x5 x6 s => AtS F 98 [(0, .ref (F.2.1.1 10)), (3, vI x3), (4, vI x4), (5, vI x5), (6, vI x6)] [] s) (fun x3 x4 x6 s => AtS F 136 [(0, .ref (F.2.1.1 10)), (3, vI x3), (4, vI x4), (6, vI x6)] [] s) (fun x3 x4 x6 x7 s => AtS F 148 [(0, .ref (F.2.1.1 10)), (3, vI x3), (4, vI x4), (6, vI x6), (7, vI x7)] [] s) (fun x3 x4 x6 x7 x8 s => AtS F 160 [(0, .ref (F.2.1.1 10)), (3, vI x3), (4, vI x4), (6, vI x6), (7, vI x7), (8, vI x8)] [] s) (fun x3 x6 x7 s => AtS F 260 [(0, .ref (F.2.1.1 10)), (3, vI x3), (6, vI x6), (7, vI x7)] [] s) (fun x3 x6 x7 x8 s => AtS F 270 [(0, .ref (F.2.1.1 10)), (3, vI x3), (6, vI x6), (7, vI x7), (8, vI x8)] [] s) x1 x2 x3 y0 s) : AtS F 81 [(0, .ref (F.2.1.1 10)), (1, vI x1), (2, vI x2), (3, vI x3)] [vI y0] s := by
  unfold B_Md_tie_81 at h
  refine r_istore ok [(4, vI y0), (0, .ref (F.2.1.1 10)), (1, vI x1), (2, vI x2), (3, vI x3)] d_Md_tie_81 hm (by decide) rfl ?_
  refine r_iload_n ok 2 d_Md_tie_83 rfl rfl ?_
  refine r_iload_n ok 3 d_Md_tie_84 rfl rfl ?_
  refine r_icmp_ge ok 92 d_Md_tie_85 (by decide) h.1 h.2.1 (fun c => ?_) (fun c => ?_)
  · replace h := h.2.2.1 c
    refine r_iload_n ok 2 d_Md_tie_92 rfl rfl ?_
    refine r_istore ok [(5, vI x1), (4, vI y0), (0, .ref (F.2.1.1 10)), (1, vI x1), (2, vI x2), (3, vI x3)] d_Md_tie_93 hm (by decide) rfl ?_
    refine r_iconst ok 0 d_Md_tie_95 rfl ?_
    refine r_istore ok [(6, vI 0), (5, vI x1), (4, vI y0), (0, .ref (F.2.1.1 10)), (1, vI x1), (2, vI x2), (3, vI x3)] d_Md_tie_96 hm (by decide) rfl ?_
    exact r_sub [3, 6, 2, 1, 0] rfl h
  · replace h := h.2.2.2 c
    refine r_iload_n ok 3 d_Md_tie_88 rfl rfl ?_
    refine r_goto ok 93 d_Md_tie_89 (by decide) ?_
    refine r_istore ok [(5, vI x2), (4, vI y0), (0, .ref (F.2.1.1 10)), (1, vI x1), (2, vI x2), (3, vI x3)] d_Md_tie_93 hm (by decide) rfl ?_
    refine r_iconst ok 0 d_Md_tie_95 rfl ?_
    refine r_istore ok [(6, vI 0), (5, vI x2), (4, vI y0), (0, .ref (F.2.1.1 10)), (1, vI x1), (2, vI x2), (3, vI x3)] d_Md_tie_96 hm (by decide) rfl ?_
    exact r_sub [3, 6, 2, 1, 0] rfl h
set_option maxHeartbeats 4000000 in
set_option maxRecDepth 100000 in
theorem K_Md_tie_98 {F : FT} (hD : ∀ σ, va_D F.2.2.1 (GW F.2.1 σ)) (hm : F.2.2.2.2.2.2.2.2.2.2.2.2.2.2.1 = 9) (ok : OkF F prog_12_method_28_code "LastSeenModel" ({ frames := 2, cells := 0, slots := 0, locals := 49 } : Room)) {Q : Int → SS → Prop} (hQ : RetI F Q) {x3 x4 x5 x6 : Int} {s : SS} (h : B_Md_tie_98 Q (fun x1 x2 x3 y0 s => AtS F 81 [(0, .ref (F.2.1.1 10)), (1, vI x1), (2, vI x2), (3, vI x3)] [vI y0] s) (fun x3 x4 x5 x6 s => AtS F 98 [(0, .ref (F.2.1.1 10)), (3, vI x3), (4, vI x4), (5, vI x5), (6, vI x6)] [] s) (fun x3 x4 x6 s => AtS F 136 [(0, .ref (F.2.1.1 10)), (3, vI x3), (4, vI x4), (6, vI x6)] [] s) (fun x3 x4 x6 x7 s => AtS F 148 [(0, .ref (F.2.1.1 10)), (3, vI x3), (4, vI x4), (6, vI x6), (7, vI x7)] [] s) (fun x3 x4 x6 x7 x8 s => AtS F 160 [(0, .ref (F.2.1.1 10)), (3, vI x3), (4, vI x4), (6, vI x6), (7, vI x7), (8, vI x8)] [] s) (fun x3 x6 x7 s => AtS F 260 [(0, .ref (F.2.1.1 10)), (3, vI x3), (6, vI x6), (7, vI x7)] [] s) (fun x3 x6 x7 x8 s => AtS F 270 [(0, .ref (F.2.1.1 10)), (3, vI x3), (6, vI x6), (7, vI x7), (8, vI x8)] [] s) x3 x4 x5 x6 s) : AtS F 98 [(0, .ref (F.2.1.1 10)), (3, vI x3), (4, vI x4), (5, vI x5), (6, vI x6)] [] s := by
  unfold B_Md_tie_98 at h
  refine r_iload ok 4 d_Md_tie_98 rfl ?_
  refine r_aload_n ok 0 d_Md_tie_100 rfl rfl ?_
  refine g_Md_names ok d_Md_tie_101 ?_
  refine r_icmp_ge ok 133 d_Md_tie_104 (by decide) h.1 h.2.1 (fun c => ?_) (fun c => ?_)
  · replace h := h.2.2.1 c
    refine r_iconst ok 0 d_Md_tie_133 rfl ?_
    refine r_istore ok [(6, vI 0), (0, .ref (F.2.1.1 10)), (3, vI x3), (4, vI x4), (5, vI x5)] d_Md_tie_134 hm (by decide) rfl ?_
    exact r_sub [1, 2, 3, 0] rfl h
  · replace h := h.2.2.2 c
    refine r_aload_n ok 0 d_Md_tie_107 rfl rfl ?_
    refine g_Md_steps ok d_Md_tie_108 ?_
    refine r_iload ok 4 d_Md_tie_111 rfl ?_
    refine r_iload ok 4 d_Md_tie_113 rfl ?_
    refine r_iload ok 3 d_Md_tie_115 rfl ?_
    refine r_icmp_ne ok 124 d_Md_tie_117 (by decide) h.1 h.2.1 (fun c => ?_) (fun c => ?_)
    · replace h := h.2.2.1 c
      refine r_bipush ok 100 d_Md_tie_124 (by decide) ?_
      refine r_iast ok 73 d_Md_tie_126 (by decide) rfl h.1 ?_
      replace h := h.2 _ rfl
      generalize sA s 73 x6 100 = s6 at h ⊢
      refine r_iinc ok 4 (x6 + 1) [(6, vI (x6 + 1)), (0, .ref (F.2.1.1 10)), (3, vI x3), (4, vI x4), (5, vI x5)] d_Md_tie_127 rfl rfl hm (by decide) rfl ?_
      refine r_goto ok 98 d_Md_tie_130 (by decide) ?_
      exact r_sub [1, 2, 3, 4, 0] rfl h
    · replace h := h.2.2.2 c
      refine r_iconst ok 0 d_Md_tie_120 rfl ?_
      refine r_goto ok 126 d_Md_tie_121 (by decide) ?_
      refine r_iast ok 73 d_Md_tie_126 (by decide) rfl h.1 ?_
      replace h := h.2 _ rfl
      generalize sA s 73 x6 0 = s7 at h ⊢
      refine r_iinc ok 4 (x6 + 1) [(6, vI (x6 + 1)), (0, .ref (F.2.1.1 10)), (3, vI x3), (4, vI x4), (5, vI x5)] d_Md_tie_127 rfl rfl hm (by decide) rfl ?_
      refine r_goto ok 98 d_Md_tie_130 (by decide) ?_
      exact r_sub [1, 2, 3, 4, 0] rfl h
set_option maxHeartbeats 4000000 in
set_option maxRecDepth 100000 in
theorem K_Md_tie_136 {F : FT} (hD : ∀ σ, va_D F.2.2.1 (GW F.2.1 σ)) (hm : F.2.2.2.2.2.2.2.2.2.2.2.2.2.2.1 = 9) (ok : OkF F prog_12_method_28_code "LastSeenModel" ({ frames := 2, cells := 0, slots := 0, locals := 49 } : Room)) {Q : Int → SS → Prop} (hQ : RetI F Q) {x3 x4 x6 : Int} {s : SS} (h : B_Md_tie_136 Q (fun x1 x2 x3 y0 s => AtS F 81 [(0, .ref (F.2.1.1 10)), (1, vI x1), (2, vI x2), (3, vI x3)] [vI y0] s) (fun x3 x4 x5 x6 s => AtS F 98 [(0, .ref (F.2.1.1 10)), (3, vI x3), (4, vI x4), (5, vI x5), (6, vI x6)] [] s) (fun x3 x4 x6 s => AtS F 136 [(0, .ref (F.2.1.1 10)), (3, vI x3), (4, vI x4), (6, vI x6)] [] s) (fun x3 x4 x6 x7 s => AtS F 148 [(0, .ref (F.2.1.1 10)), (3, vI x3), (4, vI x4), (6, vI x6), (7, vI x7)] [] s) (fun x3 x4 x6 x7 x8 s => AtS F 160 [(0, .ref (F.2.1.1 10)), (3, vI x3), (4, vI x4), (6, vI x6), (7, vI x7), (8, vI x8)] [] s) (fun x3 x6 x7 s => AtS F 260 [(0, .ref (F.2.1.1 10)), (3, vI x3), (6, vI x6), (7, vI x7)] [] s) (fun x3 x6 x7 x8 s => AtS F 270 [(0, .ref (F.2.1.1 10)), (3, vI x3), (6, vI x6), (7, vI x7), (8, vI x8)] [] s) x3 x4 x6 s) : AtS F 136 [(0, .ref (F.2.1.1 10)), (3, vI x3), (4, vI x4), (6, vI x6)] [] s := by
  unfold B_Md_tie_136 at h
  refine r_iload ok 3 d_Md_tie_136 rfl ?_
  refine r_aload_n ok 0 d_Md_tie_138 rfl rfl ?_
  refine g_Md_names ok d_Md_tie_139 ?_
  refine r_icmp_ge ok 238 d_Md_tie_142 (by decide) h.1 h.2.1 (fun c => ?_) (fun c => ?_)
  · replace h := h.2.2.1 c
    refine r_aload_n ok 0 d_Md_tie_238 rfl rfl ?_
    refine g_Md_steps ok d_Md_tie_239 ?_
    refine r_iload ok 2 d_Md_tie_242 rfl ?_
    refine r_iald ok 73 d_Md_tie_244 (by decide) rfl h.1 ?_
    replace h := h.2
    refine r_iconst ok 1 d_Md_tie_245 rfl ?_
    refine r_iadd ok d_Md_tie_246 ?_
    refine r_istore ok [(6, vI ((s.2 73 x4) + 1)), (0, .ref (F.2.1.1 10)), (3, vI x3), (4, vI x4)] d_Md_tie_247 hm (by decide) rfl ?_
    refine r_aload_n ok 1 d_Md_tie_249 rfl rfl ?_
    refine g_Md_way ok d_Md_tie_250 ?_
    refine r_iconst ok 0 d_Md_tie_253 rfl ?_
    refine r_iload ok 3 d_Md_tie_254 rfl ?_
    refine r_iast ok 74 d_Md_tie_256 (by decide) rfl (by decide) ?_
    replace h := h _ rfl
    generalize sA s 74 0 x4 = s8 at h ⊢
    refine r_iconst ok 1 d_Md_tie_257 rfl ?_
    refine r_istore ok [(7, vI 1), (6, vI ((s.2 73 x4) + 1)), (0, .ref (F.2.1.1 10)), (3, vI x3), (4, vI x4)] d_Md_tie_258 hm (by decide) rfl ?_
    exact r_sub [2, 3, 1, 0] rfl h
  · replace h := h.2.2.2 c
    refine r_iconst ok 0 d_Md_tie_145 rfl ?_
    refine r_istore ok [(7, vI 0), (0, .ref (F.2.1.1 10)), (3, vI x3), (4, vI x4), (6, vI x6)] d_Md_tie_146 hm (by decide) rfl ?_
    exact r_sub [1, 2, 3, 4, 0] rfl h
set_option maxHeartbeats 4000000 in
set_option maxRecDepth 100000 in
theorem K_Md_tie_148 {F : FT} (hD : ∀ σ, va_D F.2.2.1 (GW F.2.1 σ)) (hm : F.2.2.2.2.2.2.2.2.2.2.2.2.2.2.1 = 9) (ok : OkF F prog_12_method_28_code "LastSeenModel" ({ frames := 2, cells := 0, slots := 0, locals := 49 } : Room)) {Q : Int → SS → Prop} (hQ : RetI F Q) {x3 x4 x6 x7 : Int} {s : SS} (h : B_Md_tie_148 Q (fun x1 x2 x3 y0 s => AtS F 81 [(0, .ref (F.2.1.1 10)), (1, vI x1), (2, vI x2), (3, vI x3)] [vI y0] s) (fun x3 x4 x5 x6 s => AtS F 98 [(0, .ref (F.2.1.1 10)), (3, vI x3), (4, vI x4), (5, vI x5), (6, vI x6)] [] s) (fun x3 x4 x6 s => AtS F 136 [(0, .ref (F.2.1.1 10)), (3, vI x3), (4, vI x4), (6, vI x6)] [] s) (fun x3 x4 x6 x7 s => AtS F 148 [(0, .ref (F.2.1.1 10)), (3, vI x3), (4, vI x4), (6, vI x6), (7, vI x7)] [] s) (fun x3 x4 x6 x7 x8 s => AtS F 160 [(0, .ref (F.2.1.1 10)), (3, vI x3), (4, vI x4), (6, vI x6), (7, vI x7), (8, vI x8)] [] s) (fun x3 x6 x7 s => AtS F 260 [(0, .ref (F.2.1.1 10)), (3, vI x3), (6, vI x6), (7, vI x7)] [] s) (fun x3 x6 x7 x8 s => AtS F 270 [(0, .ref (F.2.1.1 10)), (3, vI x3), (6, vI x6), (7, vI x7), (8, vI x8)] [] s) x3 x4 x6 x7 s) : AtS F 148 [(0, .ref (F.2.1.1 10)), (3, vI x3), (4, vI x4), (6, vI x6), (7, vI x7)] [] s := by
  unfold B_Md_tie_148 at h
  refine r_iload ok 4 d_Md_tie_148 rfl ?_
  refine r_aload_n ok 0 d_Md_tie_150 rfl rfl ?_
  refine g_Md_names ok d_Md_tie_151 ?_
  refine r_icmp_ge ok 232 d_Md_tie_154 (by decide) h.1 h.2.1 (fun c => ?_) (fun c => ?_)
  · replace h := h.2.2.1 c
    refine r_iinc ok 3 (x6 + 1) [(6, vI (x6 + 1)), (0, .ref (F.2.1.1 10)), (3, vI x3), (4, vI x4), (7, vI x7)] d_Md_tie_232 rfl rfl hm (by decide) rfl ?_
    refine r_goto ok 136 d_Md_tie_235 (by decide) ?_
    exact r_sub [1, 2, 3, 0] rfl h
  · replace h := h.2.2.2 c
    refine r_iconst ok 0 d_Md_tie_157 rfl ?_
    refine r_istore ok [(8, vI 0), (0, .ref (F.2.1.1 10)), (3, vI x3), (4, vI x4), (6, vI x6), (7, vI x7)] d_Md_tie_158 hm (by decide) rfl ?_
    exact r_sub [1, 2, 3, 4, 5, 0] rfl h
set_option maxHeartbeats 4000000 in
set_option maxRecDepth 100000 in
theorem K_Md_tie_160 {F : FT} (hD : ∀ σ, va_D F.2.2.1 (GW F.2.1 σ)) (hm : F.2.2.2.2.2.2.2.2.2.2.2.2.2.2.1 = 9) (ok : OkF F prog_12_method_28_code "LastSeenModel" ({ frames := 2, cells := 0, slots := 0, locals := 49 } : Room)) {Q : Int → SS → Prop} (hQ : RetI F Q) {x3 x4 x6 x7 x8 : Int} {s : SS} (h : B_Md_tie_160 Q (fun x1 x2 x3 y0 s => AtS F 81 [(0, .ref (F.2.1.1 10)), (1, vI x1), (2, vI x2), (3, vI x3)] [vI y0] s) (fun x3 x4 x5 x6 s => AtS F 98 [(0, .ref (F.2.1.1 10)), (3, vI x3), (4, vI x4), (5, vI x5), (6, vI x6)] [] s) (fun x3 x4 x6 s => AtS F 136 [(0, .ref (F.2.1.1 10)), (3, vI x3), (4, vI x4), (6, vI x6)] [] s) (fun x3 x4 x6 x7 s => AtS F 148 [(0, .ref (F.2.1.1 10)), (3, vI x3), (4, vI x4), (6, vI x6), (7, vI x7)] [] s) (fun x3 x4 x6 x7 x8 s => AtS F 160 [(0, .ref (F.2.1.1 10)), (3, vI x3), (4, vI x4), (6, vI x6), (7, vI x7), (8, vI x8)] [] s) (fun x3 x6 x7 s => AtS F 260 [(0, .ref (F.2.1.1 10)), (3, vI x3), (6, vI x6), (7, vI x7)] [] s) (fun x3 x6 x7 x8 s => AtS F 270 [(0, .ref (F.2.1.1 10)), (3, vI x3), (6, vI x6), (7, vI x7), (8, vI x8)] [] s) x3 x4 x6 x7 x8 s) : AtS F 160 [(0, .ref (F.2.1.1 10)), (3, vI x3), (4, vI x4), (6, vI x6), (7, vI x7), (8, vI x8)] [] s := by
  unfold B_Md_tie_160 at h
  refine r_iload ok 5 d_Md_tie_160 rfl ?_
  refine r_aload_n ok 0 d_Md_tie_162 rfl rfl ?_
  refine g_Md_names ok d_Md_tie_163 ?_
  refine r_icmp_ge ok 226 d_Md_tie_166 (by decide) h.1 h.2.1 (fun c => ?_) (fun c => ?_)
  · replace h := h.2.2.1 c
    refine r_iinc ok 4 (x7 + 1) [(7, vI (x7 + 1)), (0, .ref (F.2.1.1 10)), (3, vI x3), (4, vI x4), (6, vI x6), (8, vI x8)] d_Md_tie_226 rfl rfl hm (by decide) rfl ?_
    refine r_goto ok 148 d_Md_tie_229 (by decide) ?_
    exact r_sub [1, 2, 3, 4, 0] rfl h
  · replace h := h.2.2.2 c
    refine r_aload_n ok 0 d_Md_tie_169 rfl rfl ?_
    refine g_Md_isLinked ok d_Md_tie_170 ?_
    refine r_bipush ok 20 d_Md_tie_173 (by decide) ?_
    refine r_iload ok 4 d_Md_tie_175 rfl ?_
    refine r_imul ok d_Md_tie_177 ?_
    refine r_iload ok 5 d_Md_tie_178 rfl ?_
    refine r_iadd ok d_Md_tie_180 ?_
    refine r_zald ok 67 d_Md_tie_181 (by decide) rfl h.1 ?_
    replace h := h.2
    refine r_if_eq ok 220 d_Md_tie_182 (by decide) h.1 (fun c => ?_) (fun c => ?_)
    · replace h := h.2.1 c
      refine r_iinc ok 5 (x8 + 1) [(8, vI (x8 + 1)), (0, .ref (F.2.1.1 10)), (3, vI x3), (4, vI x4), (6, vI x6), (7, vI x7)] d_Md_tie_220 rfl rfl hm (by decide) rfl ?_
      refine r_goto ok 160 d_Md_tie_223 (by decide) ?_
      exact r_sub [1, 2, 3, 4, 5, 0] rfl h
    · replace h := h.2.2 c
      refine r_aload_n ok 0 d_Md_tie_185 rfl rfl ?_
      refine g_Md_steps ok d_Md_tie_186 ?_
      refine r_iload ok 5 d_Md_tie_189 rfl ?_
      refine r_iald ok 73 d_Md_tie_191 (by decide) rfl h.1 ?_
      replace h := h.2
      refine r_iconst ok 1 d_Md_tie_192 rfl ?_
      refine r_iadd ok d_Md_tie_193 ?_
      refine r_aload_n ok 0 d_Md_tie_194 rfl rfl ?_
      refine g_Md_steps ok d_Md_tie_195 ?_
      refine r_iload ok 4 d_Md_tie_198 rfl ?_
      refine r_iald ok 73 d_Md_tie_200 (by decide) rfl h.1 ?_
      replace h := h.2
      refine r_icmp_ge ok 220 d_Md_tie_201 (by decide) h.1 h.2.1 (fun c => ?_) (fun c => ?_)
      · replace h := h.2.2.1 c
        refine r_iinc ok 5 (x8 + 1) [(8, vI (x8 + 1)), (0, .ref (F.2.1.1 10)), (3, vI x3), (4, vI x4), (6, vI x6), (7, vI x7)] d_Md_tie_220 rfl rfl hm (by decide) rfl ?_
        refine r_goto ok 160 d_Md_tie_223 (by decide) ?_
        exact r_sub [1, 2, 3, 4, 5, 0] rfl h
      · replace h := h.2.2.2 c
        refine r_aload_n ok 0 d_Md_tie_204 rfl rfl ?_
        refine g_Md_steps ok d_Md_tie_205 ?_
        refine r_iload ok 4 d_Md_tie_208 rfl ?_
        refine r_aload_n ok 0 d_Md_tie_210 rfl rfl ?_
        refine g_Md_steps ok d_Md_tie_211 ?_
        refine r_iload ok 5 d_Md_tie_214 rfl ?_
        refine r_iald ok 73 d_Md_tie_216 (by decide) rfl h.1 ?_
        replace h := h.2
        refine r_iconst ok 1 d_Md_tie_217 rfl ?_
        refine r_iadd ok d_Md_tie_218 ?_
        refine r_iast ok 73 d_Md_tie_219 (by decide) rfl h.1 ?_
        replace h := h.2 _ rfl
        generalize sA s 73 x7 ((s.2 73 x8) + 1) = s12 at h ⊢
        refine r_iinc ok 5 (x8 + 1) [(8, vI (x8 + 1)), (0, .ref (F.2.1.1 10)), (3, vI x3), (4, vI x4), (6, vI x6), (7, vI x7)] d_Md_tie_220 rfl rfl hm (by decide) rfl ?_
        refine r_goto ok 160 d_Md_tie_223 (by decide) ?_
        exact r_sub [1, 2, 3, 4, 5, 0] rfl h
set_option maxHeartbeats 4000000 in
set_option maxRecDepth 100000 in
theorem K_Md_tie_260 {F : FT} (hD : ∀ σ, va_D F.2.2.1 (GW F.2.1 σ)) (hm : F.2.2.2.2.2.2.2.2.2.2.2.2.2.2.1 = 9) (ok : OkF F prog_12_method_28_code "LastSeenModel" ({ frames := 2, cells := 0, slots := 0, locals := 49 } : Room)) {Q : Int → SS → Prop} (hQ : RetI F Q) {x3 x6 x7 : Int} {s : SS} (h : B_Md_tie_260 Q (fun x1 x2 x3 y0 s => AtS F 81 [(0, .ref (F.2.1.1 10)), (1, vI x1), (2, vI x2), (3, vI x3)] [vI y0] s) (fun x3 x4 x5 x6 s => AtS F 98 [(0, .ref (F.2.1.1 10)), (3, vI x3), (4, vI x4), (5, vI x5), (6, vI x6)] [] s) (fun x3 x4 x6 s => AtS F 136 [(0, .ref (F.2.1.1 10)), (3, vI x3), (4, vI x4), (6, vI x6)] [] s) (fun x3 x4 x6 x7 s => AtS F 148 [(0, .ref (F.2.1.1 10)), (3, vI x3), (4, vI x4), (6, vI x6), (7, vI x7)] [] s) (fun x3 x4 x6 x7 x8 s => AtS F 160 [(0, .ref (F.2.1.1 10)), (3, vI x3), (4, vI x4), (6, vI x6), (7, vI x7), (8, vI x8)] [] s) (fun x3 x6 x7 s => AtS F 260 [(0, .ref (F.2.1.1 10)), (3, vI x3), (6, vI x6), (7, vI x7)] [] s) (fun x3 x6 x7 x8 s => AtS F 270 [(0, .ref (F.2.1.1 10)), (3, vI x3), (6, vI x6), (7, vI x7), (8, vI x8)] [] s) x3 x6 x7 s) : AtS F 260 [(0, .ref (F.2.1.1 10)), (3, vI x3), (6, vI x6), (7, vI x7)] [] s := by
  unfold B_Md_tie_260 at h
  refine r_iload ok 3 d_Md_tie_260 rfl ?_
  refine r_iload ok 2 d_Md_tie_262 rfl ?_
  refine r_icmp_ge ok 331 d_Md_tie_264 (by decide) h.1 h.2.1 (fun c => ?_) (fun c => ?_)
  · replace h := h.2.2.1 c
    refine r_iload_n ok 1 d_Md_tie_331 rfl rfl ?_
    refine r_iconst ok (-1) d_Md_tie_332 rfl ?_
    refine r_icmp_ne ok 339 d_Md_tie_333 (by decide) h.1 (by decide) (fun c => ?_) (fun c => ?_)
    · replace h := h.2.1 c
      refine r_iload_n ok 1 d_Md_tie_339 rfl rfl ?_
      refine r_i2l ok d_Md_tie_340 h.1 ?_
      replace h := h.2
      refine r_lconst ok 0 d_Md_tie_341 (by decide) ?_
      refine r_iload ok 2 d_Md_tie_342 rfl ?_
      refine r_iconst ok 1 d_Md_tie_344 rfl ?_
      refine r_isub ok d_Md_tie_345 ?_
      refine r_i2l ok d_Md_tie_346 h.1 ?_
      replace h := h.2
      refine r_callSi (As := [vJ x3, vJ 0, vJ (x6 - 1)]) (rest := []) ok wl_Md_191 wt_y_Md_isIn wn_Md wc_y_Md_isIn (by decide) (by decide) hh_Md_isIn (Nat.le_of_ble_eq_true rfl) rfl d_Md_tie_347 (L_Md_isIn F.1 F.2.1 F.2.2.1 hD h) (fun r10 s9 h => ?_)
      refine r_if_eq ok 362 d_Md_tie_350 (by decide) h.1 (fun c => ?_) (fun c => ?_)
      · replace h := h.2.1 c
        refine r_iconst ok (-1) d_Md_tie_362 rfl ?_
        exact hQ _ _ _ _ _ (ok_code ok) d_Md_tie_363 h
      · replace h := h.2.2 c
        refine r_aload_n ok 0 d_Md_tie_353 rfl rfl ?_
        refine g_Md_way ok d_Md_tie_354 ?_
        refine r_iload_n ok 1 d_Md_tie_357 rfl rfl ?_
        refine r_iald ok 74 d_Md_tie_358 (by decide) rfl h.1 ?_
        replace h := h.2
        refine r_goto ok 363 d_Md_tie_359 (by decide) ?_
        exact hQ _ _ _ _ _ (ok_code ok) d_Md_tie_363 h
    · replace h := h.2.2 c
      refine r_iload ok 2 d_Md_tie_336 rfl ?_
      exact hQ _ _ _ _ _ (ok_code ok) d_Md_tie_338 h
  · replace h := h.2.2.2 c
    refine r_iconst ok 0 d_Md_tie_267 rfl ?_
    refine r_istore ok [(8, vI 0), (0, .ref (F.2.1.1 10)), (3, vI x3), (6, vI x6), (7, vI x7)] d_Md_tie_268 hm (by decide) rfl ?_
    exact r_sub [1, 2, 3, 4, 0] rfl h
set_option maxHeartbeats 4000000 in
set_option maxRecDepth 100000 in
theorem K_Md_tie_270 {F : FT} (hD : ∀ σ, va_D F.2.2.1 (GW F.2.1 σ)) (hm : F.2.2.2.2.2.2.2.2.2.2.2.2.2.2.1 = 9) (ok : OkF F prog_12_method_28_code "LastSeenModel" ({ frames := 2, cells := 0, slots := 0, locals := 49 } : Room)) {Q : Int → SS → Prop} (hQ : RetI F Q) {x3 x6 x7 x8 : Int} {s : SS} (h : B_Md_tie_270 Q (fun x1 x2 x3 y0 s => AtS F 81 [(0, .ref (F.2.1.1 10)), (1, vI x1), (2, vI x2), (3, vI x3)] [vI y0] s) (fun x3 x4 x5 x6 s => AtS F 98 [(0, .ref (F.2.1.1 10)), (3, vI x3), (4, vI x4), (5, vI x5), (6, vI x6)] [] s) (fun x3 x4 x6 s => AtS F 136 [(0, .ref (F.2.1.1 10)), (3, vI x3), (4, vI x4), (6, vI x6)] [] s) (fun x3 x4 x6 x7 s => AtS F 148 [(0, .ref (F.2.1.1 10)), (3, vI x3), (4, vI x4), (6, vI x6), (7, vI x7)] [] s) (fun x3 x4 x6 x7 x8 s => AtS F 160 [(0, .ref (F.2.1.1 10)), (3, vI x3), (4, vI x4), (6, vI x6), (7, vI x7), (8, vI x8)] [] s) (fun x3 x6 x7 s => AtS F 260 [(0, .ref (F.2.1.1 10)), (3, vI x3), (6, vI x6), (7, vI x7)] [] s) (fun x3 x6 x7 x8 s => AtS F 270 [(0, .ref (F.2.1.1 10)), (3, vI x3), (6, vI x6), (7, vI x7), (8, vI x8)] [] s) x3 x6 x7 x8 s) : AtS F 270 [(0, .ref (F.2.1.1 10)), (3, vI x3), (6, vI x6), (7, vI x7), (8, vI x8)] [] s := by
  unfold B_Md_tie_270 at h
  refine r_aload_n ok 0 d_Md_tie_270 rfl rfl ?_
  refine g_Md_isLinked ok d_Md_tie_271 ?_
  refine r_bipush ok 20 d_Md_tie_274 (by decide) ?_
  refine r_aload_n ok 0 d_Md_tie_276 rfl rfl ?_
  refine g_Md_way ok d_Md_tie_277 ?_
  refine r_iload ok 3 d_Md_tie_280 rfl ?_
  refine r_iconst ok 1 d_Md_tie_282 rfl ?_
  refine r_isub ok d_Md_tie_283 ?_
  refine r_iald ok 74 d_Md_tie_284 (by decide) rfl h.1 ?_
  replace h := h.2
  refine r_imul ok d_Md_tie_285 ?_
  refine r_iload ok 4 d_Md_tie_286 rfl ?_
  refine r_iadd ok d_Md_tie_288 ?_
  refine r_zald ok 67 d_Md_tie_289 (by decide) rfl h.1 ?_
  replace h := h.2
  refine r_if_eq ok 310 d_Md_tie_290 (by decide) h.1 (fun c => ?_) (fun c => ?_)
  · replace h := h.2.1 c
    refine r_iinc ok 4 (x8 + 1) [(8, vI (x8 + 1)), (0, .ref (F.2.1.1 10)), (3, vI x3), (6, vI x6), (7, vI x7)] d_Md_tie_310 rfl rfl hm (by decide) rfl ?_
    refine r_goto ok 270 d_Md_tie_313 (by decide) ?_
    exact r_sub [1, 2, 3, 4, 0] rfl h
  · replace h := h.2.2 c
    refine r_aload_n ok 0 d_Md_tie_293 rfl rfl ?_
    refine g_Md_steps ok d_Md_tie_294 ?_
    refine r_iload ok 4 d_Md_tie_297 rfl ?_
    refine r_iald ok 73 d_Md_tie_299 (by decide) rfl h.1 ?_
    replace h := h.2
    refine r_iload ok 2 d_Md_tie_300 rfl ?_
    refine r_iconst ok 1 d_Md_tie_302 rfl ?_
    refine r_isub ok d_Md_tie_303 ?_
    refine r_iload ok 3 d_Md_tie_304 rfl ?_
    refine r_isub ok d_Md_tie_306 ?_
    refine r_icmp_eq ok 316 d_Md_tie_307 (by decide) h.1 h.2.1 (fun c => ?_) (fun c => ?_)
    · replace h := h.2.2.1 c
      refine r_aload_n ok 0 d_Md_tie_316 rfl rfl ?_
      refine g_Md_way ok d_Md_tie_317 ?_
      refine r_iload ok 3 d_Md_tie_320 rfl ?_
      refine r_iload ok 4 d_Md_tie_322 rfl ?_
      refine r_iast ok 74 d_Md_tie_324 (by decide) rfl h.1 ?_
      replace h := h.2 _ rfl
      generalize sA s 74 x7 x8 = s11 at h ⊢
      refine r_iinc ok 3 (x7 + 1) [(7, vI (x7 + 1)), (0, .ref (F.2.1.1 10)), (3, vI x3), (6, vI x6), (8, vI x8)] d_Md_tie_325 rfl rfl hm (by decide) rfl ?_
      refine r_goto ok 260 d_Md_tie_328 (by decide) ?_
      exact r_sub [1, 2, 3, 0] rfl h
    · replace h := h.2.2.2 c
      refine r_iinc ok 4 (x8 + 1) [(8, vI (x8 + 1)), (0, .ref (F.2.1.1 10)), (3, vI x3), (6, vI x6), (7, vI x7)] d_Md_tie_310 rfl rfl hm (by decide) rfl ?_
      refine r_goto ok 270 d_Md_tie_313 (by decide) ?_
      exact r_sub [1, 2, 3, 4, 0] rfl h
set_option maxHeartbeats 4000000 in
set_option maxRecDepth 100000 in
theorem K_Md_tie_e {F : FT} (hD : ∀ σ, va_D F.2.2.1 (GW F.2.1 σ)) (hm : F.2.2.2.2.2.2.2.2.2.2.2.2.2.2.1 = 9) (ok : OkF F prog_12_method_28_code "LastSeenModel" ({ frames := 2, cells := 0, slots := 0, locals := 49 } : Room)) {Q : Int → SS → Prop} (hQ : RetI F Q) {x1 x2 x3 : Int} {s : SS} (h : B_Md_tie_e Q (fun x1 x2 x3 y0 s => AtS F 81 [(0, .ref (F.2.1.1 10)), (1, vI x1), (2, vI x2), (3, vI x3)] [vI y0] s) (fun x3 x4 x5 x6 s => AtS F 98 [(0, .ref (F.2.1.1 10)), (3, vI x3), (4, vI x4), (5, vI x5), (6, vI x6)] [] s) (fun x3 x4 x6 s => AtS F 136 [(0, .ref (F.2.1.1 10)), (3, vI x3), (4, vI x4), (6, vI x6)] [] s) (fun x3 x4 x6 x7 s => AtS F 148 [(0, .ref (F.2.1.1 10)), (3, vI x3), (4, vI x4), (6, vI x6), (7, vI x7)] [] s) (fun x3 x4 x6 x7 x8 s => AtS F 160 [(0, .ref (F.2.1.1 10)), (3, vI x3), (4, vI x4), (6, vI x6), (7, vI x7), (8, vI x8)] [] s) (fun x3 x6 x7 s => AtS F 260 [(0, .ref (F.2.1.1 10)), (3, vI x3), (6, vI x6), (7, vI x7)] [] s) (fun x3 x6 x7 x8 s => AtS F 270 [(0, .ref (F.2.1.1 10)), (3, vI x3), (6, vI x6), (7, vI x7), (8, vI x8)] [] s) x1 x2 x3 s) : AtS F 0 [(0, .ref (F.2.1.1 10)), (1, vI x1), (2, vI x2), (3, vI x3)] [] s := by
  unfold B_Md_tie_e at h
  refine r_aload_n ok 0 d_Md_tie_0 rfl rfl ?_
  refine r_iload_n ok 1 d_Md_tie_1 rfl rfl ?_
  refine r_callVi (As := [vI x1]) (rest := []) ok 10 rfl rfl rfl wl_Md_237 wi_y_Md_isName ws_y_Md_isName wn_Md wc_y_Md_isName (by decide) (by decide) hh_Md_isName (Nat.le_of_ble_eq_true rfl) rfl d_Md_tie_2 (L_Md_isName F.1 F.2.1 F.2.2.1 hD h) (fun r2 s1 h => ?_)
  refine r_if_eq ok 21 d_Md_tie_5 (by decide) h.1 (fun c => ?_) (fun c => ?_)
  · replace h := h.2.1 c
    refine r_iconst ok (-1) d_Md_tie_21 rfl ?_
    exact hQ _ _ _ _ _ (ok_code ok) d_Md_tie_22 h
  · replace h := h.2.2 c
    refine r_aload_n ok 0 d_Md_tie_8 rfl rfl ?_
    refine r_iload_n ok 2 d_Md_tie_9 rfl rfl ?_
    refine r_callVi (As := [vI x2]) (rest := []) ok 10 rfl rfl rfl wl_Md_237 wi_y_Md_isName ws_y_Md_isName wn_Md wc_y_Md_isName (by decide) (by decide) hh_Md_isName (Nat.le_of_ble_eq_true rfl) rfl d_Md_tie_10 (L_Md_isName F.1 F.2.1 F.2.2.1 hD h) (fun r4 s3 h => ?_)
    refine r_if_eq ok 21 d_Md_tie_13 (by decide) h.1 (fun c => ?_) (fun c => ?_)
    · replace h := h.2.1 c
      refine r_iconst ok (-1) d_Md_tie_21 rfl ?_
      exact hQ _ _ _ _ _ (ok_code ok) d_Md_tie_22 h
    · replace h := h.2.2 c
      refine r_iload_n ok 3 d_Md_tie_16 rfl rfl ?_
      refine r_iconst ok (-1) d_Md_tie_17 rfl ?_
      refine r_icmp_ge ok 23 d_Md_tie_18 (by decide) h.1 (by decide) (fun c => ?_) (fun c => ?_)
      · replace h := h.2.1 c
        refine r_iload_n ok 1 d_Md_tie_23 rfl rfl ?_
        refine r_iload_n ok 2 d_Md_tie_24 rfl rfl ?_
        refine r_icmp_ne ok 31 d_Md_tie_25 (by decide) h.1 h.2.1 (fun c => ?_) (fun c => ?_)
        · replace h := h.2.2.1 c
          refine r_aload_n ok 0 d_Md_tie_31 rfl rfl ?_
          refine r_aload_n ok 0 d_Md_tie_32 rfl rfl ?_
          refine g_Md_entries ok d_Md_tie_33 ?_
          refine r_callVv (As := [vI (s3.1 29)]) (rest := []) ok 10 rfl rfl rfl wl_Md_266 wi_y_Md_looks ws_y_Md_looks wn_Md wc_y_Md_looks (by decide) (by decide) hh_Md_looks (Nat.le_of_ble_eq_true rfl) rfl d_Md_tie_36 (L_Md_looks F.1 F.2.1 F.2.2.1 hD h) (fun s5 h => ?_)
          refine r_aload_n ok 0 d_Md_tie_39 rfl rfl ?_
          refine g_Md_isParted ok d_Md_tie_40 ?_
          refine r_bipush ok 20 d_Md_tie_43 (by decide) ?_
          refine r_iload_n ok 1 d_Md_tie_45 rfl rfl ?_
          refine r_imul ok d_Md_tie_46 ?_
          refine r_iload_n ok 2 d_Md_tie_47 rfl rfl ?_
          refine r_iadd ok d_Md_tie_48 ?_
          refine r_zald ok 68 d_Md_tie_49 (by decide) rfl h.1 ?_
          replace h := h.2
          refine r_if_eq ok 68 d_Md_tie_50 (by decide) h.1 (fun c => ?_) (fun c => ?_)
          · replace h := h.2.1 c
            refine r_bipush ok (-3) d_Md_tie_68 (by decide) ?_
            exact hQ _ _ _ _ _ (ok_code ok) d_Md_tie_70 h
          · replace h := h.2.2 c
            refine r_aload_n ok 0 d_Md_tie_53 rfl rfl ?_
            refine g_Md_person ok d_Md_tie_54 ?_
            refine r_iload_n ok 1 d_Md_tie_57 rfl rfl ?_
            refine r_iald ok 72 d_Md_tie_58 (by decide) rfl h.1 ?_
            replace h := h.2
            refine r_aload_n ok 0 d_Md_tie_59 rfl rfl ?_
            refine g_Md_person ok d_Md_tie_60 ?_
            refine r_iload_n ok 2 d_Md_tie_63 rfl rfl ?_
            refine r_iald ok 72 d_Md_tie_64 (by decide) rfl h.1 ?_
            replace h := h.2
            refine r_icmp_eq ok 71 d_Md_tie_65 (by decide) h.1 h.2.1 (fun c => ?_) (fun c => ?_)
            · replace h := h.2.2.1 c
              refine r_iload_n ok 1 d_Md_tie_71 rfl rfl ?_
              refine r_iload_n ok 2 d_Md_tie_72 rfl rfl ?_
              refine r_icmp_ge ok 80 d_Md_tie_73 (by decide) h.1 h.2.1 (fun c => ?_) (fun c => ?_)
              · replace h := h.2.2.1 c
                refine r_iload_n ok 2 d_Md_tie_80 rfl rfl ?_
                exact r_sub [0, 1, 2, 3] rfl h
              · replace h := h.2.2.2 c
                refine r_iload_n ok 1 d_Md_tie_76 rfl rfl ?_
                refine r_goto ok 81 d_Md_tie_77 (by decide) ?_
                exact r_sub [0, 1, 2, 3] rfl h
            · replace h := h.2.2.2 c
              refine r_bipush ok (-3) d_Md_tie_68 (by decide) ?_
              exact hQ _ _ _ _ _ (ok_code ok) d_Md_tie_70 h
        · replace h := h.2.2.2 c
          refine r_bipush ok (-2) d_Md_tie_28 (by decide) ?_
          exact hQ _ _ _ _ _ (ok_code ok) d_Md_tie_30 h
      · replace h := h.2.2 c
        refine r_iconst ok (-1) d_Md_tie_21 rfl ?_
        exact hQ _ _ _ _ _ (ok_code ok) d_Md_tie_22 h
theorem L_Md_tie (l : Launch) (G : GE) (A : Nat → Prop) (hD : ∀ σ, va_D A (GW G σ)) {x1 x2 x3 : Int} {s : SS} {Q : Int → SS → Prop} (h : Sp_Md_tie x1 x2 x3 s Q) : Met l y_Md_tie (Cond.code y_Md_tie prog_12_method_28_code 9 (some .int) :: lw_ok) ({ frames := 2, cells := 0, slots := 0, locals := 49 } : Room) (va_Pc [.ref (G.1 10), vI x1, vI x2, vI x3] (gB G s)) (va_Qi (fun (r : Int32) (s2 : SS) => ∃ x : Int, r = iI x ∧ Q x s2) (fun s2 t => gB G s2 t) A) 0 0 A := by
  refine met_i hD (by decide) ⟨rfl, rfl⟩ (Nat.le_of_ble_eq_true rfl) (lv := [(0, .ref (G.1 10)), (1, vI x1), (2, vI x2), (3, vI x3)]) rfl (fun F h1 h2 h3 hm ok hQ => ?_)
  subst h1 h2 h3
  have hDF := hD
  exact K_Md_tie_e hDF hm ok hQ (h _ _ _ _ _ _ _ (fun _ _ _ _ _ hb => K_Md_tie_81 hDF hm ok hQ hb) (fun _ _ _ _ _ hb => K_Md_tie_98 hDF hm ok hQ hb) (fun _ _ _ _ hb => K_Md_tie_136 hDF hm ok hQ hb) (fun _ _ _ _ _ hb => K_Md_tie_148 hDF hm ok hQ hb) (fun _ _ _ _ _ _ hb => K_Md_tie_160 hDF hm ok hQ hb) (fun _ _ _ _ hb => K_Md_tie_260 hDF hm ok hQ hb) (fun _ _ _ _ _ hb => K_Md_tie_270 hDF hm ok hQ hb))
theorem d_Md_word_0 : decode prog_12_method_29_code 0 = .ok (.iload_n 1, 1) := by decide +kernel
theorem d_Md_word_1 : decode prog_12_method_29_code 1 = .ok (.i2l, 1) := by decide +kernel
theorem d_Md_word_2 : decode prog_12_method_29_code 2 = .ok (.lconst 0, 1) := by decide +kernel
theorem d_Md_word_3 : decode prog_12_method_29_code 3 = .ok (.ldc2_w 272, 3) := by decide +kernel
theorem d_Md_word_6 : decode prog_12_method_29_code 6 = .ok (.invokestatic 191, 3) := by decide +kernel
theorem d_Md_word_9 : decode prog_12_method_29_code 9 = .ok (.ifCond .eq 26, 3) := by decide +kernel
theorem d_Md_word_12 : decode prog_12_method_29_code 12 = .ok (.aload_n 0, 1) := by decide +kernel
theorem d_Md_word_13 : decode prog_12_method_29_code 13 = .ok (.iload_n 2, 1) := by decide +kernel
theorem d_Md_word_14 : decode prog_12_method_29_code 14 = .ok (.invokevirtual 237, 3) := by decide +kernel
theorem d_Md_word_17 : decode prog_12_method_29_code 17 = .ok (.ifCond .eq 18, 3) := by decide +kernel
theorem d_Md_word_20 : decode prog_12_method_29_code 20 = .ok (.iload 6, 2) := by decide +kernel
theorem d_Md_word_22 : decode prog_12_method_29_code 22 = .ok (.iconst (-1), 1) := by decide +kernel
theorem d_Md_word_23 : decode prog_12_method_29_code 23 = .ok (.if_icmp .eq 14, 3) := by decide +kernel
theorem d_Md_word_26 : decode prog_12_method_29_code 26 = .ok (.aload_n 0, 1) := by decide +kernel
theorem d_Md_word_27 : decode prog_12_method_29_code 27 = .ok (.iload 6, 2) := by decide +kernel
theorem d_Md_word_29 : decode prog_12_method_29_code 29 = .ok (.invokevirtual 274, 3) := by decide +kernel
theorem d_Md_word_32 : decode prog_12_method_29_code 32 = .ok (.ifCond .ne 5, 3) := by decide +kernel
theorem d_Md_word_35 : decode prog_12_method_29_code 35 = .ok (.iconst (-1), 1) := by decide +kernel
theorem d_Md_word_36 : decode prog_12_method_29_code 36 = .ok (.ireturn, 1) := by decide +kernel
theorem d_Md_word_37 : decode prog_12_method_29_code 37 = .ok (.iload_n 3, 1) := by decide +kernel
theorem d_Md_word_38 : decode prog_12_method_29_code 38 = .ok (.i2l, 1) := by decide +kernel
theorem d_Md_word_39 : decode prog_12_method_29_code 39 = .ok (.lconst 1, 1) := by decide +kernel
theorem d_Md_word_40 : decode prog_12_method_29_code 40 = .ok (.ldc2_w 277, 3) := by decide +kernel
theorem d_Md_word_43 : decode prog_12_method_29_code 43 = .ok (.invokestatic 191, 3) := by decide +kernel
theorem d_Md_word_46 : decode prog_12_method_29_code 46 = .ok (.ifCond .eq 31, 3) := by decide +kernel
theorem d_Md_word_49 : decode prog_12_method_29_code 49 = .ok (.iload 4, 2) := by decide +kernel
theorem d_Md_word_51 : decode prog_12_method_29_code 51 = .ok (.i2l, 1) := by decide +kernel
theorem d_Md_word_52 : decode prog_12_method_29_code 52 = .ok (.lconst 0, 1) := by decide +kernel
theorem d_Md_word_53 : decode prog_12_method_29_code 53 = .ok (.ldc2_w 279, 3) := by decide +kernel
theorem d_Md_word_56 : decode prog_12_method_29_code 56 = .ok (.invokestatic 191, 3) := by decide +kernel
theorem d_Md_word_59 : decode prog_12_method_29_code 59 = .ok (.ifCond .eq 18, 3) := by decide +kernel
theorem d_Md_word_62 : decode prog_12_method_29_code 62 = .ok (.iload 5, 2) := by decide +kernel
theorem d_Md_word_64 : decode prog_12_method_29_code 64 = .ok (.i2l, 1) := by decide +kernel
theorem d_Md_word_65 : decode prog_12_method_29_code 65 = .ok (.iload 4, 2) := by decide +kernel
theorem d_Md_word_67 : decode prog_12_method_29_code 67 = .ok (.i2l, 1) := by decide +kernel
theorem d_Md_word_68 : decode prog_12_method_29_code 68 = .ok (.ldc2_w 279, 3) := by decide +kernel
theorem d_Md_word_71 : decode prog_12_method_29_code 71 = .ok (.invokestatic 191, 3) := by decide +kernel
theorem d_Md_word_74 : decode prog_12_method_29_code 74 = .ok (.ifCond .ne 6, 3) := by decide +kernel
theorem d_Md_word_77 : decode prog_12_method_29_code 77 = .ok (.bipush (-2), 2) := by decide +kernel
theorem d_Md_word_79 : decode prog_12_method_29_code 79 = .ok (.ireturn, 1) := by decide +kernel
theorem d_Md_word_80 : decode prog_12_method_29_code 80 = .ok (.aload_n 0, 1) := by decide +kernel
theorem d_Md_word_81 : decode prog_12_method_29_code 81 = .ok (.getfield 182, 3) := by decide +kernel
theorem d_Md_word_84 : decode prog_12_method_29_code 84 = .ok (.bipush 40, 2) := by decide +kernel
theorem d_Md_word_86 : decode prog_12_method_29_code 86 = .ok (.if_icmp .eq 13, 3) := by decide +kernel
theorem d_Md_word_89 : decode prog_12_method_29_code 89 = .ok (.aload_n 0, 1) := by decide +kernel
theorem d_Md_word_90 : decode prog_12_method_29_code 90 = .ok (.getfield 198, 3) := by decide +kernel
theorem d_Md_word_93 : decode prog_12_method_29_code 93 = .ok (.sipush 200, 3) := by decide +kernel
theorem d_Md_word_96 : decode prog_12_method_29_code 96 = .ok (.if_icmp .ne 6, 3) := by decide +kernel
theorem d_Md_word_99 : decode prog_12_method_29_code 99 = .ok (.bipush (-4), 2) := by decide +kernel
theorem d_Md_word_101 : decode prog_12_method_29_code 101 = .ok (.ireturn, 1) := by decide +kernel
theorem d_Md_word_102 : decode prog_12_method_29_code 102 = .ok (.aload_n 0, 1) := by decide +kernel
theorem d_Md_word_103 : decode prog_12_method_29_code 103 = .ok (.getfield 182, 3) := by decide +kernel
theorem d_Md_word_106 : decode prog_12_method_29_code 106 = .ok (.istore 7, 2) := by decide +kernel
theorem d_Md_word_108 : decode prog_12_method_29_code 108 = .ok (.aload_n 0, 1) := by decide +kernel
theorem d_Md_word_109 : decode prog_12_method_29_code 109 = .ok (.getfield 59, 3) := by decide +kernel
theorem d_Md_word_112 : decode prog_12_method_29_code 112 = .ok (.iload 7, 2) := by decide +kernel
theorem d_Md_word_114 : decode prog_12_method_29_code 114 = .ok (.iload_n 1, 1) := by decide +kernel
theorem d_Md_word_115 : decode prog_12_method_29_code 115 = .ok (.iastore, 1) := by decide +kernel
theorem d_Md_word_116 : decode prog_12_method_29_code 116 = .ok (.aload_n 0, 1) := by decide +kernel
theorem d_Md_word_117 : decode prog_12_method_29_code 117 = .ok (.getfield 62, 3) := by decide +kernel
theorem d_Md_word_120 : decode prog_12_method_29_code 120 = .ok (.iload 7, 2) := by decide +kernel
theorem d_Md_word_122 : decode prog_12_method_29_code 122 = .ok (.iload_n 2, 1) := by decide +kernel
theorem d_Md_word_123 : decode prog_12_method_29_code 123 = .ok (.iastore, 1) := by decide +kernel
theorem d_Md_word_124 : decode prog_12_method_29_code 124 = .ok (.aload_n 0, 1) := by decide +kernel
theorem d_Md_word_125 : decode prog_12_method_29_code 125 = .ok (.getfield 65, 3) := by decide +kernel
theorem d_Md_word_128 : decode prog_12_method_29_code 128 = .ok (.iload 7, 2) := by decide +kernel
theorem d_Md_word_130 : decode prog_12_method_29_code 130 = .ok (.iload_n 3, 1) := by decide +kernel
theorem d_Md_word_131 : decode prog_12_method_29_code 131 = .ok (.iastore, 1) := by decide +kernel
theorem d_Md_word_132 : decode prog_12_method_29_code 132 = .ok (.aload_n 0, 1) := by decide +kernel
theorem d_Md_word_133 : decode prog_12_method_29_code 133 = .ok (.getfield 68, 3) := by decide +kernel
theorem d_Md_word_136 : decode prog_12_method_29_code 136 = .ok (.iload 7, 2) := by decide +kernel
theorem d_Md_word_138 : decode prog_12_method_29_code 138 = .ok (.iload 4, 2) := by decide +kernel
theorem d_Md_word_140 : decode prog_12_method_29_code 140 = .ok (.iastore, 1) := by decide +kernel
theorem d_Md_word_141 : decode prog_12_method_29_code 141 = .ok (.aload_n 0, 1) := by decide +kernel
theorem d_Md_word_142 : decode prog_12_method_29_code 142 = .ok (.getfield 71, 3) := by decide +kernel
theorem d_Md_word_145 : decode prog_12_method_29_code 145 = .ok (.iload 7, 2) := by decide +kernel
theorem d_Md_word_147 : decode prog_12_method_29_code 147 = .ok (.iload 5, 2) := by decide +kernel
theorem d_Md_word_149 : decode prog_12_method_29_code 149 = .ok (.iastore, 1) := by decide +kernel
theorem d_Md_word_150 : decode prog_12_method_29_code 150 = .ok (.aload_n 0, 1) := by decide +kernel
theorem d_Md_word_151 : decode prog_12_method_29_code 151 = .ok (.getfield 74, 3) := by decide +kernel
theorem d_Md_word_154 : decode prog_12_method_29_code 154 = .ok (.iload 7, 2) := by decide +kernel
theorem d_Md_word_156 : decode prog_12_method_29_code 156 = .ok (.iload 6, 2) := by decide +kernel
theorem d_Md_word_158 : decode prog_12_method_29_code 158 = .ok (.iastore, 1) := by decide +kernel
theorem d_Md_word_159 : decode prog_12_method_29_code 159 = .ok (.aload_n 0, 1) := by decide +kernel
theorem d_Md_word_160 : decode prog_12_method_29_code 160 = .ok (.getfield 77, 3) := by decide +kernel
theorem d_Md_word_163 : decode prog_12_method_29_code 163 = .ok (.iload 7, 2) := by decide +kernel
theorem d_Md_word_165 : decode prog_12_method_29_code 165 = .ok (.iload 6, 2) := by decide +kernel
theorem d_Md_word_167 : decode prog_12_method_29_code 167 = .ok (.ifCond .ge 8, 3) := by decide +kernel
theorem d_Md_word_170 : decode prog_12_method_29_code 170 = .ok (.iload 7, 2) := by decide +kernel
theorem d_Md_word_172 : decode prog_12_method_29_code 172 = .ok (.goto 10, 3) := by decide +kernel
theorem d_Md_word_175 : decode prog_12_method_29_code 175 = .ok (.aload_n 0, 1) := by decide +kernel
theorem d_Md_word_176 : decode prog_12_method_29_code 176 = .ok (.getfield 77, 3) := by decide +kernel
theorem d_Md_word_179 : decode prog_12_method_29_code 179 = .ok (.iload 6, 2) := by decide +kernel
theorem d_Md_word_181 : decode prog_12_method_29_code 181 = .ok (.iaload, 1) := by decide +kernel
theorem d_Md_word_182 : decode prog_12_method_29_code 182 = .ok (.iastore, 1) := by decide +kernel
theorem d_Md_word_183 : decode prog_12_method_29_code 183 = .ok (.aload_n 0, 1) := by decide +kernel
theorem d_Md_word_184 : decode prog_12_method_29_code 184 = .ok (.iconst 4, 1) := by decide +kernel
theorem d_Md_word_185 : decode prog_12_method_29_code 185 = .ok (.iload 7, 2) := by decide +kernel
theorem d_Md_word_187 : decode prog_12_method_29_code 187 = .ok (.iconst 0, 1) := by decide +kernel
theorem d_Md_word_188 : decode prog_12_method_29_code 188 = .ok (.invokevirtual 233, 3) := by decide +kernel
theorem d_Md_word_191 : decode prog_12_method_29_code 191 = .ok (.aload_n 0, 1) := by decide +kernel
theorem d_Md_word_192 : decode prog_12_method_29_code 192 = .ok (.dup, 1) := by decide +kernel
theorem d_Md_word_193 : decode prog_12_method_29_code 193 = .ok (.getfield 182, 3) := by decide +kernel
theorem d_Md_word_196 : decode prog_12_method_29_code 196 = .ok (.iconst 1, 1) := by decide +kernel
theorem d_Md_word_197 : decode prog_12_method_29_code 197 = .ok (.iadd, 1) := by decide +kernel
theorem d_Md_word_198 : decode prog_12_method_29_code 198 = .ok (.putfield 182, 3) := by decide +kernel
theorem d_Md_word_201 : decode prog_12_method_29_code 201 = .ok (.iload 7, 2) := by decide +kernel
theorem d_Md_word_203 : decode prog_12_method_29_code 203 = .ok (.ireturn, 1) := by decide +kernel
set_option maxHeartbeats 4000000 in
set_option maxRecDepth 100000 in
theorem K_Md_word_37 {F : FT} (hD : ∀ σ, va_D F.2.2.1 (GW F.2.1 σ)) (hm : F.2.2.2.2.2.2.2.2.2.2.2.2.2.2.1 = 8) (ok : OkF F prog_12_method_29_code "LastSeenModel" ({ frames := 1, cells := 0, slots := 0, locals := 25 } : Room)) {Q : Int → SS → Prop} (hQ : RetI F Q) {x1 x2 x3 x4 x5 x6 : Int} {s : SS} (h : B_Md_word_37 Q (fun x1 x2 x3 x4 x5 x6 s => AtS F 37 [(0, .ref (F.2.1.1 10)), (1, vI x1), (2, vI x2), (3, vI x3), (4, vI x4), (5, vI x5), (6, vI x6)] [] s) x1 x2 x3 x4 x5 x6 s) : AtS F 37 [(0, .ref (F.2.1.1 10)), (1, vI x1), (2, vI x2), (3, vI x3), (4, vI x4), (5, vI x5), (6, vI x6)] [] s := by
  unfold B_Md_word_37 at h
  refine r_iload_n ok 3 d_Md_word_37 rfl rfl ?_
  refine r_i2l ok d_Md_word_38 h.1 ?_
  replace h := h.2
  refine r_lconst ok 1 d_Md_word_39 (by decide) ?_
  refine r_ldc2 ok 1023 wk_Md_277 d_Md_word_40 (by decide) ?_
  refine r_callSi (As := [vJ x3, vJ 1, vJ 1023]) (rest := []) ok wl_Md_191 wt_y_Md_isIn wn_Md wc_y_Md_isIn (by decide) (by decide) hh_Md_isIn (Nat.le_of_ble_eq_true rfl) rfl d_Md_word_43 (L_Md_isIn F.1 F.2.1 F.2.2.1 hD h) (fun r8 s7 h => ?_)
  refine r_if_eq ok 77 d_Md_word_46 (by decide) h.1 (fun c => ?_) (fun c => ?_)
  · replace h := h.2.1 c
    refine r_bipush ok (-2) d_Md_word_77 (by decide) ?_
    exact hQ _ _ _ _ _ (ok_code ok) d_Md_word_79 h
  · replace h := h.2.2 c
    refine r_iload ok 4 d_Md_word_49 rfl ?_
    refine r_i2l ok d_Md_word_51 h.1 ?_
    replace h := h.2
    refine r_lconst ok 0 d_Md_word_52 (by decide) ?_
    refine r_ldc2 ok 999 wk_Md_279 d_Md_word_53 (by decide) ?_
    refine r_callSi (As := [vJ x4, vJ 0, vJ 999]) (rest := []) ok wl_Md_191 wt_y_Md_isIn wn_Md wc_y_Md_isIn (by decide) (by decide) hh_Md_isIn (Nat.le_of_ble_eq_true rfl) rfl d_Md_word_56 (L_Md_isIn F.1 F.2.1 F.2.2.1 hD h) (fun r10 s9 h => ?_)
    refine r_if_eq ok 77 d_Md_word_59 (by decide) h.1 (fun c => ?_) (fun c => ?_)
    · replace h := h.2.1 c
      refine r_bipush ok (-2) d_Md_word_77 (by decide) ?_
      exact hQ _ _ _ _ _ (ok_code ok) d_Md_word_79 h
    · replace h := h.2.2 c
      refine r_iload ok 5 d_Md_word_62 rfl ?_
      refine r_i2l ok d_Md_word_64 h.1 ?_
      replace h := h.2
      refine r_iload ok 4 d_Md_word_65 rfl ?_
      refine r_i2l ok d_Md_word_67 h.1 ?_
      replace h := h.2
      refine r_ldc2 ok 999 wk_Md_279 d_Md_word_68 (by decide) ?_
      refine r_callSi (As := [vJ x5, vJ x4, vJ 999]) (rest := []) ok wl_Md_191 wt_y_Md_isIn wn_Md wc_y_Md_isIn (by decide) (by decide) hh_Md_isIn (Nat.le_of_ble_eq_true rfl) rfl d_Md_word_71 (L_Md_isIn F.1 F.2.1 F.2.2.1 hD h) (fun r12 s11 h => ?_)
      refine r_if_ne ok 80 d_Md_word_74 (by decide) h.1 (fun c => ?_) (fun c => ?_)
      · replace h := h.2.1 c
        refine r_aload_n ok 0 d_Md_word_80 rfl rfl ?_
        refine g_Md_words ok d_Md_word_81 ?_
        refine r_bipush ok 40 d_Md_word_84 (by decide) ?_
        refine r_icmp_eq ok 99 d_Md_word_86 (by decide) h.1 (by decide) (fun c => ?_) (fun c => ?_)
        · replace h := h.2.1 c
          refine r_bipush ok (-4) d_Md_word_99 (by decide) ?_
          exact hQ _ _ _ _ _ (ok_code ok) d_Md_word_101 h
        · replace h := h.2.2 c
          refine r_aload_n ok 0 d_Md_word_89 rfl rfl ?_
          refine g_Md_entries ok d_Md_word_90 ?_
          refine r_sipush ok 200 d_Md_word_93 (by decide) ?_
          refine r_icmp_ne ok 102 d_Md_word_96 (by decide) h.1 (by decide) (fun c => ?_) (fun c => ?_)
          · replace h := h.2.1 c
            refine r_aload_n ok 0 d_Md_word_102 rfl rfl ?_
            refine g_Md_words ok d_Md_word_103 ?_
            refine r_istore ok [(7, vI (s11.1 36)), (0, .ref (F.2.1.1 10)), (1, vI x1), (2, vI x2), (3, vI x3), (4, vI x4), (5, vI x5), (6, vI x6)] d_Md_word_106 hm (by decide) rfl ?_
            refine r_aload_n ok 1 d_Md_word_108 rfl rfl ?_
            refine g_Md_witness ok d_Md_word_109 ?_
            refine r_iload ok 0 d_Md_word_112 rfl ?_
            refine r_iload_n ok 2 d_Md_word_114 rfl rfl ?_
            refine r_iast ok 75 d_Md_word_115 (by decide) rfl h.1 ?_
            replace h := h.2 _ rfl
            generalize sA s11 75 (s11.1 36) x1 = s13 at h ⊢
            refine r_aload_n ok 1 d_Md_word_116 rfl rfl ?_
            refine g_Md_ofName ok d_Md_word_117 ?_
            refine r_iload ok 0 d_Md_word_120 rfl ?_
            refine r_iload_n ok 3 d_Md_word_122 rfl rfl ?_
            refine r_iast ok 76 d_Md_word_123 (by decide) rfl h.1 ?_
            replace h := h.2 _ rfl
            generalize sA s13 76 (s11.1 36) x2 = s14 at h ⊢
            refine r_aload_n ok 1 d_Md_word_124 rfl rfl ?_
            refine g_Md_places ok d_Md_word_125 ?_
            refine r_iload ok 0 d_Md_word_128 rfl ?_
            refine r_iload_n ok 4 d_Md_word_130 rfl rfl ?_
            refine r_iast ok 77 d_Md_word_131 (by decide) rfl h.1 ?_
            replace h := h.2 _ rfl
            generalize sA s14 77 (s11.1 36) x3 = s15 at h ⊢
            refine r_aload_n ok 1 d_Md_word_132 rfl rfl ?_
            refine g_Md_first ok d_Md_word_133 ?_
            refine r_iload ok 0 d_Md_word_136 rfl ?_
            refine r_iload ok 5 d_Md_word_138 rfl ?_
            refine r_iast ok 78 d_Md_word_140 (by decide) rfl h.1 ?_
            replace h := h.2 _ rfl
            generalize sA s15 78 (s11.1 36) x4 = s16 at h ⊢
            refine r_aload_n ok 1 d_Md_word_141 rfl rfl ?_
            refine g_Md_last ok d_Md_word_142 ?_
            refine r_iload ok 0 d_Md_word_145 rfl ?_
            refine r_iload ok 6 d_Md_word_147 rfl ?_
            refine r_iast ok 79 d_Md_word_149 (by decide) rfl h.1 ?_
            replace h := h.2 _ rfl
            generalize sA s16 79 (s11.1 36) x5 = s17 at h ⊢
            refine r_aload_n ok 1 d_Md_word_150 rfl rfl ?_
            refine g_Md_heardOf ok d_Md_word_151 ?_
            refine r_iload ok 0 d_Md_word_154 rfl ?_
            refine r_iload ok 7 d_Md_word_156 rfl ?_
            refine r_iast ok 80 d_Md_word_158 (by decide) rfl h.1 ?_
            replace h := h.2 _ rfl
            generalize sA s17 80 (s11.1 36) x6 = s18 at h ⊢
            refine r_aload_n ok 1 d_Md_word_159 rfl rfl ?_
            refine g_Md_rootOf ok d_Md_word_160 ?_
            refine r_iload ok 0 d_Md_word_163 rfl ?_
            refine r_iload ok 7 d_Md_word_165 rfl ?_
            refine r_if_ge ok 175 d_Md_word_167 (by decide) h.1 (fun c => ?_) (fun c => ?_)
            · replace h := h.2.1 c
              refine r_aload_n ok 1 d_Md_word_175 rfl rfl ?_
              refine g_Md_rootOf ok d_Md_word_176 ?_
              refine r_iload ok 7 d_Md_word_179 rfl ?_
              refine r_iald ok 81 d_Md_word_181 (by decide) rfl h.1 ?_
              replace h := h.2
              refine r_iast ok 81 d_Md_word_182 (by decide) rfl h.1 ?_
              replace h := h.2 _ rfl
              generalize sA s18 81 (s11.1 36) (s18.2 81 x6) = s19 at h ⊢
              refine r_aload_n ok 1 d_Md_word_183 rfl rfl ?_
              refine r_iconst ok 4 d_Md_word_184 rfl ?_
              refine r_iload ok 0 d_Md_word_185 rfl ?_
              refine r_iconst ok 0 d_Md_word_187 rfl ?_
              refine r_callVv (As := [vI 4, vI (s11.1 36), vI 0]) (rest := []) ok 10 rfl rfl rfl wl_Md_233 wi_y_Md_enters ws_y_Md_enters wn_Md wc_y_Md_enters (by decide) (by decide) hh_Md_enters (Nat.le_of_ble_eq_true rfl) rfl d_Md_word_188 (L_Md_enters F.1 F.2.1 F.2.2.1 hD h) (fun s20 h => ?_)
              refine r_aload_n ok 1 d_Md_word_191 rfl rfl ?_
              refine r_dup ok d_Md_word_192 rfl ?_
              refine g_Md_words ok d_Md_word_193 ?_
              refine r_iconst ok 1 d_Md_word_196 rfl ?_
              refine r_iadd ok d_Md_word_197 ?_
              refine p_Md_words ok d_Md_word_198 ?_
              replace h := h _ rfl
              generalize sF s20 36 ((s20.1 36) + 1) = s21 at h ⊢
              refine r_iload ok 0 d_Md_word_201 rfl ?_
              exact hQ _ _ _ _ _ (ok_code ok) d_Md_word_203 h
            · replace h := h.2.2 c
              refine r_iload ok 0 d_Md_word_170 rfl ?_
              refine r_goto ok 182 d_Md_word_172 (by decide) ?_
              refine r_iast ok 81 d_Md_word_182 (by decide) rfl h.1 ?_
              replace h := h.2 _ rfl
              generalize sA s18 81 (s11.1 36) (s11.1 36) = s22 at h ⊢
              refine r_aload_n ok 1 d_Md_word_183 rfl rfl ?_
              refine r_iconst ok 4 d_Md_word_184 rfl ?_
              refine r_iload ok 0 d_Md_word_185 rfl ?_
              refine r_iconst ok 0 d_Md_word_187 rfl ?_
              refine r_callVv (As := [vI 4, vI (s11.1 36), vI 0]) (rest := []) ok 10 rfl rfl rfl wl_Md_233 wi_y_Md_enters ws_y_Md_enters wn_Md wc_y_Md_enters (by decide) (by decide) hh_Md_enters (Nat.le_of_ble_eq_true rfl) rfl d_Md_word_188 (L_Md_enters F.1 F.2.1 F.2.2.1 hD h) (fun s23 h => ?_)
              refine r_aload_n ok 1 d_Md_word_191 rfl rfl ?_
              refine r_dup ok d_Md_word_192 rfl ?_
              refine g_Md_words ok d_Md_word_193 ?_
              refine r_iconst ok 1 d_Md_word_196 rfl ?_
              refine r_iadd ok d_Md_word_197 ?_
              refine p_Md_words ok d_Md_word_198 ?_
              replace h := h _ rfl
              generalize sF s23 36 ((s23.1 36) + 1) = s24 at h ⊢
              refine r_iload ok 0 d_Md_word_201 rfl ?_
              exact hQ _ _ _ _ _ (ok_code ok) d_Md_word_203 h
          · replace h := h.2.2 c
            refine r_bipush ok (-4) d_Md_word_99 (by decide) ?_
            exact hQ _ _ _ _ _ (ok_code ok) d_Md_word_101 h
      · replace h := h.2.2 c
        refine r_bipush ok (-2) d_Md_word_77 (by decide) ?_
        exact hQ _ _ _ _ _ (ok_code ok) d_Md_word_79 h
set_option maxHeartbeats 4000000 in
set_option maxRecDepth 100000 in
theorem K_Md_word_e {F : FT} (hD : ∀ σ, va_D F.2.2.1 (GW F.2.1 σ)) (hm : F.2.2.2.2.2.2.2.2.2.2.2.2.2.2.1 = 8) (ok : OkF F prog_12_method_29_code "LastSeenModel" ({ frames := 1, cells := 0, slots := 0, locals := 25 } : Room)) {Q : Int → SS → Prop} (hQ : RetI F Q) {x1 x2 x3 x4 x5 x6 : Int} {s : SS} (h : B_Md_word_e Q (fun x1 x2 x3 x4 x5 x6 s => AtS F 37 [(0, .ref (F.2.1.1 10)), (1, vI x1), (2, vI x2), (3, vI x3), (4, vI x4), (5, vI x5), (6, vI x6)] [] s) x1 x2 x3 x4 x5 x6 s) : AtS F 0 [(0, .ref (F.2.1.1 10)), (1, vI x1), (2, vI x2), (3, vI x3), (4, vI x4), (5, vI x5), (6, vI x6)] [] s := by
  unfold B_Md_word_e at h
  refine r_iload_n ok 1 d_Md_word_0 rfl rfl ?_
  refine r_i2l ok d_Md_word_1 h.1 ?_
  replace h := h.2
  refine r_lconst ok 0 d_Md_word_2 (by decide) ?_
  refine r_ldc2 ok 29 wk_Md_272 d_Md_word_3 (by decide) ?_
  refine r_callSi (As := [vJ x1, vJ 0, vJ 29]) (rest := []) ok wl_Md_191 wt_y_Md_isIn wn_Md wc_y_Md_isIn (by decide) (by decide) hh_Md_isIn (Nat.le_of_ble_eq_true rfl) rfl d_Md_word_6 (L_Md_isIn F.1 F.2.1 F.2.2.1 hD h) (fun r2 s1 h => ?_)
  refine r_if_eq ok 35 d_Md_word_9 (by decide) h.1 (fun c => ?_) (fun c => ?_)
  · replace h := h.2.1 c
    refine r_iconst ok (-1) d_Md_word_35 rfl ?_
    exact hQ _ _ _ _ _ (ok_code ok) d_Md_word_36 h
  · replace h := h.2.2 c
    refine r_aload_n ok 0 d_Md_word_12 rfl rfl ?_
    refine r_iload_n ok 2 d_Md_word_13 rfl rfl ?_
    refine r_callVi (As := [vI x2]) (rest := []) ok 10 rfl rfl rfl wl_Md_237 wi_y_Md_isName ws_y_Md_isName wn_Md wc_y_Md_isName (by decide) (by decide) hh_Md_isName (Nat.le_of_ble_eq_true rfl) rfl d_Md_word_14 (L_Md_isName F.1 F.2.1 F.2.2.1 hD h) (fun r4 s3 h => ?_)
    refine r_if_eq ok 35 d_Md_word_17 (by decide) h.1 (fun c => ?_) (fun c => ?_)
    · replace h := h.2.1 c
      refine r_iconst ok (-1) d_Md_word_35 rfl ?_
      exact hQ _ _ _ _ _ (ok_code ok) d_Md_word_36 h
    · replace h := h.2.2 c
      refine r_iload ok 6 d_Md_word_20 rfl ?_
      refine r_iconst ok (-1) d_Md_word_22 rfl ?_
      refine r_icmp_eq ok 37 d_Md_word_23 (by decide) h.1 (by decide) (fun c => ?_) (fun c => ?_)
      · replace h := h.2.1 c
        exact r_sub [0, 1, 2, 3, 4, 5, 6] rfl h
      · replace h := h.2.2 c
        refine r_aload_n ok 0 d_Md_word_26 rfl rfl ?_
        refine r_iload ok 6 d_Md_word_27 rfl ?_
        refine r_callVi (As := [vI x6]) (rest := []) ok 10 rfl rfl rfl wl_Md_274 wi_y_Md_isWord ws_y_Md_isWord wn_Md wc_y_Md_isWord (by decide) (by decide) hh_Md_isWord (Nat.le_of_ble_eq_true rfl) rfl d_Md_word_29 (L_Md_isWord F.1 F.2.1 F.2.2.1 hD h) (fun r6 s5 h => ?_)
        refine r_if_ne ok 37 d_Md_word_32 (by decide) h.1 (fun c => ?_) (fun c => ?_)
        · replace h := h.2.1 c
          exact r_sub [0, 1, 2, 3, 4, 5, 6] rfl h
        · replace h := h.2.2 c
          refine r_iconst ok (-1) d_Md_word_35 rfl ?_
          exact hQ _ _ _ _ _ (ok_code ok) d_Md_word_36 h
theorem L_Md_word (l : Launch) (G : GE) (A : Nat → Prop) (hD : ∀ σ, va_D A (GW G σ)) {x1 x2 x3 x4 x5 x6 : Int} {s : SS} {Q : Int → SS → Prop} (h : Sp_Md_word x1 x2 x3 x4 x5 x6 s Q) : Met l y_Md_word (Cond.code y_Md_word prog_12_method_29_code 8 (some .int) :: lw_ok) ({ frames := 1, cells := 0, slots := 0, locals := 25 } : Room) (va_Pc [.ref (G.1 10), vI x1, vI x2, vI x3, vI x4, vI x5, vI x6] (gB G s)) (va_Qi (fun (r : Int32) (s2 : SS) => ∃ x : Int, r = iI x ∧ Q x s2) (fun s2 t => gB G s2 t) A) 0 0 A := by
  refine met_i hD (by decide) ⟨rfl, rfl⟩ (Nat.le_of_ble_eq_true rfl) (lv := [(0, .ref (G.1 10)), (1, vI x1), (2, vI x2), (3, vI x3), (4, vI x4), (5, vI x5), (6, vI x6)]) rfl (fun F h1 h2 h3 hm ok hQ => ?_)
  subst h1 h2 h3
  have hDF := hD
  exact K_Md_word_e hDF hm ok hQ (h _ (fun _ _ _ _ _ _ _ hb => K_Md_word_37 hDF hm ok hQ hb))
theorem d_Md_standing_0 : decode prog_12_method_30_code 0 = .ok (.iconst 0, 1) := by decide +kernel
theorem d_Md_standing_1 : decode prog_12_method_30_code 1 = .ok (.istore_n 1, 1) := by decide +kernel
theorem d_Md_standing_2 : decode prog_12_method_30_code 2 = .ok (.iconst 0, 1) := by decide +kernel
theorem d_Md_standing_3 : decode prog_12_method_30_code 3 = .ok (.istore_n 2, 1) := by decide +kernel
theorem d_Md_standing_4 : decode prog_12_method_30_code 4 = .ok (.iload_n 2, 1) := by decide +kernel
theorem d_Md_standing_5 : decode prog_12_method_30_code 5 = .ok (.bipush 40, 2) := by decide +kernel
theorem d_Md_standing_7 : decode prog_12_method_30_code 7 = .ok (.if_icmp .ge 26, 3) := by decide +kernel
theorem d_Md_standing_10 : decode prog_12_method_30_code 10 = .ok (.iload_n 1, 1) := by decide +kernel
theorem d_Md_standing_11 : decode prog_12_method_30_code 11 = .ok (.aload_n 0, 1) := by decide +kernel
theorem d_Md_standing_12 : decode prog_12_method_30_code 12 = .ok (.getfield 44, 3) := by decide +kernel
theorem d_Md_standing_15 : decode prog_12_method_30_code 15 = .ok (.iload_n 2, 1) := by decide +kernel
theorem d_Md_standing_16 : decode prog_12_method_30_code 16 = .ok (.baload, 1) := by decide +kernel
theorem d_Md_standing_17 : decode prog_12_method_30_code 17 = .ok (.ifCond .eq 7, 3) := by decide +kernel
theorem d_Md_standing_20 : decode prog_12_method_30_code 20 = .ok (.iconst 1, 1) := by decide +kernel
theorem d_Md_standing_21 : decode prog_12_method_30_code 21 = .ok (.goto 4, 3) := by decide +kernel
theorem d_Md_standing_24 : decode prog_12_method_30_code 24 = .ok (.iconst 0, 1) := by decide +kernel
theorem d_Md_standing_25 : decode prog_12_method_30_code 25 = .ok (.iadd, 1) := by decide +kernel
theorem d_Md_standing_26 : decode prog_12_method_30_code 26 = .ok (.istore_n 1, 1) := by decide +kernel
theorem d_Md_standing_27 : decode prog_12_method_30_code 27 = .ok (.iinc 2 1, 3) := by decide +kernel
theorem d_Md_standing_30 : decode prog_12_method_30_code 30 = .ok (.goto (-26), 3) := by decide +kernel
theorem d_Md_standing_33 : decode prog_12_method_30_code 33 = .ok (.iload_n 1, 1) := by decide +kernel
theorem d_Md_standing_34 : decode prog_12_method_30_code 34 = .ok (.ireturn, 1) := by decide +kernel
set_option maxHeartbeats 4000000 in
set_option maxRecDepth 100000 in
theorem K_Md_standing_4 {F : FT} (hD : ∀ σ, va_D F.2.2.1 (GW F.2.1 σ)) (hm : F.2.2.2.2.2.2.2.2.2.2.2.2.2.2.1 = 3) (ok : OkF F prog_12_method_30_code "LastSeenModel" ({ frames := 0, cells := 0, slots := 0, locals := 0 } : Room)) {Q : Int → SS → Prop} (hQ : RetI F Q) {x1 x2 : Int} {s : SS} (h : B_Md_standing_4 Q (fun x1 x2 s => AtS F 4 [(0, .ref (F.2.1.1 10)), (1, vI x1), (2, vI x2)] [] s) x1 x2 s) : AtS F 4 [(0, .ref (F.2.1.1 10)), (1, vI x1), (2, vI x2)] [] s := by
  unfold B_Md_standing_4 at h
  refine r_iload_n ok 2 d_Md_standing_4 rfl rfl ?_
  refine r_bipush ok 40 d_Md_standing_5 (by decide) ?_
  refine r_icmp_ge ok 33 d_Md_standing_7 (by decide) h.1 (by decide) (fun c => ?_) (fun c => ?_)
  · replace h := h.2.1 c
    refine r_iload_n ok 1 d_Md_standing_33 rfl rfl ?_
    exact hQ _ _ _ _ _ (ok_code ok) d_Md_standing_34 h
  · replace h := h.2.2 c
    refine r_iload_n ok 1 d_Md_standing_10 rfl rfl ?_
    refine r_aload_n ok 0 d_Md_standing_11 rfl rfl ?_
    refine g_Md_stands ok d_Md_standing_12 ?_
    refine r_iload_n ok 2 d_Md_standing_15 rfl rfl ?_
    refine r_zald ok 70 d_Md_standing_16 (by decide) rfl h.1 ?_
    replace h := h.2
    refine r_if_eq ok 24 d_Md_standing_17 (by decide) h.1 (fun c => ?_) (fun c => ?_)
    · replace h := h.2.1 c
      refine r_iconst ok 0 d_Md_standing_24 rfl ?_
      refine r_iadd ok d_Md_standing_25 ?_
      refine r_istore_n ok [(1, vI (x1 + 0)), (0, .ref (F.2.1.1 10)), (2, vI x2)] d_Md_standing_26 rfl hm (by decide) rfl ?_
      refine r_iinc ok 2 (x2 + 1) [(2, vI (x2 + 1)), (1, vI (x1 + 0)), (0, .ref (F.2.1.1 10))] d_Md_standing_27 rfl rfl hm (by decide) rfl ?_
      refine r_goto ok 4 d_Md_standing_30 (by decide) ?_
      exact r_sub [2, 1, 0] rfl h
    · replace h := h.2.2 c
      refine r_iconst ok 1 d_Md_standing_20 rfl ?_
      refine r_goto ok 25 d_Md_standing_21 (by decide) ?_
      refine r_iadd ok d_Md_standing_25 ?_
      refine r_istore_n ok [(1, vI (x1 + 1)), (0, .ref (F.2.1.1 10)), (2, vI x2)] d_Md_standing_26 rfl hm (by decide) rfl ?_
      refine r_iinc ok 2 (x2 + 1) [(2, vI (x2 + 1)), (1, vI (x1 + 1)), (0, .ref (F.2.1.1 10))] d_Md_standing_27 rfl rfl hm (by decide) rfl ?_
      refine r_goto ok 4 d_Md_standing_30 (by decide) ?_
      exact r_sub [2, 1, 0] rfl h
set_option maxHeartbeats 4000000 in
set_option maxRecDepth 100000 in
theorem K_Md_standing_e {F : FT} (hD : ∀ σ, va_D F.2.2.1 (GW F.2.1 σ)) (hm : F.2.2.2.2.2.2.2.2.2.2.2.2.2.2.1 = 3) (ok : OkF F prog_12_method_30_code "LastSeenModel" ({ frames := 0, cells := 0, slots := 0, locals := 0 } : Room)) {Q : Int → SS → Prop} (hQ : RetI F Q) {s : SS} (h : B_Md_standing_e Q (fun x1 x2 s => AtS F 4 [(0, .ref (F.2.1.1 10)), (1, vI x1), (2, vI x2)] [] s)  s) : AtS F 0 [(0, .ref (F.2.1.1 10))] [] s := by
  unfold B_Md_standing_e at h
  refine r_iconst ok 0 d_Md_standing_0 rfl ?_
  refine r_istore_n ok [(1, vI 0), (0, .ref (F.2.1.1 10))] d_Md_standing_1 rfl hm (by decide) rfl ?_
  refine r_iconst ok 0 d_Md_standing_2 rfl ?_
  refine r_istore_n ok [(2, vI 0), (1, vI 0), (0, .ref (F.2.1.1 10))] d_Md_standing_3 rfl hm (by decide) rfl ?_
  exact r_sub [2, 1, 0] rfl h
theorem L_Md_standing (l : Launch) (G : GE) (A : Nat → Prop) (hD : ∀ σ, va_D A (GW G σ)) {s : SS} {Q : Int → SS → Prop} (h : Sp_Md_standing  s Q) : Met l y_Md_standing (Cond.code y_Md_standing prog_12_method_30_code 3 (some .int) :: lw_ok) ({ frames := 0, cells := 0, slots := 0, locals := 0 } : Room) (va_Pc [.ref (G.1 10)] (gB G s)) (va_Qi (fun (r : Int32) (s2 : SS) => ∃ x : Int, r = iI x ∧ Q x s2) (fun s2 t => gB G s2 t) A) 0 0 A := by
  refine met_i hD (by decide) ⟨rfl, rfl⟩ (Nat.le_of_ble_eq_true rfl) (lv := [(0, .ref (G.1 10))]) rfl (fun F h1 h2 h3 hm ok hQ => ?_)
  subst h1 h2 h3
  have hDF := hD
  exact K_Md_standing_e hDF hm ok hQ (h _ (fun _ _ _ hb => K_Md_standing_4 hDF hm ok hQ hb))
theorem d_Md_withdraw_0 : decode prog_12_method_31_code 0 = .ok (.aload_n 0, 1) := by decide +kernel
theorem d_Md_withdraw_1 : decode prog_12_method_31_code 1 = .ok (.iload_n 1, 1) := by decide +kernel
theorem d_Md_withdraw_2 : decode prog_12_method_31_code 2 = .ok (.invokevirtual 274, 3) := by decide +kernel
theorem d_Md_withdraw_5 : decode prog_12_method_31_code 5 = .ok (.ifCond .ne 5, 3) := by decide +kernel
theorem d_Md_withdraw_8 : decode prog_12_method_31_code 8 = .ok (.iconst (-1), 1) := by decide +kernel
theorem d_Md_withdraw_9 : decode prog_12_method_31_code 9 = .ok (.ireturn, 1) := by decide +kernel
theorem d_Md_withdraw_10 : decode prog_12_method_31_code 10 = .ok (.aload_n 0, 1) := by decide +kernel
theorem d_Md_withdraw_11 : decode prog_12_method_31_code 11 = .ok (.aload_n 0, 1) := by decide +kernel
theorem d_Md_withdraw_12 : decode prog_12_method_31_code 12 = .ok (.getfield 198, 3) := by decide +kernel
theorem d_Md_withdraw_15 : decode prog_12_method_31_code 15 = .ok (.invokevirtual 266, 3) := by decide +kernel
theorem d_Md_withdraw_18 : decode prog_12_method_31_code 18 = .ok (.aload_n 0, 1) := by decide +kernel
theorem d_Md_withdraw_19 : decode prog_12_method_31_code 19 = .ok (.getfield 41, 3) := by decide +kernel
theorem d_Md_withdraw_22 : decode prog_12_method_31_code 22 = .ok (.iload_n 1, 1) := by decide +kernel
theorem d_Md_withdraw_23 : decode prog_12_method_31_code 23 = .ok (.baload, 1) := by decide +kernel
theorem d_Md_withdraw_24 : decode prog_12_method_31_code 24 = .ok (.ifCond .eq 6, 3) := by decide +kernel
theorem d_Md_withdraw_27 : decode prog_12_method_31_code 27 = .ok (.bipush (-3), 2) := by decide +kernel
theorem d_Md_withdraw_29 : decode prog_12_method_31_code 29 = .ok (.ireturn, 1) := by decide +kernel
theorem d_Md_withdraw_30 : decode prog_12_method_31_code 30 = .ok (.aload_n 0, 1) := by decide +kernel
theorem d_Md_withdraw_31 : decode prog_12_method_31_code 31 = .ok (.getfield 198, 3) := by decide +kernel
theorem d_Md_withdraw_34 : decode prog_12_method_31_code 34 = .ok (.sipush 200, 3) := by decide +kernel
theorem d_Md_withdraw_37 : decode prog_12_method_31_code 37 = .ok (.if_icmp .ne 6, 3) := by decide +kernel
theorem d_Md_withdraw_40 : decode prog_12_method_31_code 40 = .ok (.bipush (-4), 2) := by decide +kernel
theorem d_Md_withdraw_42 : decode prog_12_method_31_code 42 = .ok (.ireturn, 1) := by decide +kernel
theorem d_Md_withdraw_43 : decode prog_12_method_31_code 43 = .ok (.aload_n 0, 1) := by decide +kernel
theorem d_Md_withdraw_44 : decode prog_12_method_31_code 44 = .ok (.invokevirtual 281, 3) := by decide +kernel
theorem d_Md_withdraw_47 : decode prog_12_method_31_code 47 = .ok (.istore_n 2, 1) := by decide +kernel
theorem d_Md_withdraw_48 : decode prog_12_method_31_code 48 = .ok (.aload_n 0, 1) := by decide +kernel
theorem d_Md_withdraw_49 : decode prog_12_method_31_code 49 = .ok (.iconst 5, 1) := by decide +kernel
theorem d_Md_withdraw_50 : decode prog_12_method_31_code 50 = .ok (.iload_n 1, 1) := by decide +kernel
theorem d_Md_withdraw_51 : decode prog_12_method_31_code 51 = .ok (.iconst 0, 1) := by decide +kernel
theorem d_Md_withdraw_52 : decode prog_12_method_31_code 52 = .ok (.invokevirtual 233, 3) := by decide +kernel
theorem d_Md_withdraw_55 : decode prog_12_method_31_code 55 = .ok (.aload_n 0, 1) := by decide +kernel
theorem d_Md_withdraw_56 : decode prog_12_method_31_code 56 = .ok (.aload_n 0, 1) := by decide +kernel
theorem d_Md_withdraw_57 : decode prog_12_method_31_code 57 = .ok (.getfield 198, 3) := by decide +kernel
theorem d_Md_withdraw_60 : decode prog_12_method_31_code 60 = .ok (.invokevirtual 266, 3) := by decide +kernel
theorem d_Md_withdraw_63 : decode prog_12_method_31_code 63 = .ok (.iload_n 2, 1) := by decide +kernel
theorem d_Md_withdraw_64 : decode prog_12_method_31_code 64 = .ok (.aload_n 0, 1) := by decide +kernel
theorem d_Md_withdraw_65 : decode prog_12_method_31_code 65 = .ok (.invokevirtual 281, 3) := by decide +kernel
theorem d_Md_withdraw_68 : decode prog_12_method_31_code 68 = .ok (.isub, 1) := by decide +kernel
theorem d_Md_withdraw_69 : decode prog_12_method_31_code 69 = .ok (.ireturn, 1) := by decide +kernel
set_option maxHeartbeats 4000000 in
set_option maxRecDepth 100000 in
theorem K_Md_withdraw_e {F : FT} (hD : ∀ σ, va_D F.2.2.1 (GW F.2.1 σ)) (hm : F.2.2.2.2.2.2.2.2.2.2.2.2.2.2.1 = 3) (ok : OkF F prog_12_method_31_code "LastSeenModel" ({ frames := 2, cells := 0, slots := 0, locals := 49 } : Room)) {Q : Int → SS → Prop} (hQ : RetI F Q) {x1 : Int} {s : SS} (h : Sp_Md_withdraw x1 s Q) : AtS F 0 [(0, .ref (F.2.1.1 10)), (1, vI x1)] [] s := by
  unfold Sp_Md_withdraw at h
  refine r_aload_n ok 0 d_Md_withdraw_0 rfl rfl ?_
  refine r_iload_n ok 1 d_Md_withdraw_1 rfl rfl ?_
  refine r_callVi (As := [vI x1]) (rest := []) ok 10 rfl rfl rfl wl_Md_274 wi_y_Md_isWord ws_y_Md_isWord wn_Md wc_y_Md_isWord (by decide) (by decide) hh_Md_isWord (Nat.le_of_ble_eq_true rfl) rfl d_Md_withdraw_2 (L_Md_isWord F.1 F.2.1 F.2.2.1 hD h) (fun r2 s1 h => ?_)
  refine r_if_ne ok 10 d_Md_withdraw_5 (by decide) h.1 (fun c => ?_) (fun c => ?_)
  · replace h := h.2.1 c
    refine r_aload_n ok 0 d_Md_withdraw_10 rfl rfl ?_
    refine r_aload_n ok 0 d_Md_withdraw_11 rfl rfl ?_
    refine g_Md_entries ok d_Md_withdraw_12 ?_
    refine r_callVv (As := [vI (s1.1 29)]) (rest := []) ok 10 rfl rfl rfl wl_Md_266 wi_y_Md_looks ws_y_Md_looks wn_Md wc_y_Md_looks (by decide) (by decide) hh_Md_looks (Nat.le_of_ble_eq_true rfl) rfl d_Md_withdraw_15 (L_Md_looks F.1 F.2.1 F.2.2.1 hD h) (fun s3 h => ?_)
    refine r_aload_n ok 0 d_Md_withdraw_18 rfl rfl ?_
    refine g_Md_isGone ok d_Md_withdraw_19 ?_
    refine r_iload_n ok 1 d_Md_withdraw_22 rfl rfl ?_
    refine r_zald ok 69 d_Md_withdraw_23 (by decide) rfl h.1 ?_
    replace h := h.2
    refine r_if_eq ok 30 d_Md_withdraw_24 (by decide) h.1 (fun c => ?_) (fun c => ?_)
    · replace h := h.2.1 c
      refine r_aload_n ok 0 d_Md_withdraw_30 rfl rfl ?_
      refine g_Md_entries ok d_Md_withdraw_31 ?_
      refine r_sipush ok 200 d_Md_withdraw_34 (by decide) ?_
      refine r_icmp_ne ok 43 d_Md_withdraw_37 (by decide) h.1 (by decide) (fun c => ?_) (fun c => ?_)
      · replace h := h.2.1 c
        refine r_aload_n ok 0 d_Md_withdraw_43 rfl rfl ?_
        refine r_callVi (As := []) (rest := []) ok 10 rfl rfl rfl wl_Md_281 wi_y_Md_standing ws_y_Md_standing wn_Md wc_y_Md_standing (by decide) (by decide) hh_Md_standing (Nat.le_of_ble_eq_true rfl) rfl d_Md_withdraw_44 (L_Md_standing F.1 F.2.1 F.2.2.1 hD h) (fun r5 s4 h => ?_)
        refine r_istore_n ok [(2, vI r5), (0, .ref (F.2.1.1 10)), (1, vI x1)] d_Md_withdraw_47 rfl hm (by decide) rfl ?_
        refine r_aload_n ok 1 d_Md_withdraw_48 rfl rfl ?_
        refine r_iconst ok 5 d_Md_withdraw_49 rfl ?_
        refine r_iload_n ok 2 d_Md_withdraw_50 rfl rfl ?_
        refine r_iconst ok 0 d_Md_withdraw_51 rfl ?_
        refine r_callVv (As := [vI 5, vI x1, vI 0]) (rest := []) ok 10 rfl rfl rfl wl_Md_233 wi_y_Md_enters ws_y_Md_enters wn_Md wc_y_Md_enters (by decide) (by decide) hh_Md_enters (Nat.le_of_ble_eq_true rfl) rfl d_Md_withdraw_52 (L_Md_enters F.1 F.2.1 F.2.2.1 hD h) (fun s6 h => ?_)
        refine r_aload_n ok 1 d_Md_withdraw_55 rfl rfl ?_
        refine r_aload_n ok 1 d_Md_withdraw_56 rfl rfl ?_
        refine g_Md_entries ok d_Md_withdraw_57 ?_
        refine r_callVv (As := [vI (s6.1 29)]) (rest := []) ok 10 rfl rfl rfl wl_Md_266 wi_y_Md_looks ws_y_Md_looks wn_Md wc_y_Md_looks (by decide) (by decide) hh_Md_looks (Nat.le_of_ble_eq_true rfl) rfl d_Md_withdraw_60 (L_Md_looks F.1 F.2.1 F.2.2.1 hD h) (fun s7 h => ?_)
        refine r_iload_n ok 0 d_Md_withdraw_63 rfl rfl ?_
        refine r_aload_n ok 1 d_Md_withdraw_64 rfl rfl ?_
        refine r_callVi (As := []) (rest := [vI r5]) ok 10 rfl rfl rfl wl_Md_281 wi_y_Md_standing ws_y_Md_standing wn_Md wc_y_Md_standing (by decide) (by decide) hh_Md_standing (Nat.le_of_ble_eq_true rfl) rfl d_Md_withdraw_65 (L_Md_standing F.1 F.2.1 F.2.2.1 hD h) (fun r9 s8 h => ?_)
        refine r_isub ok d_Md_withdraw_68 ?_
        exact hQ _ _ _ _ _ (ok_code ok) d_Md_withdraw_69 h
      · replace h := h.2.2 c
        refine r_bipush ok (-4) d_Md_withdraw_40 (by decide) ?_
        exact hQ _ _ _ _ _ (ok_code ok) d_Md_withdraw_42 h
    · replace h := h.2.2 c
      refine r_bipush ok (-3) d_Md_withdraw_27 (by decide) ?_
      exact hQ _ _ _ _ _ (ok_code ok) d_Md_withdraw_29 h
  · replace h := h.2.2 c
    refine r_iconst ok (-1) d_Md_withdraw_8 rfl ?_
    exact hQ _ _ _ _ _ (ok_code ok) d_Md_withdraw_9 h
theorem L_Md_withdraw (l : Launch) (G : GE) (A : Nat → Prop) (hD : ∀ σ, va_D A (GW G σ)) {x1 : Int} {s : SS} {Q : Int → SS → Prop} (h : Sp_Md_withdraw x1 s Q) : Met l y_Md_withdraw (Cond.code y_Md_withdraw prog_12_method_31_code 3 (some .int) :: lw_ok) ({ frames := 2, cells := 0, slots := 0, locals := 49 } : Room) (va_Pc [.ref (G.1 10), vI x1] (gB G s)) (va_Qi (fun (r : Int32) (s2 : SS) => ∃ x : Int, r = iI x ∧ Q x s2) (fun s2 t => gB G s2 t) A) 0 0 A := by
  refine met_i hD (by decide) ⟨rfl, rfl⟩ (Nat.le_of_ble_eq_true rfl) (lv := [(0, .ref (G.1 10)), (1, vI x1)]) rfl (fun F h1 h2 h3 hm ok hQ => ?_)
  subst h1 h2 h3
  have hDF := hD
  exact K_Md_withdraw_e hDF hm ok hQ h
theorem d_Md_about_0 : decode prog_12_method_32_code 0 = .ok (.aload_n 0, 1) := by decide +kernel
theorem d_Md_about_1 : decode prog_12_method_32_code 1 = .ok (.iload_n 1, 1) := by decide +kernel
theorem d_Md_about_2 : decode prog_12_method_32_code 2 = .ok (.invokevirtual 274, 3) := by decide +kernel
theorem d_Md_about_5 : decode prog_12_method_32_code 5 = .ok (.ifCond .eq 23, 3) := by decide +kernel
theorem d_Md_about_8 : decode prog_12_method_32_code 8 = .ok (.aload_n 0, 1) := by decide +kernel
theorem d_Md_about_9 : decode prog_12_method_32_code 9 = .ok (.iload_n 2, 1) := by decide +kernel
theorem d_Md_about_10 : decode prog_12_method_32_code 10 = .ok (.invokevirtual 260, 3) := by decide +kernel
theorem d_Md_about_13 : decode prog_12_method_32_code 13 = .ok (.ifCond .eq 15, 3) := by decide +kernel
theorem d_Md_about_16 : decode prog_12_method_32_code 16 = .ok (.iload_n 3, 1) := by decide +kernel
theorem d_Md_about_17 : decode prog_12_method_32_code 17 = .ok (.i2l, 1) := by decide +kernel
theorem d_Md_about_18 : decode prog_12_method_32_code 18 = .ok (.lconst 0, 1) := by decide +kernel
theorem d_Md_about_19 : decode prog_12_method_32_code 19 = .ok (.ldc2_w 285, 3) := by decide +kernel
theorem d_Md_about_22 : decode prog_12_method_32_code 22 = .ok (.invokestatic 191, 3) := by decide +kernel
theorem d_Md_about_25 : decode prog_12_method_32_code 25 = .ok (.ifCond .ne 5, 3) := by decide +kernel
theorem d_Md_about_28 : decode prog_12_method_32_code 28 = .ok (.iconst (-1), 1) := by decide +kernel
theorem d_Md_about_29 : decode prog_12_method_32_code 29 = .ok (.ireturn, 1) := by decide +kernel
theorem d_Md_about_30 : decode prog_12_method_32_code 30 = .ok (.aload_n 0, 1) := by decide +kernel
theorem d_Md_about_31 : decode prog_12_method_32_code 31 = .ok (.aload_n 0, 1) := by decide +kernel
theorem d_Md_about_32 : decode prog_12_method_32_code 32 = .ok (.iload_n 2, 1) := by decide +kernel
theorem d_Md_about_33 : decode prog_12_method_32_code 33 = .ok (.invokevirtual 263, 3) := by decide +kernel
theorem d_Md_about_36 : decode prog_12_method_32_code 36 = .ok (.invokevirtual 266, 3) := by decide +kernel
theorem d_Md_about_39 : decode prog_12_method_32_code 39 = .ok (.iload_n 1, 1) := by decide +kernel
theorem d_Md_about_40 : decode prog_12_method_32_code 40 = .ok (.aload_n 0, 1) := by decide +kernel
theorem d_Md_about_41 : decode prog_12_method_32_code 41 = .ok (.getfield 247, 3) := by decide +kernel
theorem d_Md_about_44 : decode prog_12_method_32_code 44 = .ok (.if_icmp .lt 5, 3) := by decide +kernel
theorem d_Md_about_47 : decode prog_12_method_32_code 47 = .ok (.iconst (-1), 1) := by decide +kernel
theorem d_Md_about_48 : decode prog_12_method_32_code 48 = .ok (.ireturn, 1) := by decide +kernel
theorem d_Md_about_49 : decode prog_12_method_32_code 49 = .ok (.iload_n 3, 1) := by decide +kernel
theorem d_Md_about_50 : decode prog_12_method_32_code 50 = .ok (.ifCond .ne 20, 3) := by decide +kernel
theorem d_Md_about_53 : decode prog_12_method_32_code 53 = .ok (.aload_n 0, 1) := by decide +kernel
theorem d_Md_about_54 : decode prog_12_method_32_code 54 = .ok (.getfield 44, 3) := by decide +kernel
theorem d_Md_about_57 : decode prog_12_method_32_code 57 = .ok (.iload_n 1, 1) := by decide +kernel
theorem d_Md_about_58 : decode prog_12_method_32_code 58 = .ok (.baload, 1) := by decide +kernel
theorem d_Md_about_59 : decode prog_12_method_32_code 59 = .ok (.ifCond .eq 7, 3) := by decide +kernel
theorem d_Md_about_62 : decode prog_12_method_32_code 62 = .ok (.iconst 1, 1) := by decide +kernel
theorem d_Md_about_63 : decode prog_12_method_32_code 63 = .ok (.goto 32, 3) := by decide +kernel
theorem d_Md_about_66 : decode prog_12_method_32_code 66 = .ok (.iconst 0, 1) := by decide +kernel
theorem d_Md_about_67 : decode prog_12_method_32_code 67 = .ok (.goto 28, 3) := by decide +kernel
theorem d_Md_about_70 : decode prog_12_method_32_code 70 = .ok (.iload_n 3, 1) := by decide +kernel
theorem d_Md_about_71 : decode prog_12_method_32_code 71 = .ok (.iconst 1, 1) := by decide +kernel
theorem d_Md_about_72 : decode prog_12_method_32_code 72 = .ok (.if_icmp .ne 12, 3) := by decide +kernel
theorem d_Md_about_75 : decode prog_12_method_32_code 75 = .ok (.aload_n 0, 1) := by decide +kernel
theorem d_Md_about_76 : decode prog_12_method_32_code 76 = .ok (.getfield 77, 3) := by decide +kernel
theorem d_Md_about_79 : decode prog_12_method_32_code 79 = .ok (.iload_n 1, 1) := by decide +kernel
theorem d_Md_about_80 : decode prog_12_method_32_code 80 = .ok (.iaload, 1) := by decide +kernel
theorem d_Md_about_81 : decode prog_12_method_32_code 81 = .ok (.goto 14, 3) := by decide +kernel
theorem d_Md_about_84 : decode prog_12_method_32_code 84 = .ok (.aload_n 0, 1) := by decide +kernel
theorem d_Md_about_85 : decode prog_12_method_32_code 85 = .ok (.getfield 50, 3) := by decide +kernel
theorem d_Md_about_88 : decode prog_12_method_32_code 88 = .ok (.aload_n 0, 1) := by decide +kernel
theorem d_Md_about_89 : decode prog_12_method_32_code 89 = .ok (.getfield 62, 3) := by decide +kernel
theorem d_Md_about_92 : decode prog_12_method_32_code 92 = .ok (.iload_n 1, 1) := by decide +kernel
theorem d_Md_about_93 : decode prog_12_method_32_code 93 = .ok (.iaload, 1) := by decide +kernel
theorem d_Md_about_94 : decode prog_12_method_32_code 94 = .ok (.iaload, 1) := by decide +kernel
theorem d_Md_about_95 : decode prog_12_method_32_code 95 = .ok (.ireturn, 1) := by decide +kernel
set_option maxHeartbeats 4000000 in
set_option maxRecDepth 100000 in
theorem K_Md_about_e {F : FT} (hD : ∀ σ, va_D F.2.2.1 (GW F.2.1 σ)) (hm : F.2.2.2.2.2.2.2.2.2.2.2.2.2.2.1 = 4) (ok : OkF F prog_12_method_32_code "LastSeenModel" ({ frames := 2, cells := 0, slots := 0, locals := 49 } : Room)) {Q : Int → SS → Prop} (hQ : RetI F Q) {x1 x2 x3 : Int} {s : SS} (h : Sp_Md_about x1 x2 x3 s Q) : AtS F 0 [(0, .ref (F.2.1.1 10)), (1, vI x1), (2, vI x2), (3, vI x3)] [] s := by
  unfold Sp_Md_about at h
  refine r_aload_n ok 0 d_Md_about_0 rfl rfl ?_
  refine r_iload_n ok 1 d_Md_about_1 rfl rfl ?_
  refine r_callVi (As := [vI x1]) (rest := []) ok 10 rfl rfl rfl wl_Md_274 wi_y_Md_isWord ws_y_Md_isWord wn_Md wc_y_Md_isWord (by decide) (by decide) hh_Md_isWord (Nat.le_of_ble_eq_true rfl) rfl d_Md_about_2 (L_Md_isWord F.1 F.2.1 F.2.2.1 hD h) (fun r2 s1 h => ?_)
  refine r_if_eq ok 28 d_Md_about_5 (by decide) h.1 (fun c => ?_) (fun c => ?_)
  · replace h := h.2.1 c
    refine r_iconst ok (-1) d_Md_about_28 rfl ?_
    exact hQ _ _ _ _ _ (ok_code ok) d_Md_about_29 h
  · replace h := h.2.2 c
    refine r_aload_n ok 0 d_Md_about_8 rfl rfl ?_
    refine r_iload_n ok 2 d_Md_about_9 rfl rfl ?_
    refine r_callVi (As := [vI x2]) (rest := []) ok 10 rfl rfl rfl wl_Md_260 wi_y_Md_isTold ws_y_Md_isTold wn_Md wc_y_Md_isTold (by decide) (by decide) hh_Md_isTold (Nat.le_of_ble_eq_true rfl) rfl d_Md_about_10 (L_Md_isTold F.1 F.2.1 F.2.2.1 hD h) (fun r4 s3 h => ?_)
    refine r_if_eq ok 28 d_Md_about_13 (by decide) h.1 (fun c => ?_) (fun c => ?_)
    · replace h := h.2.1 c
      refine r_iconst ok (-1) d_Md_about_28 rfl ?_
      exact hQ _ _ _ _ _ (ok_code ok) d_Md_about_29 h
    · replace h := h.2.2 c
      refine r_iload_n ok 3 d_Md_about_16 rfl rfl ?_
      refine r_i2l ok d_Md_about_17 h.1 ?_
      replace h := h.2
      refine r_lconst ok 0 d_Md_about_18 (by decide) ?_
      refine r_ldc2 ok 2 wk_Md_285 d_Md_about_19 (by decide) ?_
      refine r_callSi (As := [vJ x3, vJ 0, vJ 2]) (rest := []) ok wl_Md_191 wt_y_Md_isIn wn_Md wc_y_Md_isIn (by decide) (by decide) hh_Md_isIn (Nat.le_of_ble_eq_true rfl) rfl d_Md_about_22 (L_Md_isIn F.1 F.2.1 F.2.2.1 hD h) (fun r6 s5 h => ?_)
      refine r_if_ne ok 30 d_Md_about_25 (by decide) h.1 (fun c => ?_) (fun c => ?_)
      · replace h := h.2.1 c
        refine r_aload_n ok 0 d_Md_about_30 rfl rfl ?_
        refine r_aload_n ok 0 d_Md_about_31 rfl rfl ?_
        refine r_iload_n ok 2 d_Md_about_32 rfl rfl ?_
        refine r_callVi (As := [vI x2]) (rest := [.ref (F.2.1.1 10)]) ok 10 rfl rfl rfl wl_Md_263 wi_y_Md_by ws_y_Md_by wn_Md wc_y_Md_by (by decide) (by decide) hh_Md_by (Nat.le_of_ble_eq_true rfl) rfl d_Md_about_33 (L_Md_by F.1 F.2.1 F.2.2.1 hD h) (fun r8 s7 h => ?_)
        refine r_callVv (As := [vI r8]) (rest := []) ok 10 rfl rfl rfl wl_Md_266 wi_y_Md_looks ws_y_Md_looks wn_Md wc_y_Md_looks (by decide) (by decide) hh_Md_looks (Nat.le_of_ble_eq_true rfl) rfl d_Md_about_36 (L_Md_looks F.1 F.2.1 F.2.2.1 hD h) (fun s9 h => ?_)
        refine r_iload_n ok 1 d_Md_about_39 rfl rfl ?_
        refine r_aload_n ok 0 d_Md_about_40 rfl rfl ?_
        refine g_Md_seenWords ok d_Md_about_41 ?_
        refine r_icmp_lt ok 49 d_Md_about_44 (by decide) h.1 h.2.1 (fun c => ?_) (fun c => ?_)
        · replace h := h.2.2.1 c
          refine r_iload_n ok 3 d_Md_about_49 rfl rfl ?_
          refine r_if_ne ok 70 d_Md_about_50 (by decide) h.1 (fun c => ?_) (fun c => ?_)
          · replace h := h.2.1 c
            refine r_iload_n ok 3 d_Md_about_70 rfl rfl ?_
            refine r_iconst ok 1 d_Md_about_71 rfl ?_
            refine r_icmp_ne ok 84 d_Md_about_72 (by decide) h.1 (by decide) (fun c => ?_) (fun c => ?_)
            · replace h := h.2.1 c
              refine r_aload_n ok 0 d_Md_about_84 rfl rfl ?_
              refine g_Md_person ok d_Md_about_85 ?_
              refine r_aload_n ok 0 d_Md_about_88 rfl rfl ?_
              refine g_Md_ofName ok d_Md_about_89 ?_
              refine r_iload_n ok 1 d_Md_about_92 rfl rfl ?_
              refine r_iald ok 76 d_Md_about_93 (by decide) rfl h.1 ?_
              replace h := h.2
              refine r_iald ok 72 d_Md_about_94 (by decide) rfl h.1 ?_
              replace h := h.2
              exact hQ _ _ _ _ _ (ok_code ok) d_Md_about_95 h
            · replace h := h.2.2 c
              refine r_aload_n ok 0 d_Md_about_75 rfl rfl ?_
              refine g_Md_rootOf ok d_Md_about_76 ?_
              refine r_iload_n ok 1 d_Md_about_79 rfl rfl ?_
              refine r_iald ok 81 d_Md_about_80 (by decide) rfl h.1 ?_
              replace h := h.2
              refine r_goto ok 95 d_Md_about_81 (by decide) ?_
              exact hQ _ _ _ _ _ (ok_code ok) d_Md_about_95 h
          · replace h := h.2.2 c
            refine r_aload_n ok 0 d_Md_about_53 rfl rfl ?_
            refine g_Md_stands ok d_Md_about_54 ?_
            refine r_iload_n ok 1 d_Md_about_57 rfl rfl ?_
            refine r_zald ok 70 d_Md_about_58 (by decide) rfl h.1 ?_
            replace h := h.2
            refine r_if_eq ok 66 d_Md_about_59 (by decide) h.1 (fun c => ?_) (fun c => ?_)
            · replace h := h.2.1 c
              refine r_iconst ok 0 d_Md_about_66 rfl ?_
              refine r_goto ok 95 d_Md_about_67 (by decide) ?_
              exact hQ _ _ _ _ _ (ok_code ok) d_Md_about_95 h
            · replace h := h.2.2 c
              refine r_iconst ok 1 d_Md_about_62 rfl ?_
              refine r_goto ok 95 d_Md_about_63 (by decide) ?_
              exact hQ _ _ _ _ _ (ok_code ok) d_Md_about_95 h
        · replace h := h.2.2.2 c
          refine r_iconst ok (-1) d_Md_about_47 rfl ?_
          exact hQ _ _ _ _ _ (ok_code ok) d_Md_about_48 h
      · replace h := h.2.2 c
        refine r_iconst ok (-1) d_Md_about_28 rfl ?_
        exact hQ _ _ _ _ _ (ok_code ok) d_Md_about_29 h
theorem L_Md_about (l : Launch) (G : GE) (A : Nat → Prop) (hD : ∀ σ, va_D A (GW G σ)) {x1 x2 x3 : Int} {s : SS} {Q : Int → SS → Prop} (h : Sp_Md_about x1 x2 x3 s Q) : Met l y_Md_about (Cond.code y_Md_about prog_12_method_32_code 4 (some .int) :: lw_ok) ({ frames := 2, cells := 0, slots := 0, locals := 49 } : Room) (va_Pc [.ref (G.1 10), vI x1, vI x2, vI x3] (gB G s)) (va_Qi (fun (r : Int32) (s2 : SS) => ∃ x : Int, r = iI x ∧ Q x s2) (fun s2 t => gB G s2 t) A) 0 0 A := by
  refine met_i hD (by decide) ⟨rfl, rfl⟩ (Nat.le_of_ble_eq_true rfl) (lv := [(0, .ref (G.1 10)), (1, vI x1), (2, vI x2), (3, vI x3)]) rfl (fun F h1 h2 h3 hm ok hQ => ?_)
  subst h1 h2 h3
  have hDF := hD
  exact K_Md_about_e hDF hm ok hQ h
theorem d_Md_findRoots_0 : decode prog_12_method_33_code 0 = .ok (.aload_n 0, 1) := by decide +kernel
theorem d_Md_findRoots_1 : decode prog_12_method_33_code 1 = .ok (.iconst 0, 1) := by decide +kernel
theorem d_Md_findRoots_2 : decode prog_12_method_33_code 2 = .ok (.putfield 287, 3) := by decide +kernel
theorem d_Md_findRoots_5 : decode prog_12_method_33_code 5 = .ok (.iconst 0, 1) := by decide +kernel
theorem d_Md_findRoots_6 : decode prog_12_method_33_code 6 = .ok (.istore_n 2, 1) := by decide +kernel
theorem d_Md_findRoots_7 : decode prog_12_method_33_code 7 = .ok (.iload_n 2, 1) := by decide +kernel
theorem d_Md_findRoots_8 : decode prog_12_method_33_code 8 = .ok (.aload_n 0, 1) := by decide +kernel
theorem d_Md_findRoots_9 : decode prog_12_method_33_code 9 = .ok (.getfield 247, 3) := by decide +kernel
theorem d_Md_findRoots_12 : decode prog_12_method_33_code 12 = .ok (.if_icmp .ge 103, 3) := by decide +kernel
theorem d_Md_findRoots_15 : decode prog_12_method_33_code 15 = .ok (.iconst 0, 1) := by decide +kernel
theorem d_Md_findRoots_16 : decode prog_12_method_33_code 16 = .ok (.istore_n 3, 1) := by decide +kernel
theorem d_Md_findRoots_17 : decode prog_12_method_33_code 17 = .ok (.iconst 0, 1) := by decide +kernel
theorem d_Md_findRoots_18 : decode prog_12_method_33_code 18 = .ok (.istore 4, 2) := by decide +kernel
theorem d_Md_findRoots_20 : decode prog_12_method_33_code 20 = .ok (.iload 4, 2) := by decide +kernel
theorem d_Md_findRoots_22 : decode prog_12_method_33_code 22 = .ok (.aload_n 0, 1) := by decide +kernel
theorem d_Md_findRoots_23 : decode prog_12_method_33_code 23 = .ok (.getfield 247, 3) := by decide +kernel
theorem d_Md_findRoots_26 : decode prog_12_method_33_code 26 = .ok (.if_icmp .ge 56, 3) := by decide +kernel
theorem d_Md_findRoots_29 : decode prog_12_method_33_code 29 = .ok (.iload_n 3, 1) := by decide +kernel
theorem d_Md_findRoots_30 : decode prog_12_method_33_code 30 = .ok (.ifCond .ne 40, 3) := by decide +kernel
theorem d_Md_findRoots_33 : decode prog_12_method_33_code 33 = .ok (.aload_n 0, 1) := by decide +kernel
theorem d_Md_findRoots_34 : decode prog_12_method_33_code 34 = .ok (.getfield 44, 3) := by decide +kernel
theorem d_Md_findRoots_37 : decode prog_12_method_33_code 37 = .ok (.iload 4, 2) := by decide +kernel
theorem d_Md_findRoots_39 : decode prog_12_method_33_code 39 = .ok (.baload, 1) := by decide +kernel
theorem d_Md_findRoots_40 : decode prog_12_method_33_code 40 = .ok (.ifCond .eq 34, 3) := by decide +kernel
theorem d_Md_findRoots_43 : decode prog_12_method_33_code 43 = .ok (.aload_n 0, 1) := by decide +kernel
theorem d_Md_findRoots_44 : decode prog_12_method_33_code 44 = .ok (.getfield 77, 3) := by decide +kernel
theorem d_Md_findRoots_47 : decode prog_12_method_33_code 47 = .ok (.iload 4, 2) := by decide +kernel
theorem d_Md_findRoots_49 : decode prog_12_method_33_code 49 = .ok (.iaload, 1) := by decide +kernel
theorem d_Md_findRoots_50 : decode prog_12_method_33_code 50 = .ok (.iload_n 2, 1) := by decide +kernel
theorem d_Md_findRoots_51 : decode prog_12_method_33_code 51 = .ok (.if_icmp .ne 23, 3) := by decide +kernel
theorem d_Md_findRoots_54 : decode prog_12_method_33_code 54 = .ok (.aload_n 0, 1) := by decide +kernel
theorem d_Md_findRoots_55 : decode prog_12_method_33_code 55 = .ok (.getfield 50, 3) := by decide +kernel
theorem d_Md_findRoots_58 : decode prog_12_method_33_code 58 = .ok (.aload_n 0, 1) := by decide +kernel
theorem d_Md_findRoots_59 : decode prog_12_method_33_code 59 = .ok (.getfield 62, 3) := by decide +kernel
theorem d_Md_findRoots_62 : decode prog_12_method_33_code 62 = .ok (.iload 4, 2) := by decide +kernel
theorem d_Md_findRoots_64 : decode prog_12_method_33_code 64 = .ok (.iaload, 1) := by decide +kernel
theorem d_Md_findRoots_65 : decode prog_12_method_33_code 65 = .ok (.iaload, 1) := by decide +kernel
theorem d_Md_findRoots_66 : decode prog_12_method_33_code 66 = .ok (.iload_n 1, 1) := by decide +kernel
theorem d_Md_findRoots_67 : decode prog_12_method_33_code 67 = .ok (.if_icmp .ne 7, 3) := by decide +kernel
theorem d_Md_findRoots_70 : decode prog_12_method_33_code 70 = .ok (.iconst 1, 1) := by decide +kernel
theorem d_Md_findRoots_71 : decode prog_12_method_33_code 71 = .ok (.goto 4, 3) := by decide +kernel
theorem d_Md_findRoots_74 : decode prog_12_method_33_code 74 = .ok (.iconst 0, 1) := by decide +kernel
theorem d_Md_findRoots_75 : decode prog_12_method_33_code 75 = .ok (.istore_n 3, 1) := by decide +kernel
theorem d_Md_findRoots_76 : decode prog_12_method_33_code 76 = .ok (.iinc 4 1, 3) := by decide +kernel
theorem d_Md_findRoots_79 : decode prog_12_method_33_code 79 = .ok (.goto (-59), 3) := by decide +kernel
theorem d_Md_findRoots_82 : decode prog_12_method_33_code 82 = .ok (.iload_n 3, 1) := by decide +kernel
theorem d_Md_findRoots_83 : decode prog_12_method_33_code 83 = .ok (.ifCond .ne 6, 3) := by decide +kernel
theorem d_Md_findRoots_86 : decode prog_12_method_33_code 86 = .ok (.goto 23, 3) := by decide +kernel
theorem d_Md_findRoots_89 : decode prog_12_method_33_code 89 = .ok (.aload_n 0, 1) := by decide +kernel
theorem d_Md_findRoots_90 : decode prog_12_method_33_code 90 = .ok (.getfield 80, 3) := by decide +kernel
theorem d_Md_findRoots_93 : decode prog_12_method_33_code 93 = .ok (.aload_n 0, 1) := by decide +kernel
theorem d_Md_findRoots_94 : decode prog_12_method_33_code 94 = .ok (.getfield 287, 3) := by decide +kernel
theorem d_Md_findRoots_97 : decode prog_12_method_33_code 97 = .ok (.iload_n 2, 1) := by decide +kernel
theorem d_Md_findRoots_98 : decode prog_12_method_33_code 98 = .ok (.iastore, 1) := by decide +kernel
theorem d_Md_findRoots_99 : decode prog_12_method_33_code 99 = .ok (.aload_n 0, 1) := by decide +kernel
theorem d_Md_findRoots_100 : decode prog_12_method_33_code 100 = .ok (.dup, 1) := by decide +kernel
theorem d_Md_findRoots_101 : decode prog_12_method_33_code 101 = .ok (.getfield 287, 3) := by decide +kernel
theorem d_Md_findRoots_104 : decode prog_12_method_33_code 104 = .ok (.iconst 1, 1) := by decide +kernel
theorem d_Md_findRoots_105 : decode prog_12_method_33_code 105 = .ok (.iadd, 1) := by decide +kernel
theorem d_Md_findRoots_106 : decode prog_12_method_33_code 106 = .ok (.putfield 287, 3) := by decide +kernel
theorem d_Md_findRoots_109 : decode prog_12_method_33_code 109 = .ok (.iinc 2 1, 3) := by decide +kernel
theorem d_Md_findRoots_112 : decode prog_12_method_33_code 112 = .ok (.goto (-105), 3) := by decide +kernel
theorem d_Md_findRoots_115 : decode prog_12_method_33_code 115 = .ok (.return_, 1) := by decide +kernel
set_option maxHeartbeats 4000000 in
set_option maxRecDepth 100000 in
theorem K_Md_findRoots_7 {F : FT} (hD : ∀ σ, va_D F.2.2.1 (GW F.2.1 σ)) (hm : F.2.2.2.2.2.2.2.2.2.2.2.2.2.2.1 = 5) (ok : OkF F prog_12_method_33_code "LastSeenModel" ({ frames := 0, cells := 0, slots := 0, locals := 0 } : Room)) {Q : SS → Prop} (hQ : RetV F Q) {x1 x2 : Int} {s : SS} (h : B_Md_findRoots_7 Q (fun x1 x2 s => AtS F 7 [(0, .ref (F.2.1.1 10)), (1, vI x1), (2, vI x2)] [] s) (fun x1 x2 x3 x4 s => AtS F 20 [(0, .ref (F.2.1.1 10)), (1, vI x1), (2, vI x2), (3, vI x3), (4, vI x4)] [] s) x1 x2 s) : AtS F 7 [(0, .ref (F.2.1.1 10)), (1, vI x1), (2, vI x2)] [] s := by
  unfold B_Md_findRoots_7 at h
  refine r_iload_n ok 2 d_Md_findRoots_7 rfl rfl ?_
  refine r_aload_n ok 0 d_Md_findRoots_8 rfl rfl ?_
  refine g_Md_seenWords ok d_Md_findRoots_9 ?_
  refine r_icmp_ge ok 115 d_Md_findRoots_12 (by decide) h.1 h.2.1 (fun c => ?_) (fun c => ?_)
  · replace h := h.2.2.1 c
    exact hQ _ _ _ _ (ok_code ok) d_Md_findRoots_115 h
  · replace h := h.2.2.2 c
    refine r_iconst ok 0 d_Md_findRoots_15 rfl ?_
    refine r_istore_n ok [(3, vI 0), (0, .ref (F.2.1.1 10)), (1, vI x1), (2, vI x2)] d_Md_findRoots_16 rfl hm (by decide) rfl ?_
    refine r_iconst ok 0 d_Md_findRoots_17 rfl ?_
    refine r_istore ok [(4, vI 0), (3, vI 0), (0, .ref (F.2.1.1 10)), (1, vI x1), (2, vI x2)] d_Md_findRoots_18 hm (by decide) rfl ?_
    exact r_sub [2, 3, 4, 1, 0] rfl h
set_option maxHeartbeats 4000000 in
set_option maxRecDepth 100000 in
theorem K_Md_findRoots_20 {F : FT} (hD : ∀ σ, va_D F.2.2.1 (GW F.2.1 σ)) (hm : F.2.2.2.2.2.2.2.2.2.2.2.2.2.2.1 = 5) (ok : OkF F prog_12_method_33_code "LastSeenModel" ({ frames := 0, cells := 0, slots := 0, locals := 0 } : Room)) {Q : SS → Prop} (hQ : RetV F Q) {x1 x2 x3 x4 : Int} {s : SS} (h : B_Md_findRoots_20 Q (fun x1 x2 s => AtS F 7 [(0, .ref (F.2.1.1 10)), (1, vI x1), (2, vI x2)] [] s) (fun x1 x2 x3 x4 s => AtS F 20 [(0, .ref (F.2.1.1 10)), (1, vI x1), (2, vI x2), (3, vI x3), (4, vI x4)] [] s) x1 x2 x3 x4 s) : AtS F 20 [(0, .ref (F.2.1.1 10)), (1, vI x1), (2, vI x2), (3, vI x3), (4, vI x4)] [] s := by
  unfold B_Md_findRoots_20 at h
  refine r_iload ok 4 d_Md_findRoots_20 rfl ?_
  refine r_aload_n ok 0 d_Md_findRoots_22 rfl rfl ?_
  refine g_Md_seenWords ok d_Md_findRoots_23 ?_
  refine r_icmp_ge ok 82 d_Md_findRoots_26 (by decide) h.1 h.2.1 (fun c => ?_) (fun c => ?_)
  · replace h := h.2.2.1 c
    refine r_iload_n ok 3 d_Md_findRoots_82 rfl rfl ?_
    refine r_if_ne ok 89 d_Md_findRoots_83 (by decide) h.1 (fun c => ?_) (fun c => ?_)
    · replace h := h.2.1 c
      refine r_aload_n ok 0 d_Md_findRoots_89 rfl rfl ?_
      refine g_Md_root ok d_Md_findRoots_90 ?_
      refine r_aload_n ok 0 d_Md_findRoots_93 rfl rfl ?_
      refine g_Md_roots ok d_Md_findRoots_94 ?_
      refine r_iload_n ok 2 d_Md_findRoots_97 rfl rfl ?_
      refine r_iast ok 82 d_Md_findRoots_98 (by decide) rfl h.1 ?_
      replace h := h.2 _ rfl
      generalize sA s 82 (s.1 37) x2 = s2 at h ⊢
      refine r_aload_n ok 0 d_Md_findRoots_99 rfl rfl ?_
      refine r_dup ok d_Md_findRoots_100 rfl ?_
      refine g_Md_roots ok d_Md_findRoots_101 ?_
      refine r_iconst ok 1 d_Md_findRoots_104 rfl ?_
      refine r_iadd ok d_Md_findRoots_105 ?_
      refine p_Md_roots ok d_Md_findRoots_106 ?_
      replace h := h _ rfl
      generalize sF s2 37 ((s2.1 37) + 1) = s3 at h ⊢
      refine r_iinc ok 2 (x2 + 1) [(2, vI (x2 + 1)), (0, .ref (F.2.1.1 10)), (1, vI x1), (3, vI x3), (4, vI x4)] d_Md_findRoots_109 rfl rfl hm (by decide) rfl ?_
      refine r_goto ok 7 d_Md_findRoots_112 (by decide) ?_
      exact r_sub [1, 2, 0] rfl h
    · replace h := h.2.2 c
      refine r_goto ok 109 d_Md_findRoots_86 (by decide) ?_
      refine r_iinc ok 2 (x2 + 1) [(2, vI (x2 + 1)), (0, .ref (F.2.1.1 10)), (1, vI x1), (3, vI x3), (4, vI x4)] d_Md_findRoots_109 rfl rfl hm (by decide) rfl ?_
      refine r_goto ok 7 d_Md_findRoots_112 (by decide) ?_
      exact r_sub [1, 2, 0] rfl h
  · replace h := h.2.2.2 c
    refine r_iload_n ok 3 d_Md_findRoots_29 rfl rfl ?_
    refine r_if_ne ok 70 d_Md_findRoots_30 (by decide) h.1 (fun c => ?_) (fun c => ?_)
    · replace h := h.2.1 c
      refine r_iconst ok 1 d_Md_findRoots_70 rfl ?_
      refine r_goto ok 75 d_Md_findRoots_71 (by decide) ?_
      refine r_istore_n ok [(3, vI 1), (0, .ref (F.2.1.1 10)), (1, vI x1), (2, vI x2), (4, vI x4)] d_Md_findRoots_75 rfl hm (by decide) rfl ?_
      refine r_iinc ok 4 (x4 + 1) [(4, vI (x4 + 1)), (3, vI 1), (0, .ref (F.2.1.1 10)), (1, vI x1), (2, vI x2)] d_Md_findRoots_76 rfl rfl hm (by decide) rfl ?_
      refine r_goto ok 20 d_Md_findRoots_79 (by decide) ?_
      exact r_sub [2, 3, 4, 1, 0] rfl h
    · replace h := h.2.2 c
      refine r_aload_n ok 0 d_Md_findRoots_33 rfl rfl ?_
      refine g_Md_stands ok d_Md_findRoots_34 ?_
      refine r_iload ok 4 d_Md_findRoots_37 rfl ?_
      refine r_zald ok 70 d_Md_findRoots_39 (by decide) rfl h.1 ?_
      replace h := h.2
      refine r_if_eq ok 74 d_Md_findRoots_40 (by decide) h.1 (fun c => ?_) (fun c => ?_)
      · replace h := h.2.1 c
        refine r_iconst ok 0 d_Md_findRoots_74 rfl ?_
        refine r_istore_n ok [(3, vI 0), (0, .ref (F.2.1.1 10)), (1, vI x1), (2, vI x2), (4, vI x4)] d_Md_findRoots_75 rfl hm (by decide) rfl ?_
        refine r_iinc ok 4 (x4 + 1) [(4, vI (x4 + 1)), (3, vI 0), (0, .ref (F.2.1.1 10)), (1, vI x1), (2, vI x2)] d_Md_findRoots_76 rfl rfl hm (by decide) rfl ?_
        refine r_goto ok 20 d_Md_findRoots_79 (by decide) ?_
        exact r_sub [2, 3, 4, 1, 0] rfl h
      · replace h := h.2.2 c
        refine r_aload_n ok 0 d_Md_findRoots_43 rfl rfl ?_
        refine g_Md_rootOf ok d_Md_findRoots_44 ?_
        refine r_iload ok 4 d_Md_findRoots_47 rfl ?_
        refine r_iald ok 81 d_Md_findRoots_49 (by decide) rfl h.1 ?_
        replace h := h.2
        refine r_iload_n ok 2 d_Md_findRoots_50 rfl rfl ?_
        refine r_icmp_ne ok 74 d_Md_findRoots_51 (by decide) h.1 h.2.1 (fun c => ?_) (fun c => ?_)
        · replace h := h.2.2.1 c
          refine r_iconst ok 0 d_Md_findRoots_74 rfl ?_
          refine r_istore_n ok [(3, vI 0), (0, .ref (F.2.1.1 10)), (1, vI x1), (2, vI x2), (4, vI x4)] d_Md_findRoots_75 rfl hm (by decide) rfl ?_
          refine r_iinc ok 4 (x4 + 1) [(4, vI (x4 + 1)), (3, vI 0), (0, .ref (F.2.1.1 10)), (1, vI x1), (2, vI x2)] d_Md_findRoots_76 rfl rfl hm (by decide) rfl ?_
          refine r_goto ok 20 d_Md_findRoots_79 (by decide) ?_
          exact r_sub [2, 3, 4, 1, 0] rfl h
        · replace h := h.2.2.2 c
          refine r_aload_n ok 0 d_Md_findRoots_54 rfl rfl ?_
          refine g_Md_person ok d_Md_findRoots_55 ?_
          refine r_aload_n ok 0 d_Md_findRoots_58 rfl rfl ?_
          refine g_Md_ofName ok d_Md_findRoots_59 ?_
          refine r_iload ok 4 d_Md_findRoots_62 rfl ?_
          refine r_iald ok 76 d_Md_findRoots_64 (by decide) rfl h.1 ?_
          replace h := h.2
          refine r_iald ok 72 d_Md_findRoots_65 (by decide) rfl h.1 ?_
          replace h := h.2
          refine r_iload_n ok 1 d_Md_findRoots_66 rfl rfl ?_
          refine r_icmp_ne ok 74 d_Md_findRoots_67 (by decide) h.1 h.2.1 (fun c => ?_) (fun c => ?_)
          · replace h := h.2.2.1 c
            refine r_iconst ok 0 d_Md_findRoots_74 rfl ?_
            refine r_istore_n ok [(3, vI 0), (0, .ref (F.2.1.1 10)), (1, vI x1), (2, vI x2), (4, vI x4)] d_Md_findRoots_75 rfl hm (by decide) rfl ?_
            refine r_iinc ok 4 (x4 + 1) [(4, vI (x4 + 1)), (3, vI 0), (0, .ref (F.2.1.1 10)), (1, vI x1), (2, vI x2)] d_Md_findRoots_76 rfl rfl hm (by decide) rfl ?_
            refine r_goto ok 20 d_Md_findRoots_79 (by decide) ?_
            exact r_sub [2, 3, 4, 1, 0] rfl h
          · replace h := h.2.2.2 c
            refine r_iconst ok 1 d_Md_findRoots_70 rfl ?_
            refine r_goto ok 75 d_Md_findRoots_71 (by decide) ?_
            refine r_istore_n ok [(3, vI 1), (0, .ref (F.2.1.1 10)), (1, vI x1), (2, vI x2), (4, vI x4)] d_Md_findRoots_75 rfl hm (by decide) rfl ?_
            refine r_iinc ok 4 (x4 + 1) [(4, vI (x4 + 1)), (3, vI 1), (0, .ref (F.2.1.1 10)), (1, vI x1), (2, vI x2)] d_Md_findRoots_76 rfl rfl hm (by decide) rfl ?_
            refine r_goto ok 20 d_Md_findRoots_79 (by decide) ?_
            exact r_sub [2, 3, 4, 1, 0] rfl h
set_option maxHeartbeats 4000000 in
set_option maxRecDepth 100000 in
theorem K_Md_findRoots_e {F : FT} (hD : ∀ σ, va_D F.2.2.1 (GW F.2.1 σ)) (hm : F.2.2.2.2.2.2.2.2.2.2.2.2.2.2.1 = 5) (ok : OkF F prog_12_method_33_code "LastSeenModel" ({ frames := 0, cells := 0, slots := 0, locals := 0 } : Room)) {Q : SS → Prop} (hQ : RetV F Q) {x1 : Int} {s : SS} (h : B_Md_findRoots_e Q (fun x1 x2 s => AtS F 7 [(0, .ref (F.2.1.1 10)), (1, vI x1), (2, vI x2)] [] s) (fun x1 x2 x3 x4 s => AtS F 20 [(0, .ref (F.2.1.1 10)), (1, vI x1), (2, vI x2), (3, vI x3), (4, vI x4)] [] s) x1 s) : AtS F 0 [(0, .ref (F.2.1.1 10)), (1, vI x1)] [] s := by
  unfold B_Md_findRoots_e at h
  refine r_aload_n ok 0 d_Md_findRoots_0 rfl rfl ?_
  refine r_iconst ok 0 d_Md_findRoots_1 rfl ?_
  refine p_Md_roots ok d_Md_findRoots_2 ?_
  replace h := h _ rfl
  generalize sF s 37 0 = s1 at h ⊢
  refine r_iconst ok 0 d_Md_findRoots_5 rfl ?_
  refine r_istore_n ok [(2, vI 0), (0, .ref (F.2.1.1 10)), (1, vI x1)] d_Md_findRoots_6 rfl hm (by decide) rfl ?_
  exact r_sub [1, 2, 0] rfl h
theorem L_Md_findRoots (l : Launch) (G : GE) (A : Nat → Prop) (hD : ∀ σ, va_D A (GW G σ)) {x1 : Int} {s : SS} {Q : SS → Prop} (h : Sp_Md_findRoots x1 s Q) : Met l y_Md_findRoots (Cond.code y_Md_findRoots prog_12_method_33_code 5 (none) :: lw_ok) ({ frames := 0, cells := 0, slots := 0, locals := 0 } : Room) (va_Pc [.ref (G.1 10), vI x1] (gB G s)) (va_Qv (fun (s2 : SS) => Q s2) (fun s2 t => gB G s2 t) A) 0 0 A := by
  refine met_v hD (by decide) ⟨rfl, rfl⟩ (Nat.le_of_ble_eq_true rfl) (lv := [(0, .ref (G.1 10)), (1, vI x1)]) rfl (fun F h1 h2 h3 hm ok hQ => ?_)
  subst h1 h2 h3
  have hDF := hD
  exact K_Md_findRoots_e hDF hm ok hQ (h _ _ (fun _ _ _ hb => K_Md_findRoots_7 hDF hm ok hQ hb) (fun _ _ _ _ _ hb => K_Md_findRoots_20 hDF hm ok hQ hb))
theorem d_Md_root_0 : decode prog_12_method_34_code 0 = .ok (.aload_n 0, 1) := by decide +kernel
theorem d_Md_root_1 : decode prog_12_method_34_code 1 = .ok (.iload_n 1, 1) := by decide +kernel
theorem d_Md_root_2 : decode prog_12_method_34_code 2 = .ok (.iload_n 2, 1) := by decide +kernel
theorem d_Md_root_3 : decode prog_12_method_34_code 3 = .ok (.invokevirtual 269, 3) := by decide +kernel
theorem d_Md_root_6 : decode prog_12_method_34_code 6 = .ok (.ifCond .ne 5, 3) := by decide +kernel
theorem d_Md_root_9 : decode prog_12_method_34_code 9 = .ok (.iconst (-1), 1) := by decide +kernel
theorem d_Md_root_10 : decode prog_12_method_34_code 10 = .ok (.ireturn, 1) := by decide +kernel
theorem d_Md_root_11 : decode prog_12_method_34_code 11 = .ok (.aload_n 0, 1) := by decide +kernel
theorem d_Md_root_12 : decode prog_12_method_34_code 12 = .ok (.aload_n 0, 1) := by decide +kernel
theorem d_Md_root_13 : decode prog_12_method_34_code 13 = .ok (.getfield 50, 3) := by decide +kernel
theorem d_Md_root_16 : decode prog_12_method_34_code 16 = .ok (.iload_n 1, 1) := by decide +kernel
theorem d_Md_root_17 : decode prog_12_method_34_code 17 = .ok (.iaload, 1) := by decide +kernel
theorem d_Md_root_18 : decode prog_12_method_34_code 18 = .ok (.invokevirtual 290, 3) := by decide +kernel
theorem d_Md_root_21 : decode prog_12_method_34_code 21 = .ok (.iload_n 3, 1) := by decide +kernel
theorem d_Md_root_22 : decode prog_12_method_34_code 22 = .ok (.iconst (-1), 1) := by decide +kernel
theorem d_Md_root_23 : decode prog_12_method_34_code 23 = .ok (.if_icmp .ne 10, 3) := by decide +kernel
theorem d_Md_root_26 : decode prog_12_method_34_code 26 = .ok (.aload_n 0, 1) := by decide +kernel
theorem d_Md_root_27 : decode prog_12_method_34_code 27 = .ok (.getfield 287, 3) := by decide +kernel
theorem d_Md_root_30 : decode prog_12_method_34_code 30 = .ok (.goto 29, 3) := by decide +kernel
theorem d_Md_root_33 : decode prog_12_method_34_code 33 = .ok (.iload_n 3, 1) := by decide +kernel
theorem d_Md_root_34 : decode prog_12_method_34_code 34 = .ok (.i2l, 1) := by decide +kernel
theorem d_Md_root_35 : decode prog_12_method_34_code 35 = .ok (.lconst 0, 1) := by decide +kernel
theorem d_Md_root_36 : decode prog_12_method_34_code 36 = .ok (.aload_n 0, 1) := by decide +kernel
theorem d_Md_root_37 : decode prog_12_method_34_code 37 = .ok (.getfield 287, 3) := by decide +kernel
theorem d_Md_root_40 : decode prog_12_method_34_code 40 = .ok (.iconst 1, 1) := by decide +kernel
theorem d_Md_root_41 : decode prog_12_method_34_code 41 = .ok (.isub, 1) := by decide +kernel
theorem d_Md_root_42 : decode prog_12_method_34_code 42 = .ok (.i2l, 1) := by decide +kernel
theorem d_Md_root_43 : decode prog_12_method_34_code 43 = .ok (.invokestatic 191, 3) := by decide +kernel
theorem d_Md_root_46 : decode prog_12_method_34_code 46 = .ok (.ifCond .eq 12, 3) := by decide +kernel
theorem d_Md_root_49 : decode prog_12_method_34_code 49 = .ok (.aload_n 0, 1) := by decide +kernel
theorem d_Md_root_50 : decode prog_12_method_34_code 50 = .ok (.getfield 80, 3) := by decide +kernel
theorem d_Md_root_53 : decode prog_12_method_34_code 53 = .ok (.iload_n 3, 1) := by decide +kernel
theorem d_Md_root_54 : decode prog_12_method_34_code 54 = .ok (.iaload, 1) := by decide +kernel
theorem d_Md_root_55 : decode prog_12_method_34_code 55 = .ok (.goto 4, 3) := by decide +kernel
theorem d_Md_root_58 : decode prog_12_method_34_code 58 = .ok (.iconst (-1), 1) := by decide +kernel
theorem d_Md_root_59 : decode prog_12_method_34_code 59 = .ok (.ireturn, 1) := by decide +kernel
set_option maxHeartbeats 4000000 in
set_option maxRecDepth 100000 in
theorem K_Md_root_e {F : FT} (hD : ∀ σ, va_D F.2.2.1 (GW F.2.1 σ)) (hm : F.2.2.2.2.2.2.2.2.2.2.2.2.2.2.1 = 4) (ok : OkF F prog_12_method_34_code "LastSeenModel" ({ frames := 3, cells := 0, slots := 0, locals := 71 } : Room)) {Q : Int → SS → Prop} (hQ : RetI F Q) {x1 x2 x3 : Int} {s : SS} (h : Sp_Md_root x1 x2 x3 s Q) : AtS F 0 [(0, .ref (F.2.1.1 10)), (1, vI x1), (2, vI x2), (3, vI x3)] [] s := by
  unfold Sp_Md_root at h
  refine r_aload_n ok 0 d_Md_root_0 rfl rfl ?_
  refine r_iload_n ok 1 d_Md_root_1 rfl rfl ?_
  refine r_iload_n ok 2 d_Md_root_2 rfl rfl ?_
  refine r_callVi (As := [vI x1, vI x2]) (rest := []) ok 10 rfl rfl rfl wl_Md_269 wi_y_Md_isThere ws_y_Md_isThere wn_Md wc_y_Md_isThere (by decide) (by decide) hh_Md_isThere (Nat.le_of_ble_eq_true rfl) rfl d_Md_root_3 (L_Md_isThere F.1 F.2.1 F.2.2.1 hD h) (fun r2 s1 h => ?_)
  refine r_if_ne ok 11 d_Md_root_6 (by decide) h.1 (fun c => ?_) (fun c => ?_)
  · replace h := h.2.1 c
    refine r_aload_n ok 0 d_Md_root_11 rfl rfl ?_
    refine r_aload_n ok 0 d_Md_root_12 rfl rfl ?_
    refine g_Md_person ok d_Md_root_13 ?_
    refine r_iload_n ok 1 d_Md_root_16 rfl rfl ?_
    refine r_iald ok 72 d_Md_root_17 (by decide) rfl h.1 ?_
    replace h := h.2
    refine r_callVv (As := [vI (s1.2 72 x1)]) (rest := []) ok 10 rfl rfl rfl wl_Md_290 wi_y_Md_findRoots ws_y_Md_findRoots wn_Md wc_y_Md_findRoots (by decide) (by decide) hh_Md_findRoots (Nat.le_of_ble_eq_true rfl) rfl d_Md_root_18 (L_Md_findRoots F.1 F.2.1 F.2.2.1 hD h) (fun s3 h => ?_)
    refine r_iload_n ok 3 d_Md_root_21 rfl rfl ?_
    refine r_iconst ok (-1) d_Md_root_22 rfl ?_
    refine r_icmp_ne ok 33 d_Md_root_23 (by decide) h.1 (by decide) (fun c => ?_) (fun c => ?_)
    · replace h := h.2.1 c
      refine r_iload_n ok 3 d_Md_root_33 rfl rfl ?_
      refine r_i2l ok d_Md_root_34 h.1 ?_
      replace h := h.2
      refine r_lconst ok 0 d_Md_root_35 (by decide) ?_
      refine r_aload_n ok 0 d_Md_root_36 rfl rfl ?_
      refine g_Md_roots ok d_Md_root_37 ?_
      refine r_iconst ok 1 d_Md_root_40 rfl ?_
      refine r_isub ok d_Md_root_41 ?_
      refine r_i2l ok d_Md_root_42 h.1 ?_
      replace h := h.2
      refine r_callSi (As := [vJ x3, vJ 0, vJ ((s3.1 37) - 1)]) (rest := []) ok wl_Md_191 wt_y_Md_isIn wn_Md wc_y_Md_isIn (by decide) (by decide) hh_Md_isIn (Nat.le_of_ble_eq_true rfl) rfl d_Md_root_43 (L_Md_isIn F.1 F.2.1 F.2.2.1 hD h) (fun r5 s4 h => ?_)
      refine r_if_eq ok 58 d_Md_root_46 (by decide) h.1 (fun c => ?_) (fun c => ?_)
      · replace h := h.2.1 c
        refine r_iconst ok (-1) d_Md_root_58 rfl ?_
        exact hQ _ _ _ _ _ (ok_code ok) d_Md_root_59 h
      · replace h := h.2.2 c
        refine r_aload_n ok 0 d_Md_root_49 rfl rfl ?_
        refine g_Md_root ok d_Md_root_50 ?_
        refine r_iload_n ok 3 d_Md_root_53 rfl rfl ?_
        refine r_iald ok 82 d_Md_root_54 (by decide) rfl h.1 ?_
        replace h := h.2
        refine r_goto ok 59 d_Md_root_55 (by decide) ?_
        exact hQ _ _ _ _ _ (ok_code ok) d_Md_root_59 h
    · replace h := h.2.2 c
      refine r_aload_n ok 0 d_Md_root_26 rfl rfl ?_
      refine g_Md_roots ok d_Md_root_27 ?_
      refine r_goto ok 59 d_Md_root_30 (by decide) ?_
      exact hQ _ _ _ _ _ (ok_code ok) d_Md_root_59 h
  · replace h := h.2.2 c
    refine r_iconst ok (-1) d_Md_root_9 rfl ?_
    exact hQ _ _ _ _ _ (ok_code ok) d_Md_root_10 h
theorem L_Md_root (l : Launch) (G : GE) (A : Nat → Prop) (hD : ∀ σ, va_D A (GW G σ)) {x1 x2 x3 : Int} {s : SS} {Q : Int → SS → Prop} (h : Sp_Md_root x1 x2 x3 s Q) : Met l y_Md_root (Cond.code y_Md_root prog_12_method_34_code 4 (some .int) :: lw_ok) ({ frames := 3, cells := 0, slots := 0, locals := 71 } : Room) (va_Pc [.ref (G.1 10), vI x1, vI x2, vI x3] (gB G s)) (va_Qi (fun (r : Int32) (s2 : SS) => ∃ x : Int, r = iI x ∧ Q x s2) (fun s2 t => gB G s2 t) A) 0 0 A := by
  refine met_i hD (by decide) ⟨rfl, rfl⟩ (Nat.le_of_ble_eq_true rfl) (lv := [(0, .ref (G.1 10)), (1, vI x1), (2, vI x2), (3, vI x3)]) rfl (fun F h1 h2 h3 hm ok hQ => ?_)
  subst h1 h2 h3
  have hDF := hD
  exact K_Md_root_e hDF hm ok hQ h
theorem d_Md_eyesOf_0 : decode prog_12_method_35_code 0 = .ok (.iconst 0, 1) := by decide +kernel
theorem d_Md_eyesOf_1 : decode prog_12_method_35_code 1 = .ok (.istore_n 1, 1) := by decide +kernel
theorem d_Md_eyesOf_2 : decode prog_12_method_35_code 2 = .ok (.iconst 0, 1) := by decide +kernel
theorem d_Md_eyesOf_3 : decode prog_12_method_35_code 3 = .ok (.istore_n 2, 1) := by decide +kernel
theorem d_Md_eyesOf_4 : decode prog_12_method_35_code 4 = .ok (.iload_n 2, 1) := by decide +kernel
theorem d_Md_eyesOf_5 : decode prog_12_method_35_code 5 = .ok (.aload_n 0, 1) := by decide +kernel
theorem d_Md_eyesOf_6 : decode prog_12_method_35_code 6 = .ok (.getfield 287, 3) := by decide +kernel
theorem d_Md_eyesOf_9 : decode prog_12_method_35_code 9 = .ok (.if_icmp .ge 25, 3) := by decide +kernel
theorem d_Md_eyesOf_12 : decode prog_12_method_35_code 12 = .ok (.iload_n 1, 1) := by decide +kernel
theorem d_Md_eyesOf_13 : decode prog_12_method_35_code 13 = .ok (.iconst 1, 1) := by decide +kernel
theorem d_Md_eyesOf_14 : decode prog_12_method_35_code 14 = .ok (.aload_n 0, 1) := by decide +kernel
theorem d_Md_eyesOf_15 : decode prog_12_method_35_code 15 = .ok (.getfield 59, 3) := by decide +kernel
theorem d_Md_eyesOf_18 : decode prog_12_method_35_code 18 = .ok (.aload_n 0, 1) := by decide +kernel
theorem d_Md_eyesOf_19 : decode prog_12_method_35_code 19 = .ok (.getfield 80, 3) := by decide +kernel
theorem d_Md_eyesOf_22 : decode prog_12_method_35_code 22 = .ok (.iload_n 2, 1) := by decide +kernel
theorem d_Md_eyesOf_23 : decode prog_12_method_35_code 23 = .ok (.iaload, 1) := by decide +kernel
theorem d_Md_eyesOf_24 : decode prog_12_method_35_code 24 = .ok (.iaload, 1) := by decide +kernel
theorem d_Md_eyesOf_25 : decode prog_12_method_35_code 25 = .ok (.ishl, 1) := by decide +kernel
theorem d_Md_eyesOf_26 : decode prog_12_method_35_code 26 = .ok (.ior, 1) := by decide +kernel
theorem d_Md_eyesOf_27 : decode prog_12_method_35_code 27 = .ok (.istore_n 1, 1) := by decide +kernel
theorem d_Md_eyesOf_28 : decode prog_12_method_35_code 28 = .ok (.iinc 2 1, 3) := by decide +kernel
theorem d_Md_eyesOf_31 : decode prog_12_method_35_code 31 = .ok (.goto (-27), 3) := by decide +kernel
theorem d_Md_eyesOf_34 : decode prog_12_method_35_code 34 = .ok (.iload_n 1, 1) := by decide +kernel
theorem d_Md_eyesOf_35 : decode prog_12_method_35_code 35 = .ok (.invokestatic 293, 3) := by decide +kernel
theorem d_Md_eyesOf_38 : decode prog_12_method_35_code 38 = .ok (.ireturn, 1) := by decide +kernel
set_option maxHeartbeats 4000000 in
set_option maxRecDepth 100000 in
theorem K_Md_eyesOf_4 {F : FT} (hD : ∀ σ, va_D F.2.2.1 (GW F.2.1 σ)) (hm : F.2.2.2.2.2.2.2.2.2.2.2.2.2.2.1 = 3) (ok : OkF F prog_12_method_35_code "LastSeenModel" ({ frames := 1, cells := 0, slots := 0, locals := 22 } : Room)) {Q : Int → SS → Prop} (hQ : RetI F Q) {x1 x2 : Int} {s : SS} (h : B_Md_eyesOf_4 Q (fun x1 x2 s => AtS F 4 [(0, .ref (F.2.1.1 10)), (1, vI x1), (2, vI x2)] [] s) x1 x2 s) : AtS F 4 [(0, .ref (F.2.1.1 10)), (1, vI x1), (2, vI x2)] [] s := by
  unfold B_Md_eyesOf_4 at h
  refine r_iload_n ok 2 d_Md_eyesOf_4 rfl rfl ?_
  refine r_aload_n ok 0 d_Md_eyesOf_5 rfl rfl ?_
  refine g_Md_roots ok d_Md_eyesOf_6 ?_
  refine r_icmp_ge ok 34 d_Md_eyesOf_9 (by decide) h.1 h.2.1 (fun c => ?_) (fun c => ?_)
  · replace h := h.2.2.1 c
    refine r_iload_n ok 1 d_Md_eyesOf_34 rfl rfl ?_
    refine r_callSi (As := [vI x1]) (rest := []) ok wl_Md_293 wt_y_Md_bits wn_Md wc_y_Md_bits (by decide) (by decide) hh_Md_bits (Nat.le_of_ble_eq_true rfl) rfl d_Md_eyesOf_35 (L_Md_bits F.1 F.2.1 F.2.2.1 hD h) (fun r2 s1 h => ?_)
    exact hQ _ _ _ _ _ (ok_code ok) d_Md_eyesOf_38 h
  · replace h := h.2.2.2 c
    refine r_iload_n ok 1 d_Md_eyesOf_12 rfl rfl ?_
    refine r_iconst ok 1 d_Md_eyesOf_13 rfl ?_
    refine r_aload_n ok 0 d_Md_eyesOf_14 rfl rfl ?_
    refine g_Md_witness ok d_Md_eyesOf_15 ?_
    refine r_aload_n ok 0 d_Md_eyesOf_18 rfl rfl ?_
    refine g_Md_root ok d_Md_eyesOf_19 ?_
    refine r_iload_n ok 2 d_Md_eyesOf_22 rfl rfl ?_
    refine r_iald ok 82 d_Md_eyesOf_23 (by decide) rfl h.1 ?_
    replace h := h.2
    refine r_iald ok 75 d_Md_eyesOf_24 (by decide) rfl h.1 ?_
    replace h := h.2
    refine r_ishl ok d_Md_eyesOf_25 ?_
    refine r_ior ok d_Md_eyesOf_26 ?_
    refine r_istore_n ok [(1, vI (bor x1 (shl 1 (s.2 75 (s.2 82 x2))))), (0, .ref (F.2.1.1 10)), (2, vI x2)] d_Md_eyesOf_27 rfl hm (by decide) rfl ?_
    refine r_iinc ok 2 (x2 + 1) [(2, vI (x2 + 1)), (1, vI (bor x1 (shl 1 (s.2 75 (s.2 82 x2))))), (0, .ref (F.2.1.1 10))] d_Md_eyesOf_28 rfl rfl hm (by decide) rfl ?_
    refine r_goto ok 4 d_Md_eyesOf_31 (by decide) ?_
    exact r_sub [2, 1, 0] rfl h
set_option maxHeartbeats 4000000 in
set_option maxRecDepth 100000 in
theorem K_Md_eyesOf_e {F : FT} (hD : ∀ σ, va_D F.2.2.1 (GW F.2.1 σ)) (hm : F.2.2.2.2.2.2.2.2.2.2.2.2.2.2.1 = 3) (ok : OkF F prog_12_method_35_code "LastSeenModel" ({ frames := 1, cells := 0, slots := 0, locals := 22 } : Room)) {Q : Int → SS → Prop} (hQ : RetI F Q) {s : SS} (h : B_Md_eyesOf_e Q (fun x1 x2 s => AtS F 4 [(0, .ref (F.2.1.1 10)), (1, vI x1), (2, vI x2)] [] s)  s) : AtS F 0 [(0, .ref (F.2.1.1 10))] [] s := by
  unfold B_Md_eyesOf_e at h
  refine r_iconst ok 0 d_Md_eyesOf_0 rfl ?_
  refine r_istore_n ok [(1, vI 0), (0, .ref (F.2.1.1 10))] d_Md_eyesOf_1 rfl hm (by decide) rfl ?_
  refine r_iconst ok 0 d_Md_eyesOf_2 rfl ?_
  refine r_istore_n ok [(2, vI 0), (1, vI 0), (0, .ref (F.2.1.1 10))] d_Md_eyesOf_3 rfl hm (by decide) rfl ?_
  exact r_sub [2, 1, 0] rfl h
theorem L_Md_eyesOf (l : Launch) (G : GE) (A : Nat → Prop) (hD : ∀ σ, va_D A (GW G σ)) {s : SS} {Q : Int → SS → Prop} (h : Sp_Md_eyesOf  s Q) : Met l y_Md_eyesOf (Cond.code y_Md_eyesOf prog_12_method_35_code 3 (some .int) :: lw_ok) ({ frames := 1, cells := 0, slots := 0, locals := 22 } : Room) (va_Pc [.ref (G.1 10)] (gB G s)) (va_Qi (fun (r : Int32) (s2 : SS) => ∃ x : Int, r = iI x ∧ Q x s2) (fun s2 t => gB G s2 t) A) 0 0 A := by
  refine met_i hD (by decide) ⟨rfl, rfl⟩ (Nat.le_of_ble_eq_true rfl) (lv := [(0, .ref (G.1 10))]) rfl (fun F h1 h2 h3 hm ok hQ => ?_)
  subst h1 h2 h3
  have hDF := hD
  exact K_Md_eyesOf_e hDF hm ok hQ (h _ (fun _ _ _ hb => K_Md_eyesOf_4 hDF hm ok hQ hb))
theorem d_Md_eyes_0 : decode prog_12_method_36_code 0 = .ok (.aload_n 0, 1) := by decide +kernel
theorem d_Md_eyes_1 : decode prog_12_method_36_code 1 = .ok (.iload_n 1, 1) := by decide +kernel
theorem d_Md_eyes_2 : decode prog_12_method_36_code 2 = .ok (.iload_n 2, 1) := by decide +kernel
theorem d_Md_eyes_3 : decode prog_12_method_36_code 3 = .ok (.invokevirtual 269, 3) := by decide +kernel
theorem d_Md_eyes_6 : decode prog_12_method_36_code 6 = .ok (.ifCond .ne 5, 3) := by decide +kernel
theorem d_Md_eyes_9 : decode prog_12_method_36_code 9 = .ok (.iconst (-1), 1) := by decide +kernel
theorem d_Md_eyes_10 : decode prog_12_method_36_code 10 = .ok (.ireturn, 1) := by decide +kernel
theorem d_Md_eyes_11 : decode prog_12_method_36_code 11 = .ok (.aload_n 0, 1) := by decide +kernel
theorem d_Md_eyes_12 : decode prog_12_method_36_code 12 = .ok (.aload_n 0, 1) := by decide +kernel
theorem d_Md_eyes_13 : decode prog_12_method_36_code 13 = .ok (.getfield 50, 3) := by decide +kernel
theorem d_Md_eyes_16 : decode prog_12_method_36_code 16 = .ok (.iload_n 1, 1) := by decide +kernel
theorem d_Md_eyes_17 : decode prog_12_method_36_code 17 = .ok (.iaload, 1) := by decide +kernel
theorem d_Md_eyes_18 : decode prog_12_method_36_code 18 = .ok (.invokevirtual 290, 3) := by decide +kernel
theorem d_Md_eyes_21 : decode prog_12_method_36_code 21 = .ok (.aload_n 0, 1) := by decide +kernel
theorem d_Md_eyes_22 : decode prog_12_method_36_code 22 = .ok (.invokevirtual 296, 3) := by decide +kernel
theorem d_Md_eyes_25 : decode prog_12_method_36_code 25 = .ok (.ireturn, 1) := by decide +kernel
set_option maxHeartbeats 4000000 in
set_option maxRecDepth 100000 in
theorem K_Md_eyes_e {F : FT} (hD : ∀ σ, va_D F.2.2.1 (GW F.2.1 σ)) (hm : F.2.2.2.2.2.2.2.2.2.2.2.2.2.2.1 = 3) (ok : OkF F prog_12_method_36_code "LastSeenModel" ({ frames := 3, cells := 0, slots := 0, locals := 71 } : Room)) {Q : Int → SS → Prop} (hQ : RetI F Q) {x1 x2 : Int} {s : SS} (h : Sp_Md_eyes x1 x2 s Q) : AtS F 0 [(0, .ref (F.2.1.1 10)), (1, vI x1), (2, vI x2)] [] s := by
  unfold Sp_Md_eyes at h
  refine r_aload_n ok 0 d_Md_eyes_0 rfl rfl ?_
  refine r_iload_n ok 1 d_Md_eyes_1 rfl rfl ?_
  refine r_iload_n ok 2 d_Md_eyes_2 rfl rfl ?_
  refine r_callVi (As := [vI x1, vI x2]) (rest := []) ok 10 rfl rfl rfl wl_Md_269 wi_y_Md_isThere ws_y_Md_isThere wn_Md wc_y_Md_isThere (by decide) (by decide) hh_Md_isThere (Nat.le_of_ble_eq_true rfl) rfl d_Md_eyes_3 (L_Md_isThere F.1 F.2.1 F.2.2.1 hD h) (fun r2 s1 h => ?_)
  refine r_if_ne ok 11 d_Md_eyes_6 (by decide) h.1 (fun c => ?_) (fun c => ?_)
  · replace h := h.2.1 c
    refine r_aload_n ok 0 d_Md_eyes_11 rfl rfl ?_
    refine r_aload_n ok 0 d_Md_eyes_12 rfl rfl ?_
    refine g_Md_person ok d_Md_eyes_13 ?_
    refine r_iload_n ok 1 d_Md_eyes_16 rfl rfl ?_
    refine r_iald ok 72 d_Md_eyes_17 (by decide) rfl h.1 ?_
    replace h := h.2
    refine r_callVv (As := [vI (s1.2 72 x1)]) (rest := []) ok 10 rfl rfl rfl wl_Md_290 wi_y_Md_findRoots ws_y_Md_findRoots wn_Md wc_y_Md_findRoots (by decide) (by decide) hh_Md_findRoots (Nat.le_of_ble_eq_true rfl) rfl d_Md_eyes_18 (L_Md_findRoots F.1 F.2.1 F.2.2.1 hD h) (fun s3 h => ?_)
    refine r_aload_n ok 0 d_Md_eyes_21 rfl rfl ?_
    refine r_callVi (As := []) (rest := []) ok 10 rfl rfl rfl wl_Md_296 wi_y_Md_eyesOf ws_y_Md_eyesOf wn_Md wc_y_Md_eyesOf (by decide) (by decide) hh_Md_eyesOf (Nat.le_of_ble_eq_true rfl) rfl d_Md_eyes_22 (L_Md_eyesOf F.1 F.2.1 F.2.2.1 hD h) (fun r5 s4 h => ?_)
    exact hQ _ _ _ _ _ (ok_code ok) d_Md_eyes_25 h
  · replace h := h.2.2 c
    refine r_iconst ok (-1) d_Md_eyes_9 rfl ?_
    exact hQ _ _ _ _ _ (ok_code ok) d_Md_eyes_10 h
theorem L_Md_eyes (l : Launch) (G : GE) (A : Nat → Prop) (hD : ∀ σ, va_D A (GW G σ)) {x1 x2 : Int} {s : SS} {Q : Int → SS → Prop} (h : Sp_Md_eyes x1 x2 s Q) : Met l y_Md_eyes (Cond.code y_Md_eyes prog_12_method_36_code 3 (some .int) :: lw_ok) ({ frames := 3, cells := 0, slots := 0, locals := 71 } : Room) (va_Pc [.ref (G.1 10), vI x1, vI x2] (gB G s)) (va_Qi (fun (r : Int32) (s2 : SS) => ∃ x : Int, r = iI x ∧ Q x s2) (fun s2 t => gB G s2 t) A) 0 0 A := by
  refine met_i hD (by decide) ⟨rfl, rfl⟩ (Nat.le_of_ble_eq_true rfl) (lv := [(0, .ref (G.1 10)), (1, vI x1), (2, vI x2)]) rfl (fun F h1 h2 h3 hm ok hQ => ?_)
  subst h1 h2 h3
  have hDF := hD
  exact K_Md_eyes_e hDF hm ok hQ h
end
