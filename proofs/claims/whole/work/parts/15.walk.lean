section
theorem d_Md_takesRoots_0 : decode prog_12_method_37_code 0 = .ok (.aload_n 0, 1) := by decide +kernel
theorem d_Md_takesRoots_1 : decode prog_12_method_37_code 1 = .ok (.aload_n 0, 1) := by decide +kernel
theorem d_Md_takesRoots_2 : decode prog_12_method_37_code 2 = .ok (.getfield 287, 3) := by decide +kernel
theorem d_Md_takesRoots_5 : decode prog_12_method_37_code 5 = .ok (.bipush 8, 2) := by decide +kernel
theorem d_Md_takesRoots_7 : decode prog_12_method_37_code 7 = .ok (.if_icmp .ge 10, 3) := by decide +kernel
theorem d_Md_takesRoots_10 : decode prog_12_method_37_code 10 = .ok (.aload_n 0, 1) := by decide +kernel
theorem d_Md_takesRoots_11 : decode prog_12_method_37_code 11 = .ok (.getfield 287, 3) := by decide +kernel
theorem d_Md_takesRoots_14 : decode prog_12_method_37_code 14 = .ok (.goto 5, 3) := by decide +kernel
theorem d_Md_takesRoots_17 : decode prog_12_method_37_code 17 = .ok (.bipush 8, 2) := by decide +kernel
theorem d_Md_takesRoots_19 : decode prog_12_method_37_code 19 = .ok (.putfield 299, 3) := by decide +kernel
theorem d_Md_takesRoots_22 : decode prog_12_method_37_code 22 = .ok (.iconst 0, 1) := by decide +kernel
theorem d_Md_takesRoots_23 : decode prog_12_method_37_code 23 = .ok (.istore_n 1, 1) := by decide +kernel
theorem d_Md_takesRoots_24 : decode prog_12_method_37_code 24 = .ok (.iload_n 1, 1) := by decide +kernel
theorem d_Md_takesRoots_25 : decode prog_12_method_37_code 25 = .ok (.aload_n 0, 1) := by decide +kernel
theorem d_Md_takesRoots_26 : decode prog_12_method_37_code 26 = .ok (.getfield 299, 3) := by decide +kernel
theorem d_Md_takesRoots_29 : decode prog_12_method_37_code 29 = .ok (.if_icmp .ge 60, 3) := by decide +kernel
theorem d_Md_takesRoots_32 : decode prog_12_method_37_code 32 = .ok (.aload_n 0, 1) := by decide +kernel
theorem d_Md_takesRoots_33 : decode prog_12_method_37_code 33 = .ok (.getfield 87, 3) := by decide +kernel
theorem d_Md_takesRoots_36 : decode prog_12_method_37_code 36 = .ok (.iload_n 1, 1) := by decide +kernel
theorem d_Md_takesRoots_37 : decode prog_12_method_37_code 37 = .ok (.aload_n 0, 1) := by decide +kernel
theorem d_Md_takesRoots_38 : decode prog_12_method_37_code 38 = .ok (.getfield 65, 3) := by decide +kernel
theorem d_Md_takesRoots_41 : decode prog_12_method_37_code 41 = .ok (.aload_n 0, 1) := by decide +kernel
theorem d_Md_takesRoots_42 : decode prog_12_method_37_code 42 = .ok (.getfield 80, 3) := by decide +kernel
theorem d_Md_takesRoots_45 : decode prog_12_method_37_code 45 = .ok (.iload_n 1, 1) := by decide +kernel
theorem d_Md_takesRoots_46 : decode prog_12_method_37_code 46 = .ok (.iaload, 1) := by decide +kernel
theorem d_Md_takesRoots_47 : decode prog_12_method_37_code 47 = .ok (.iaload, 1) := by decide +kernel
theorem d_Md_takesRoots_48 : decode prog_12_method_37_code 48 = .ok (.iastore, 1) := by decide +kernel
theorem d_Md_takesRoots_49 : decode prog_12_method_37_code 49 = .ok (.aload_n 0, 1) := by decide +kernel
theorem d_Md_takesRoots_50 : decode prog_12_method_37_code 50 = .ok (.getfield 90, 3) := by decide +kernel
theorem d_Md_takesRoots_53 : decode prog_12_method_37_code 53 = .ok (.iload_n 1, 1) := by decide +kernel
theorem d_Md_takesRoots_54 : decode prog_12_method_37_code 54 = .ok (.aload_n 0, 1) := by decide +kernel
theorem d_Md_takesRoots_55 : decode prog_12_method_37_code 55 = .ok (.getfield 68, 3) := by decide +kernel
theorem d_Md_takesRoots_58 : decode prog_12_method_37_code 58 = .ok (.aload_n 0, 1) := by decide +kernel
theorem d_Md_takesRoots_59 : decode prog_12_method_37_code 59 = .ok (.getfield 80, 3) := by decide +kernel
theorem d_Md_takesRoots_62 : decode prog_12_method_37_code 62 = .ok (.iload_n 1, 1) := by decide +kernel
theorem d_Md_takesRoots_63 : decode prog_12_method_37_code 63 = .ok (.iaload, 1) := by decide +kernel
theorem d_Md_takesRoots_64 : decode prog_12_method_37_code 64 = .ok (.iaload, 1) := by decide +kernel
theorem d_Md_takesRoots_65 : decode prog_12_method_37_code 65 = .ok (.iastore, 1) := by decide +kernel
theorem d_Md_takesRoots_66 : decode prog_12_method_37_code 66 = .ok (.aload_n 0, 1) := by decide +kernel
theorem d_Md_takesRoots_67 : decode prog_12_method_37_code 67 = .ok (.getfield 93, 3) := by decide +kernel
theorem d_Md_takesRoots_70 : decode prog_12_method_37_code 70 = .ok (.iload_n 1, 1) := by decide +kernel
theorem d_Md_takesRoots_71 : decode prog_12_method_37_code 71 = .ok (.aload_n 0, 1) := by decide +kernel
theorem d_Md_takesRoots_72 : decode prog_12_method_37_code 72 = .ok (.getfield 71, 3) := by decide +kernel
theorem d_Md_takesRoots_75 : decode prog_12_method_37_code 75 = .ok (.aload_n 0, 1) := by decide +kernel
theorem d_Md_takesRoots_76 : decode prog_12_method_37_code 76 = .ok (.getfield 80, 3) := by decide +kernel
theorem d_Md_takesRoots_79 : decode prog_12_method_37_code 79 = .ok (.iload_n 1, 1) := by decide +kernel
theorem d_Md_takesRoots_80 : decode prog_12_method_37_code 80 = .ok (.iaload, 1) := by decide +kernel
theorem d_Md_takesRoots_81 : decode prog_12_method_37_code 81 = .ok (.iaload, 1) := by decide +kernel
theorem d_Md_takesRoots_82 : decode prog_12_method_37_code 82 = .ok (.iastore, 1) := by decide +kernel
theorem d_Md_takesRoots_83 : decode prog_12_method_37_code 83 = .ok (.iinc 1 1, 3) := by decide +kernel
theorem d_Md_takesRoots_86 : decode prog_12_method_37_code 86 = .ok (.goto (-62), 3) := by decide +kernel
theorem d_Md_takesRoots_89 : decode prog_12_method_37_code 89 = .ok (.return_, 1) := by decide +kernel
set_option maxHeartbeats 4000000 in
set_option maxRecDepth 100000 in
theorem K_Md_takesRoots_24 {F : FT} (hD : ∀ σ, va_D F.2.2.1 (GW F.2.1 σ)) (hm : F.2.2.2.2.2.2.2.2.2.2.2.2.2.2.1 = 2) (ok : OkF F prog_12_method_37_code "LastSeenModel" ({ frames := 0, cells := 0, slots := 0, locals := 0 } : Room)) {Q : SS → Prop} (hQ : RetV F Q) {x1 : Int} {s : SS} (h : B_Md_takesRoots_24 Q (fun x1 s => AtS F 24 [(0, .ref (F.2.1.1 10)), (1, vI x1)] [] s) x1 s) : AtS F 24 [(0, .ref (F.2.1.1 10)), (1, vI x1)] [] s := by
  unfold B_Md_takesRoots_24 at h
  refine r_iload_n ok 1 d_Md_takesRoots_24 rfl rfl ?_
  refine r_aload_n ok 0 d_Md_takesRoots_25 rfl rfl ?_
  refine g_Md_items ok d_Md_takesRoots_26 ?_
  refine r_icmp_ge ok 89 d_Md_takesRoots_29 (by decide) h.1 h.2.1 (fun c => ?_) (fun c => ?_)
  · replace h := h.2.2.1 c
    exact hQ _ _ _ _ (ok_code ok) d_Md_takesRoots_89 h
  · replace h := h.2.2.2 c
    refine r_aload_n ok 0 d_Md_takesRoots_32 rfl rfl ?_
    refine g_Md_itemPlaces ok d_Md_takesRoots_33 ?_
    refine r_iload_n ok 1 d_Md_takesRoots_36 rfl rfl ?_
    refine r_aload_n ok 0 d_Md_takesRoots_37 rfl rfl ?_
    refine g_Md_places ok d_Md_takesRoots_38 ?_
    refine r_aload_n ok 0 d_Md_takesRoots_41 rfl rfl ?_
    refine g_Md_root ok d_Md_takesRoots_42 ?_
    refine r_iload_n ok 1 d_Md_takesRoots_45 rfl rfl ?_
    refine r_iald ok 82 d_Md_takesRoots_46 (by decide) rfl h.1 ?_
    replace h := h.2
    refine r_iald ok 77 d_Md_takesRoots_47 (by decide) rfl h.1 ?_
    replace h := h.2
    refine r_iast ok 84 d_Md_takesRoots_48 (by decide) rfl h.1 ?_
    replace h := h.2 _ rfl
    generalize sA s 84 x1 (s.2 77 (s.2 82 x1)) = s3 at h ⊢
    refine r_aload_n ok 0 d_Md_takesRoots_49 rfl rfl ?_
    refine g_Md_itemFirst ok d_Md_takesRoots_50 ?_
    refine r_iload_n ok 1 d_Md_takesRoots_53 rfl rfl ?_
    refine r_aload_n ok 0 d_Md_takesRoots_54 rfl rfl ?_
    refine g_Md_first ok d_Md_takesRoots_55 ?_
    refine r_aload_n ok 0 d_Md_takesRoots_58 rfl rfl ?_
    refine g_Md_root ok d_Md_takesRoots_59 ?_
    refine r_iload_n ok 1 d_Md_takesRoots_62 rfl rfl ?_
    refine r_iald ok 82 d_Md_takesRoots_63 (by decide) rfl h.1 ?_
    replace h := h.2
    refine r_iald ok 78 d_Md_takesRoots_64 (by decide) rfl h.1 ?_
    replace h := h.2
    refine r_iast ok 85 d_Md_takesRoots_65 (by decide) rfl h.1 ?_
    replace h := h.2 _ rfl
    generalize sA s3 85 x1 (s3.2 78 (s3.2 82 x1)) = s4 at h ⊢
    refine r_aload_n ok 0 d_Md_takesRoots_66 rfl rfl ?_
    refine g_Md_itemLast ok d_Md_takesRoots_67 ?_
    refine r_iload_n ok 1 d_Md_takesRoots_70 rfl rfl ?_
    refine r_aload_n ok 0 d_Md_takesRoots_71 rfl rfl ?_
    refine g_Md_last ok d_Md_takesRoots_72 ?_
    refine r_aload_n ok 0 d_Md_takesRoots_75 rfl rfl ?_
    refine g_Md_root ok d_Md_takesRoots_76 ?_
    refine r_iload_n ok 1 d_Md_takesRoots_79 rfl rfl ?_
    refine r_iald ok 82 d_Md_takesRoots_80 (by decide) rfl h.1 ?_
    replace h := h.2
    refine r_iald ok 79 d_Md_takesRoots_81 (by decide) rfl h.1 ?_
    replace h := h.2
    refine r_iast ok 86 d_Md_takesRoots_82 (by decide) rfl h.1 ?_
    replace h := h.2 _ rfl
    generalize sA s4 86 x1 (s4.2 79 (s4.2 82 x1)) = s5 at h ⊢
    refine r_iinc ok 1 (x1 + 1) [(1, vI (x1 + 1)), (0, .ref (F.2.1.1 10))] d_Md_takesRoots_83 rfl rfl hm (by decide) rfl ?_
    refine r_goto ok 24 d_Md_takesRoots_86 (by decide) ?_
    exact r_sub [1, 0] rfl h
set_option maxHeartbeats 4000000 in
set_option maxRecDepth 100000 in
theorem K_Md_takesRoots_e {F : FT} (hD : ∀ σ, va_D F.2.2.1 (GW F.2.1 σ)) (hm : F.2.2.2.2.2.2.2.2.2.2.2.2.2.2.1 = 2) (ok : OkF F prog_12_method_37_code "LastSeenModel" ({ frames := 0, cells := 0, slots := 0, locals := 0 } : Room)) {Q : SS → Prop} (hQ : RetV F Q) {s : SS} (h : B_Md_takesRoots_e Q (fun x1 s => AtS F 24 [(0, .ref (F.2.1.1 10)), (1, vI x1)] [] s)  s) : AtS F 0 [(0, .ref (F.2.1.1 10))] [] s := by
  unfold B_Md_takesRoots_e at h
  refine r_aload_n ok 0 d_Md_takesRoots_0 rfl rfl ?_
  refine r_aload_n ok 0 d_Md_takesRoots_1 rfl rfl ?_
  refine g_Md_roots ok d_Md_takesRoots_2 ?_
  refine r_bipush ok 8 d_Md_takesRoots_5 (by decide) ?_
  refine r_icmp_ge ok 17 d_Md_takesRoots_7 (by decide) h.1 (by decide) (fun c => ?_) (fun c => ?_)
  · replace h := h.2.1 c
    refine r_bipush ok 8 d_Md_takesRoots_17 (by decide) ?_
    refine p_Md_items ok d_Md_takesRoots_19 ?_
    replace h := h _ rfl
    generalize sF s 38 8 = s1 at h ⊢
    refine r_iconst ok 0 d_Md_takesRoots_22 rfl ?_
    refine r_istore_n ok [(1, vI 0), (0, .ref (F.2.1.1 10))] d_Md_takesRoots_23 rfl hm (by decide) rfl ?_
    exact r_sub [1, 0] rfl h
  · replace h := h.2.2 c
    refine r_aload_n ok 0 d_Md_takesRoots_10 rfl rfl ?_
    refine g_Md_roots ok d_Md_takesRoots_11 ?_
    refine r_goto ok 19 d_Md_takesRoots_14 (by decide) ?_
    refine p_Md_items ok d_Md_takesRoots_19 ?_
    replace h := h _ rfl
    generalize sF s 38 (s.1 37) = s2 at h ⊢
    refine r_iconst ok 0 d_Md_takesRoots_22 rfl ?_
    refine r_istore_n ok [(1, vI 0), (0, .ref (F.2.1.1 10))] d_Md_takesRoots_23 rfl hm (by decide) rfl ?_
    exact r_sub [1, 0] rfl h
theorem L_Md_takesRoots (l : Launch) (G : GE) (A : Nat → Prop) (hD : ∀ σ, va_D A (GW G σ)) {s : SS} {Q : SS → Prop} (h : Sp_Md_takesRoots  s Q) : Met l y_Md_takesRoots (Cond.code y_Md_takesRoots prog_12_method_37_code 2 (none) :: lw_ok) ({ frames := 0, cells := 0, slots := 0, locals := 0 } : Room) (va_Pc [.ref (G.1 10)] (gB G s)) (va_Qv (fun (s2 : SS) => Q s2) (fun s2 t => gB G s2 t) A) 0 0 A := by
  refine met_v hD (by decide) ⟨rfl, rfl⟩ (Nat.le_of_ble_eq_true rfl) (lv := [(0, .ref (G.1 10))]) rfl (fun F h1 h2 h3 hm ok hQ => ?_)
  subst h1 h2 h3
  have hDF := hD
  exact K_Md_takesRoots_e hDF hm ok hQ (h _ (fun _ _ hb => K_Md_takesRoots_24 hDF hm ok hQ hb))
theorem d_Md_comesAt_0 : decode prog_12_method_39_code 0 = .ok (.iload_n 1, 1) := by decide +kernel
theorem d_Md_comesAt_1 : decode prog_12_method_39_code 1 = .ok (.iconst 1, 1) := by decide +kernel
theorem d_Md_comesAt_2 : decode prog_12_method_39_code 2 = .ok (.iload_n 2, 1) := by decide +kernel
theorem d_Md_comesAt_3 : decode prog_12_method_39_code 3 = .ok (.ishl, 1) := by decide +kernel
theorem d_Md_comesAt_4 : decode prog_12_method_39_code 4 = .ok (.iconst (-1), 1) := by decide +kernel
theorem d_Md_comesAt_5 : decode prog_12_method_39_code 5 = .ok (.ixor, 1) := by decide +kernel
theorem d_Md_comesAt_6 : decode prog_12_method_39_code 6 = .ok (.iand, 1) := by decide +kernel
theorem d_Md_comesAt_7 : decode prog_12_method_39_code 7 = .ok (.istore 4, 2) := by decide +kernel
theorem d_Md_comesAt_9 : decode prog_12_method_39_code 9 = .ok (.iload 4, 2) := by decide +kernel
theorem d_Md_comesAt_11 : decode prog_12_method_39_code 11 = .ok (.ifCond .ne 12, 3) := by decide +kernel
theorem d_Md_comesAt_14 : decode prog_12_method_39_code 14 = .ok (.aload_n 0, 1) := by decide +kernel
theorem d_Md_comesAt_15 : decode prog_12_method_39_code 15 = .ok (.getfield 90, 3) := by decide +kernel
theorem d_Md_comesAt_18 : decode prog_12_method_39_code 18 = .ok (.iload_n 2, 1) := by decide +kernel
theorem d_Md_comesAt_19 : decode prog_12_method_39_code 19 = .ok (.iaload, 1) := by decide +kernel
theorem d_Md_comesAt_20 : decode prog_12_method_39_code 20 = .ok (.goto 5, 3) := by decide +kernel
theorem d_Md_comesAt_23 : decode prog_12_method_39_code 23 = .ok (.ldc 178, 2) := by decide +kernel
theorem d_Md_comesAt_25 : decode prog_12_method_39_code 25 = .ok (.istore 5, 2) := by decide +kernel
theorem d_Md_comesAt_27 : decode prog_12_method_39_code 27 = .ok (.iconst 0, 1) := by decide +kernel
theorem d_Md_comesAt_28 : decode prog_12_method_39_code 28 = .ok (.istore 6, 2) := by decide +kernel
theorem d_Md_comesAt_30 : decode prog_12_method_39_code 30 = .ok (.iload 6, 2) := by decide +kernel
theorem d_Md_comesAt_32 : decode prog_12_method_39_code 32 = .ok (.aload_n 0, 1) := by decide +kernel
theorem d_Md_comesAt_33 : decode prog_12_method_39_code 33 = .ok (.getfield 299, 3) := by decide +kernel
theorem d_Md_comesAt_36 : decode prog_12_method_39_code 36 = .ok (.if_icmp .ge 83, 3) := by decide +kernel
theorem d_Md_comesAt_39 : decode prog_12_method_39_code 39 = .ok (.iload 4, 2) := by decide +kernel
theorem d_Md_comesAt_41 : decode prog_12_method_39_code 41 = .ok (.iload 6, 2) := by decide +kernel
theorem d_Md_comesAt_43 : decode prog_12_method_39_code 43 = .ok (.ishr, 1) := by decide +kernel
theorem d_Md_comesAt_44 : decode prog_12_method_39_code 44 = .ok (.iconst 1, 1) := by decide +kernel
theorem d_Md_comesAt_45 : decode prog_12_method_39_code 45 = .ok (.iand, 1) := by decide +kernel
theorem d_Md_comesAt_46 : decode prog_12_method_39_code 46 = .ok (.ifCond .ne 6, 3) := by decide +kernel
theorem d_Md_comesAt_49 : decode prog_12_method_39_code 49 = .ok (.goto 64, 3) := by decide +kernel
theorem d_Md_comesAt_52 : decode prog_12_method_39_code 52 = .ok (.iconst 0, 1) := by decide +kernel
theorem d_Md_comesAt_53 : decode prog_12_method_39_code 53 = .ok (.istore 7, 2) := by decide +kernel
theorem d_Md_comesAt_55 : decode prog_12_method_39_code 55 = .ok (.iload 7, 2) := by decide +kernel
theorem d_Md_comesAt_57 : decode prog_12_method_39_code 57 = .ok (.bipush 10, 2) := by decide +kernel
theorem d_Md_comesAt_59 : decode prog_12_method_39_code 59 = .ok (.if_icmp .ge 54, 3) := by decide +kernel
theorem d_Md_comesAt_62 : decode prog_12_method_39_code 62 = .ok (.aload_n 0, 1) := by decide +kernel
theorem d_Md_comesAt_63 : decode prog_12_method_39_code 63 = .ok (.getfield 84, 3) := by decide +kernel
theorem d_Md_comesAt_66 : decode prog_12_method_39_code 66 = .ok (.bipush 90, 2) := by decide +kernel
theorem d_Md_comesAt_68 : decode prog_12_method_39_code 68 = .ok (.iload 4, 2) := by decide +kernel
theorem d_Md_comesAt_70 : decode prog_12_method_39_code 70 = .ok (.imul, 1) := by decide +kernel
theorem d_Md_comesAt_71 : decode prog_12_method_39_code 71 = .ok (.bipush 10, 2) := by decide +kernel
theorem d_Md_comesAt_73 : decode prog_12_method_39_code 73 = .ok (.iload 6, 2) := by decide +kernel
theorem d_Md_comesAt_75 : decode prog_12_method_39_code 75 = .ok (.imul, 1) := by decide +kernel
theorem d_Md_comesAt_76 : decode prog_12_method_39_code 76 = .ok (.iadd, 1) := by decide +kernel
theorem d_Md_comesAt_77 : decode prog_12_method_39_code 77 = .ok (.iload 7, 2) := by decide +kernel
theorem d_Md_comesAt_79 : decode prog_12_method_39_code 79 = .ok (.iadd, 1) := by decide +kernel
theorem d_Md_comesAt_80 : decode prog_12_method_39_code 80 = .ok (.iaload, 1) := by decide +kernel
theorem d_Md_comesAt_81 : decode prog_12_method_39_code 81 = .ok (.aload_n 0, 1) := by decide +kernel
theorem d_Md_comesAt_82 : decode prog_12_method_39_code 82 = .ok (.getfield 7, 3) := by decide +kernel
theorem d_Md_comesAt_85 : decode prog_12_method_39_code 85 = .ok (.bipush 10, 2) := by decide +kernel
theorem d_Md_comesAt_87 : decode prog_12_method_39_code 87 = .ok (.iload 7, 2) := by decide +kernel
theorem d_Md_comesAt_89 : decode prog_12_method_39_code 89 = .ok (.imul, 1) := by decide +kernel
theorem d_Md_comesAt_90 : decode prog_12_method_39_code 90 = .ok (.iload_n 3, 1) := by decide +kernel
theorem d_Md_comesAt_91 : decode prog_12_method_39_code 91 = .ok (.iadd, 1) := by decide +kernel
theorem d_Md_comesAt_92 : decode prog_12_method_39_code 92 = .ok (.iaload, 1) := by decide +kernel
theorem d_Md_comesAt_93 : decode prog_12_method_39_code 93 = .ok (.iadd, 1) := by decide +kernel
theorem d_Md_comesAt_94 : decode prog_12_method_39_code 94 = .ok (.istore 8, 2) := by decide +kernel
theorem d_Md_comesAt_96 : decode prog_12_method_39_code 96 = .ok (.iload 8, 2) := by decide +kernel
theorem d_Md_comesAt_98 : decode prog_12_method_39_code 98 = .ok (.iload 5, 2) := by decide +kernel
theorem d_Md_comesAt_100 : decode prog_12_method_39_code 100 = .ok (.if_icmp .ge 7, 3) := by decide +kernel
theorem d_Md_comesAt_103 : decode prog_12_method_39_code 103 = .ok (.iload 8, 2) := by decide +kernel
theorem d_Md_comesAt_105 : decode prog_12_method_39_code 105 = .ok (.istore 5, 2) := by decide +kernel
theorem d_Md_comesAt_107 : decode prog_12_method_39_code 107 = .ok (.iinc 7 1, 3) := by decide +kernel
theorem d_Md_comesAt_110 : decode prog_12_method_39_code 110 = .ok (.goto (-55), 3) := by decide +kernel
theorem d_Md_comesAt_113 : decode prog_12_method_39_code 113 = .ok (.iinc 6 1, 3) := by decide +kernel
theorem d_Md_comesAt_116 : decode prog_12_method_39_code 116 = .ok (.goto (-86), 3) := by decide +kernel
theorem d_Md_comesAt_119 : decode prog_12_method_39_code 119 = .ok (.iload 5, 2) := by decide +kernel
theorem d_Md_comesAt_121 : decode prog_12_method_39_code 121 = .ok (.aload_n 0, 1) := by decide +kernel
theorem d_Md_comesAt_122 : decode prog_12_method_39_code 122 = .ok (.getfield 90, 3) := by decide +kernel
theorem d_Md_comesAt_125 : decode prog_12_method_39_code 125 = .ok (.iload_n 2, 1) := by decide +kernel
theorem d_Md_comesAt_126 : decode prog_12_method_39_code 126 = .ok (.iaload, 1) := by decide +kernel
theorem d_Md_comesAt_127 : decode prog_12_method_39_code 127 = .ok (.if_icmp .ge 11, 3) := by decide +kernel
theorem d_Md_comesAt_130 : decode prog_12_method_39_code 130 = .ok (.aload_n 0, 1) := by decide +kernel
theorem d_Md_comesAt_131 : decode prog_12_method_39_code 131 = .ok (.getfield 90, 3) := by decide +kernel
theorem d_Md_comesAt_134 : decode prog_12_method_39_code 134 = .ok (.iload_n 2, 1) := by decide +kernel
theorem d_Md_comesAt_135 : decode prog_12_method_39_code 135 = .ok (.iaload, 1) := by decide +kernel
theorem d_Md_comesAt_136 : decode prog_12_method_39_code 136 = .ok (.istore 5, 2) := by decide +kernel
theorem d_Md_comesAt_138 : decode prog_12_method_39_code 138 = .ok (.iload 5, 2) := by decide +kernel
theorem d_Md_comesAt_140 : decode prog_12_method_39_code 140 = .ok (.aload_n 0, 1) := by decide +kernel
theorem d_Md_comesAt_141 : decode prog_12_method_39_code 141 = .ok (.getfield 93, 3) := by decide +kernel
theorem d_Md_comesAt_144 : decode prog_12_method_39_code 144 = .ok (.iload_n 2, 1) := by decide +kernel
theorem d_Md_comesAt_145 : decode prog_12_method_39_code 145 = .ok (.iaload, 1) := by decide +kernel
theorem d_Md_comesAt_146 : decode prog_12_method_39_code 146 = .ok (.if_icmp .le 8, 3) := by decide +kernel
theorem d_Md_comesAt_149 : decode prog_12_method_39_code 149 = .ok (.ldc 178, 2) := by decide +kernel
theorem d_Md_comesAt_151 : decode prog_12_method_39_code 151 = .ok (.goto 5, 3) := by decide +kernel
theorem d_Md_comesAt_154 : decode prog_12_method_39_code 154 = .ok (.iload 5, 2) := by decide +kernel
theorem d_Md_comesAt_156 : decode prog_12_method_39_code 156 = .ok (.ireturn, 1) := by decide +kernel
set_option maxHeartbeats 4000000 in
set_option maxRecDepth 100000 in
theorem K_Md_comesAt_30 {F : FT} (hD : ∀ σ, va_D F.2.2.1 (GW F.2.1 σ)) (hm : F.2.2.2.2.2.2.2.2.2.2.2.2.2.2.1 = 9) (ok : OkF F prog_12_method_39_code "LastSeenModel" ({ frames := 0, cells := 0, slots := 0, locals := 0 } : Room)) {Q : Int → SS → Prop} (hQ : RetI F Q) {x2 x3 x4 x5 x6 : Int} {s : SS} (h : B_Md_comesAt_30 Q (fun x2 x3 x4 x5 x6 s => AtS F 30 [(0, .ref (F.2.1.1 10)), (2, vI x2), (3, vI x3), (4, vI x4), (5, vI x5), (6, vI x6)] [] s) (fun x2 x3 x4 x5 x6 x7 s => AtS F 55 [(0, .ref (F.2.1.1 10)), (2, vI x2), (3, vI x3), (4, vI x4), (5, vI x5), (6, vI x6), (7, vI x7)] [] s) x2 x3 x4 x5 x6 s) : AtS F 30 [(0, .ref (F.2.1.1 10)), (2, vI x2), (3, vI x3), (4, vI x4), (5, vI x5), (6, vI x6)] [] s := by
  unfold B_Md_comesAt_30 at h
  refine r_iload ok 5 d_Md_comesAt_30 rfl ?_
  refine r_aload_n ok 0 d_Md_comesAt_32 rfl rfl ?_
  refine g_Md_items ok d_Md_comesAt_33 ?_
  refine r_icmp_ge ok 119 d_Md_comesAt_36 (by decide) h.1 h.2.1 (fun c => ?_) (fun c => ?_)
  · replace h := h.2.2.1 c
    refine r_iload ok 4 d_Md_comesAt_119 rfl ?_
    refine r_aload_n ok 0 d_Md_comesAt_121 rfl rfl ?_
    refine g_Md_itemFirst ok d_Md_comesAt_122 ?_
    refine r_iload_n ok 1 d_Md_comesAt_125 rfl rfl ?_
    refine r_iald ok 85 d_Md_comesAt_126 (by decide) rfl h.1 ?_
    replace h := h.2
    refine r_icmp_ge ok 138 d_Md_comesAt_127 (by decide) h.1 h.2.1 (fun c => ?_) (fun c => ?_)
    · replace h := h.2.2.1 c
      refine r_iload ok 4 d_Md_comesAt_138 rfl ?_
      refine r_aload_n ok 0 d_Md_comesAt_140 rfl rfl ?_
      refine g_Md_itemLast ok d_Md_comesAt_141 ?_
      refine r_iload_n ok 1 d_Md_comesAt_144 rfl rfl ?_
      refine r_iald ok 86 d_Md_comesAt_145 (by decide) rfl h.1 ?_
      replace h := h.2
      refine r_icmp_le ok 154 d_Md_comesAt_146 (by decide) h.1 h.2.1 (fun c => ?_) (fun c => ?_)
      · replace h := h.2.2.1 c
        refine r_iload ok 4 d_Md_comesAt_154 rfl ?_
        exact hQ _ _ _ _ _ (ok_code ok) d_Md_comesAt_156 h
      · replace h := h.2.2.2 c
        refine r_ldc ok 100000 wk_Md_178 d_Md_comesAt_149 (by decide) ?_
        refine r_goto ok 156 d_Md_comesAt_151 (by decide) ?_
        exact hQ _ _ _ _ _ (ok_code ok) d_Md_comesAt_156 h
    · replace h := h.2.2.2 c
      refine r_aload_n ok 0 d_Md_comesAt_130 rfl rfl ?_
      refine g_Md_itemFirst ok d_Md_comesAt_131 ?_
      refine r_iload_n ok 1 d_Md_comesAt_134 rfl rfl ?_
      refine r_iald ok 85 d_Md_comesAt_135 (by decide) rfl h.1 ?_
      replace h := h.2
      refine r_istore ok [(5, vI (s.2 85 x2)), (0, .ref (F.2.1.1 10)), (2, vI x2), (3, vI x3), (4, vI x4), (6, vI x6)] d_Md_comesAt_136 hm (by decide) rfl ?_
      refine r_iload ok 0 d_Md_comesAt_138 rfl ?_
      refine r_aload_n ok 1 d_Md_comesAt_140 rfl rfl ?_
      refine g_Md_itemLast ok d_Md_comesAt_141 ?_
      refine r_iload_n ok 2 d_Md_comesAt_144 rfl rfl ?_
      refine r_iald ok 86 d_Md_comesAt_145 (by decide) rfl h.1 ?_
      replace h := h.2
      refine r_icmp_le ok 154 d_Md_comesAt_146 (by decide) h.1 h.2.1 (fun c => ?_) (fun c => ?_)
      · replace h := h.2.2.1 c
        refine r_iload ok 0 d_Md_comesAt_154 rfl ?_
        exact hQ _ _ _ _ _ (ok_code ok) d_Md_comesAt_156 h
      · replace h := h.2.2.2 c
        refine r_ldc ok 100000 wk_Md_178 d_Md_comesAt_149 (by decide) ?_
        refine r_goto ok 156 d_Md_comesAt_151 (by decide) ?_
        exact hQ _ _ _ _ _ (ok_code ok) d_Md_comesAt_156 h
  · replace h := h.2.2.2 c
    refine r_iload ok 3 d_Md_comesAt_39 rfl ?_
    refine r_iload ok 5 d_Md_comesAt_41 rfl ?_
    refine r_ishr ok d_Md_comesAt_43 ?_
    refine r_iconst ok 1 d_Md_comesAt_44 rfl ?_
    refine r_iand ok d_Md_comesAt_45 ?_
    refine r_if_ne ok 52 d_Md_comesAt_46 (by decide) h.1 (fun c => ?_) (fun c => ?_)
    · replace h := h.2.1 c
      refine r_iconst ok 0 d_Md_comesAt_52 rfl ?_
      refine r_istore ok [(7, vI 0), (0, .ref (F.2.1.1 10)), (2, vI x2), (3, vI x3), (4, vI x4), (5, vI x5), (6, vI x6)] d_Md_comesAt_53 hm (by decide) rfl ?_
      exact r_sub [1, 2, 3, 4, 5, 6, 0] rfl h
    · replace h := h.2.2 c
      refine r_goto ok 113 d_Md_comesAt_49 (by decide) ?_
      refine r_iinc ok 5 (x6 + 1) [(6, vI (x6 + 1)), (0, .ref (F.2.1.1 10)), (2, vI x2), (3, vI x3), (4, vI x4), (5, vI x5)] d_Md_comesAt_113 rfl rfl hm (by decide) rfl ?_
      refine r_goto ok 30 d_Md_comesAt_116 (by decide) ?_
      exact r_sub [1, 2, 3, 4, 5, 0] rfl h
set_option maxHeartbeats 4000000 in
set_option maxRecDepth 100000 in
theorem K_Md_comesAt_55 {F : FT} (hD : ∀ σ, va_D F.2.2.1 (GW F.2.1 σ)) (hm : F.2.2.2.2.2.2.2.2.2.2.2.2.2.2.1 = 9) (ok : OkF F prog_12_method_39_code "LastSeenModel" ({ frames := 0, cells := 0, slots := 0, locals := 0 } : Room)) {Q : Int → SS → Prop} (hQ : RetI F Q) {x2 x3 x4 x5 x6 x7 : Int} {s : SS} (h : B_Md_comesAt_55 Q (fun x2 x3 x4 x5 x6 s => AtS F 30 [(0, .ref (F.2.1.1 10)), (2, vI x2), (3, vI x3), (4, vI x4), (5, vI x5), (6, vI x6)] [] s) (fun x2 x3 x4 x5 x6 x7 s => AtS F 55 [(0, .ref (F.2.1.1 10)), (2, vI x2), (3, vI x3), (4, vI x4), (5, vI x5), (6, vI x6), (7, vI x7)] [] s) x2 x3 x4 x5 x6 x7 s) : AtS F 55 [(0, .ref (F.2.1.1 10)), (2, vI x2), (3, vI x3), (4, vI x4), (5, vI x5), (6, vI x6), (7, vI x7)] [] s := by
  unfold B_Md_comesAt_55 at h
  refine r_iload ok 6 d_Md_comesAt_55 rfl ?_
  refine r_bipush ok 10 d_Md_comesAt_57 (by decide) ?_
  refine r_icmp_ge ok 113 d_Md_comesAt_59 (by decide) h.1 (by decide) (fun c => ?_) (fun c => ?_)
  · replace h := h.2.1 c
    refine r_iinc ok 5 (x6 + 1) [(6, vI (x6 + 1)), (0, .ref (F.2.1.1 10)), (2, vI x2), (3, vI x3), (4, vI x4), (5, vI x5), (7, vI x7)] d_Md_comesAt_113 rfl rfl hm (by decide) rfl ?_
    refine r_goto ok 30 d_Md_comesAt_116 (by decide) ?_
    exact r_sub [1, 2, 3, 4, 5, 0] rfl h
  · replace h := h.2.2 c
    refine r_aload_n ok 0 d_Md_comesAt_62 rfl rfl ?_
    refine g_Md_earliest ok d_Md_comesAt_63 ?_
    refine r_bipush ok 90 d_Md_comesAt_66 (by decide) ?_
    refine r_iload ok 3 d_Md_comesAt_68 rfl ?_
    refine r_imul ok d_Md_comesAt_70 ?_
    refine r_bipush ok 10 d_Md_comesAt_71 (by decide) ?_
    refine r_iload ok 5 d_Md_comesAt_73 rfl ?_
    refine r_imul ok d_Md_comesAt_75 ?_
    refine r_iadd ok d_Md_comesAt_76 ?_
    refine r_iload ok 6 d_Md_comesAt_77 rfl ?_
    refine r_iadd ok d_Md_comesAt_79 ?_
    refine r_iald ok 83 d_Md_comesAt_80 (by decide) rfl h.1 ?_
    replace h := h.2
    refine r_aload_n ok 0 d_Md_comesAt_81 rfl rfl ?_
    refine g_Md_far ok d_Md_comesAt_82 ?_
    refine r_bipush ok 10 d_Md_comesAt_85 (by decide) ?_
    refine r_iload ok 6 d_Md_comesAt_87 rfl ?_
    refine r_imul ok d_Md_comesAt_89 ?_
    refine r_iload_n ok 2 d_Md_comesAt_90 rfl rfl ?_
    refine r_iadd ok d_Md_comesAt_91 ?_
    refine r_iald ok 59 d_Md_comesAt_92 (by decide) rfl h.1 ?_
    replace h := h.2
    refine r_iadd ok d_Md_comesAt_93 ?_
    refine r_istore ok [(8, vI ((s.2 83 (((90 * x4) + (10 * x6)) + x7)) + (s.2 59 ((10 * x7) + x3)))), (0, .ref (F.2.1.1 10)), (2, vI x2), (3, vI x3), (4, vI x4), (5, vI x5), (6, vI x6), (7, vI x7)] d_Md_comesAt_94 hm (by decide) rfl ?_
    refine r_iload ok 0 d_Md_comesAt_96 rfl ?_
    refine r_iload ok 5 d_Md_comesAt_98 rfl ?_
    refine r_icmp_ge ok 107 d_Md_comesAt_100 (by decide) h.1 h.2.1 (fun c => ?_) (fun c => ?_)
    · replace h := h.2.2.1 c
      refine r_iinc ok 7 (x7 + 1) [(7, vI (x7 + 1)), (8, vI ((s.2 83 (((90 * x4) + (10 * x6)) + x7)) + (s.2 59 ((10 * x7) + x3)))), (0, .ref (F.2.1.1 10)), (2, vI x2), (3, vI x3), (4, vI x4), (5, vI x5), (6, vI x6)] d_Md_comesAt_107 rfl rfl hm (by decide) rfl ?_
      refine r_goto ok 55 d_Md_comesAt_110 (by decide) ?_
      exact r_sub [2, 3, 4, 5, 6, 7, 0] rfl h
    · replace h := h.2.2.2 c
      refine r_iload ok 0 d_Md_comesAt_103 rfl ?_
      refine r_istore ok [(5, vI ((s.2 83 (((90 * x4) + (10 * x6)) + x7)) + (s.2 59 ((10 * x7) + x3)))), (8, vI ((s.2 83 (((90 * x4) + (10 * x6)) + x7)) + (s.2 59 ((10 * x7) + x3)))), (0, .ref (F.2.1.1 10)), (2, vI x2), (3, vI x3), (4, vI x4), (6, vI x6), (7, vI x7)] d_Md_comesAt_105 hm (by decide) rfl ?_
      refine r_iinc ok 7 (x7 + 1) [(7, vI (x7 + 1)), (5, vI ((s.2 83 (((90 * x4) + (10 * x6)) + x7)) + (s.2 59 ((10 * x7) + x3)))), (8, vI ((s.2 83 (((90 * x4) + (10 * x6)) + x7)) + (s.2 59 ((10 * x7) + x3)))), (0, .ref (F.2.1.1 10)), (2, vI x2), (3, vI x3), (4, vI x4), (6, vI x6)] d_Md_comesAt_107 rfl rfl hm (by decide) rfl ?_
      refine r_goto ok 55 d_Md_comesAt_110 (by decide) ?_
      exact r_sub [3, 4, 5, 6, 1, 7, 0] rfl h
set_option maxHeartbeats 4000000 in
set_option maxRecDepth 100000 in
theorem K_Md_comesAt_e {F : FT} (hD : ∀ σ, va_D F.2.2.1 (GW F.2.1 σ)) (hm : F.2.2.2.2.2.2.2.2.2.2.2.2.2.2.1 = 9) (ok : OkF F prog_12_method_39_code "LastSeenModel" ({ frames := 0, cells := 0, slots := 0, locals := 0 } : Room)) {Q : Int → SS → Prop} (hQ : RetI F Q) {x1 x2 x3 : Int} {s : SS} (h : B_Md_comesAt_e Q (fun x2 x3 x4 x5 x6 s => AtS F 30 [(0, .ref (F.2.1.1 10)), (2, vI x2), (3, vI x3), (4, vI x4), (5, vI x5), (6, vI x6)] [] s) (fun x2 x3 x4 x5 x6 x7 s => AtS F 55 [(0, .ref (F.2.1.1 10)), (2, vI x2), (3, vI x3), (4, vI x4), (5, vI x5), (6, vI x6), (7, vI x7)] [] s) x1 x2 x3 s) : AtS F 0 [(0, .ref (F.2.1.1 10)), (1, vI x1), (2, vI x2), (3, vI x3)] [] s := by
  unfold B_Md_comesAt_e at h
  refine r_iload_n ok 1 d_Md_comesAt_0 rfl rfl ?_
  refine r_iconst ok 1 d_Md_comesAt_1 rfl ?_
  refine r_iload_n ok 2 d_Md_comesAt_2 rfl rfl ?_
  refine r_ishl ok d_Md_comesAt_3 ?_
  refine r_iconst ok (-1) d_Md_comesAt_4 rfl ?_
  refine r_ixor ok d_Md_comesAt_5 ?_
  refine r_iand ok d_Md_comesAt_6 ?_
  refine r_istore ok [(4, vI (bnd x1 (bxr (shl 1 x2) (-1)))), (0, .ref (F.2.1.1 10)), (1, vI x1), (2, vI x2), (3, vI x3)] d_Md_comesAt_7 hm (by decide) rfl ?_
  refine r_iload ok 0 d_Md_comesAt_9 rfl ?_
  refine r_if_ne ok 23 d_Md_comesAt_11 (by decide) h.1 (fun c => ?_) (fun c => ?_)
  · replace h := h.2.1 c
    refine r_ldc ok 100000 wk_Md_178 d_Md_comesAt_23 (by decide) ?_
    refine r_istore ok [(5, vI 100000), (4, vI (bnd x1 (bxr (shl 1 x2) (-1)))), (0, .ref (F.2.1.1 10)), (1, vI x1), (2, vI x2), (3, vI x3)] d_Md_comesAt_25 hm (by decide) rfl ?_
    refine r_iconst ok 0 d_Md_comesAt_27 rfl ?_
    refine r_istore ok [(6, vI 0), (5, vI 100000), (4, vI (bnd x1 (bxr (shl 1 x2) (-1)))), (0, .ref (F.2.1.1 10)), (1, vI x1), (2, vI x2), (3, vI x3)] d_Md_comesAt_28 hm (by decide) rfl ?_
    exact r_sub [3, 5, 6, 2, 1, 0] rfl h
  · replace h := h.2.2 c
    refine r_aload_n ok 1 d_Md_comesAt_14 rfl rfl ?_
    refine g_Md_itemFirst ok d_Md_comesAt_15 ?_
    refine r_iload_n ok 3 d_Md_comesAt_18 rfl rfl ?_
    refine r_iald ok 85 d_Md_comesAt_19 (by decide) rfl h.1 ?_
    replace h := h.2
    refine r_goto ok 25 d_Md_comesAt_20 (by decide) ?_
    refine r_istore ok [(5, vI (s.2 85 x2)), (4, vI (bnd x1 (bxr (shl 1 x2) (-1)))), (0, .ref (F.2.1.1 10)), (1, vI x1), (2, vI x2), (3, vI x3)] d_Md_comesAt_25 hm (by decide) rfl ?_
    refine r_iconst ok 0 d_Md_comesAt_27 rfl ?_
    refine r_istore ok [(6, vI 0), (5, vI (s.2 85 x2)), (4, vI (bnd x1 (bxr (shl 1 x2) (-1)))), (0, .ref (F.2.1.1 10)), (1, vI x1), (2, vI x2), (3, vI x3)] d_Md_comesAt_28 hm (by decide) rfl ?_
    exact r_sub [3, 5, 6, 2, 1, 0] rfl h
theorem L_Md_comesAt (l : Launch) (G : GE) (A : Nat → Prop) (hD : ∀ σ, va_D A (GW G σ)) {x1 x2 x3 : Int} {s : SS} {Q : Int → SS → Prop} (h : Sp_Md_comesAt x1 x2 x3 s Q) : Met l y_Md_comesAt (Cond.code y_Md_comesAt prog_12_method_39_code 9 (some .int) :: lw_ok) ({ frames := 0, cells := 0, slots := 0, locals := 0 } : Room) (va_Pc [.ref (G.1 10), vI x1, vI x2, vI x3] (gB G s)) (va_Qi (fun (r : Int32) (s2 : SS) => ∃ x : Int, r = iI x ∧ Q x s2) (fun s2 t => gB G s2 t) A) 0 0 A := by
  refine met_i hD (by decide) ⟨rfl, rfl⟩ (Nat.le_of_ble_eq_true rfl) (lv := [(0, .ref (G.1 10)), (1, vI x1), (2, vI x2), (3, vI x3)]) rfl (fun F h1 h2 h3 hm ok hQ => ?_)
  subst h1 h2 h3
  have hDF := hD
  exact K_Md_comesAt_e hDF hm ok hQ (h _ _ (fun _ _ _ _ _ _ hb => K_Md_comesAt_30 hDF hm ok hQ hb) (fun _ _ _ _ _ _ _ hb => K_Md_comesAt_55 hDF hm ok hQ hb))
theorem d_Md_fillEarliest_0 : decode prog_12_method_38_code 0 = .ok (.iconst 1, 1) := by decide +kernel
theorem d_Md_fillEarliest_1 : decode prog_12_method_38_code 1 = .ok (.istore_n 1, 1) := by decide +kernel
theorem d_Md_fillEarliest_2 : decode prog_12_method_38_code 2 = .ok (.iload_n 1, 1) := by decide +kernel
theorem d_Md_fillEarliest_3 : decode prog_12_method_38_code 3 = .ok (.iconst 1, 1) := by decide +kernel
theorem d_Md_fillEarliest_4 : decode prog_12_method_38_code 4 = .ok (.aload_n 0, 1) := by decide +kernel
theorem d_Md_fillEarliest_5 : decode prog_12_method_38_code 5 = .ok (.getfield 299, 3) := by decide +kernel
theorem d_Md_fillEarliest_8 : decode prog_12_method_38_code 8 = .ok (.ishl, 1) := by decide +kernel
theorem d_Md_fillEarliest_9 : decode prog_12_method_38_code 9 = .ok (.if_icmp .ge 90, 3) := by decide +kernel
theorem d_Md_fillEarliest_12 : decode prog_12_method_38_code 12 = .ok (.iconst 0, 1) := by decide +kernel
theorem d_Md_fillEarliest_13 : decode prog_12_method_38_code 13 = .ok (.istore_n 2, 1) := by decide +kernel
theorem d_Md_fillEarliest_14 : decode prog_12_method_38_code 14 = .ok (.iload_n 2, 1) := by decide +kernel
theorem d_Md_fillEarliest_15 : decode prog_12_method_38_code 15 = .ok (.aload_n 0, 1) := by decide +kernel
theorem d_Md_fillEarliest_16 : decode prog_12_method_38_code 16 = .ok (.getfield 299, 3) := by decide +kernel
theorem d_Md_fillEarliest_19 : decode prog_12_method_38_code 19 = .ok (.if_icmp .ge 74, 3) := by decide +kernel
theorem d_Md_fillEarliest_22 : decode prog_12_method_38_code 22 = .ok (.iconst 0, 1) := by decide +kernel
theorem d_Md_fillEarliest_23 : decode prog_12_method_38_code 23 = .ok (.istore_n 3, 1) := by decide +kernel
theorem d_Md_fillEarliest_24 : decode prog_12_method_38_code 24 = .ok (.iload_n 3, 1) := by decide +kernel
theorem d_Md_fillEarliest_25 : decode prog_12_method_38_code 25 = .ok (.bipush 10, 2) := by decide +kernel
theorem d_Md_fillEarliest_27 : decode prog_12_method_38_code 27 = .ok (.if_icmp .ge 60, 3) := by decide +kernel
theorem d_Md_fillEarliest_30 : decode prog_12_method_38_code 30 = .ok (.aload_n 0, 1) := by decide +kernel
theorem d_Md_fillEarliest_31 : decode prog_12_method_38_code 31 = .ok (.getfield 84, 3) := by decide +kernel
theorem d_Md_fillEarliest_34 : decode prog_12_method_38_code 34 = .ok (.bipush 90, 2) := by decide +kernel
theorem d_Md_fillEarliest_36 : decode prog_12_method_38_code 36 = .ok (.iload_n 1, 1) := by decide +kernel
theorem d_Md_fillEarliest_37 : decode prog_12_method_38_code 37 = .ok (.imul, 1) := by decide +kernel
theorem d_Md_fillEarliest_38 : decode prog_12_method_38_code 38 = .ok (.bipush 10, 2) := by decide +kernel
theorem d_Md_fillEarliest_40 : decode prog_12_method_38_code 40 = .ok (.iload_n 2, 1) := by decide +kernel
theorem d_Md_fillEarliest_41 : decode prog_12_method_38_code 41 = .ok (.imul, 1) := by decide +kernel
theorem d_Md_fillEarliest_42 : decode prog_12_method_38_code 42 = .ok (.iadd, 1) := by decide +kernel
theorem d_Md_fillEarliest_43 : decode prog_12_method_38_code 43 = .ok (.iload_n 3, 1) := by decide +kernel
theorem d_Md_fillEarliest_44 : decode prog_12_method_38_code 44 = .ok (.iadd, 1) := by decide +kernel
theorem d_Md_fillEarliest_45 : decode prog_12_method_38_code 45 = .ok (.iload_n 1, 1) := by decide +kernel
theorem d_Md_fillEarliest_46 : decode prog_12_method_38_code 46 = .ok (.iload_n 2, 1) := by decide +kernel
theorem d_Md_fillEarliest_47 : decode prog_12_method_38_code 47 = .ok (.ishr, 1) := by decide +kernel
theorem d_Md_fillEarliest_48 : decode prog_12_method_38_code 48 = .ok (.iconst 1, 1) := by decide +kernel
theorem d_Md_fillEarliest_49 : decode prog_12_method_38_code 49 = .ok (.iand, 1) := by decide +kernel
theorem d_Md_fillEarliest_50 : decode prog_12_method_38_code 50 = .ok (.iconst 1, 1) := by decide +kernel
theorem d_Md_fillEarliest_51 : decode prog_12_method_38_code 51 = .ok (.if_icmp .ne 27, 3) := by decide +kernel
theorem d_Md_fillEarliest_54 : decode prog_12_method_38_code 54 = .ok (.aload_n 0, 1) := by decide +kernel
theorem d_Md_fillEarliest_55 : decode prog_12_method_38_code 55 = .ok (.getfield 87, 3) := by decide +kernel
theorem d_Md_fillEarliest_58 : decode prog_12_method_38_code 58 = .ok (.iload_n 2, 1) := by decide +kernel
theorem d_Md_fillEarliest_59 : decode prog_12_method_38_code 59 = .ok (.iaload, 1) := by decide +kernel
theorem d_Md_fillEarliest_60 : decode prog_12_method_38_code 60 = .ok (.iload_n 3, 1) := by decide +kernel
theorem d_Md_fillEarliest_61 : decode prog_12_method_38_code 61 = .ok (.ishr, 1) := by decide +kernel
theorem d_Md_fillEarliest_62 : decode prog_12_method_38_code 62 = .ok (.iconst 1, 1) := by decide +kernel
theorem d_Md_fillEarliest_63 : decode prog_12_method_38_code 63 = .ok (.iand, 1) := by decide +kernel
theorem d_Md_fillEarliest_64 : decode prog_12_method_38_code 64 = .ok (.iconst 1, 1) := by decide +kernel
theorem d_Md_fillEarliest_65 : decode prog_12_method_38_code 65 = .ok (.if_icmp .ne 13, 3) := by decide +kernel
theorem d_Md_fillEarliest_68 : decode prog_12_method_38_code 68 = .ok (.aload_n 0, 1) := by decide +kernel
theorem d_Md_fillEarliest_69 : decode prog_12_method_38_code 69 = .ok (.iload_n 1, 1) := by decide +kernel
theorem d_Md_fillEarliest_70 : decode prog_12_method_38_code 70 = .ok (.iload_n 2, 1) := by decide +kernel
theorem d_Md_fillEarliest_71 : decode prog_12_method_38_code 71 = .ok (.iload_n 3, 1) := by decide +kernel
theorem d_Md_fillEarliest_72 : decode prog_12_method_38_code 72 = .ok (.invokevirtual 302, 3) := by decide +kernel
theorem d_Md_fillEarliest_75 : decode prog_12_method_38_code 75 = .ok (.goto 5, 3) := by decide +kernel
theorem d_Md_fillEarliest_78 : decode prog_12_method_38_code 78 = .ok (.ldc 178, 2) := by decide +kernel
theorem d_Md_fillEarliest_80 : decode prog_12_method_38_code 80 = .ok (.iastore, 1) := by decide +kernel
theorem d_Md_fillEarliest_81 : decode prog_12_method_38_code 81 = .ok (.iinc 3 1, 3) := by decide +kernel
theorem d_Md_fillEarliest_84 : decode prog_12_method_38_code 84 = .ok (.goto (-60), 3) := by decide +kernel
theorem d_Md_fillEarliest_87 : decode prog_12_method_38_code 87 = .ok (.iinc 2 1, 3) := by decide +kernel
theorem d_Md_fillEarliest_90 : decode prog_12_method_38_code 90 = .ok (.goto (-76), 3) := by decide +kernel
theorem d_Md_fillEarliest_93 : decode prog_12_method_38_code 93 = .ok (.iinc 1 1, 3) := by decide +kernel
theorem d_Md_fillEarliest_96 : decode prog_12_method_38_code 96 = .ok (.goto (-94), 3) := by decide +kernel
theorem d_Md_fillEarliest_99 : decode prog_12_method_38_code 99 = .ok (.return_, 1) := by decide +kernel
set_option maxHeartbeats 4000000 in
set_option maxRecDepth 100000 in
theorem K_Md_fillEarliest_2 {F : FT} (hD : ∀ σ, va_D F.2.2.1 (GW F.2.1 σ)) (hm : F.2.2.2.2.2.2.2.2.2.2.2.2.2.2.1 = 4) (ok : OkF F prog_12_method_38_code "LastSeenModel" ({ frames := 1, cells := 0, slots := 0, locals := 28 } : Room)) {Q : SS → Prop} (hQ : RetV F Q) {x1 : Int} {s : SS} (h : B_Md_fillEarliest_2 Q (fun x1 s => AtS F 2 [(0, .ref (F.2.1.1 10)), (1, vI x1)] [] s) (fun x1 x2 s => AtS F 14 [(0, .ref (F.2.1.1 10)), (1, vI x1), (2, vI x2)] [] s) (fun x1 x2 x3 s => AtS F 24 [(0, .ref (F.2.1.1 10)), (1, vI x1), (2, vI x2), (3, vI x3)] [] s) x1 s) : AtS F 2 [(0, .ref (F.2.1.1 10)), (1, vI x1)] [] s := by
  unfold B_Md_fillEarliest_2 at h
  refine r_iload_n ok 1 d_Md_fillEarliest_2 rfl rfl ?_
  refine r_iconst ok 1 d_Md_fillEarliest_3 rfl ?_
  refine r_aload_n ok 0 d_Md_fillEarliest_4 rfl rfl ?_
  refine g_Md_items ok d_Md_fillEarliest_5 ?_
  refine r_ishl ok d_Md_fillEarliest_8 ?_
  refine r_icmp_ge ok 99 d_Md_fillEarliest_9 (by decide) h.1 h.2.1 (fun c => ?_) (fun c => ?_)
  · replace h := h.2.2.1 c
    exact hQ _ _ _ _ (ok_code ok) d_Md_fillEarliest_99 h
  · replace h := h.2.2.2 c
    refine r_iconst ok 0 d_Md_fillEarliest_12 rfl ?_
    refine r_istore_n ok [(2, vI 0), (0, .ref (F.2.1.1 10)), (1, vI x1)] d_Md_fillEarliest_13 rfl hm (by decide) rfl ?_
    exact r_sub [1, 2, 0] rfl h
set_option maxHeartbeats 4000000 in
set_option maxRecDepth 100000 in
theorem K_Md_fillEarliest_14 {F : FT} (hD : ∀ σ, va_D F.2.2.1 (GW F.2.1 σ)) (hm : F.2.2.2.2.2.2.2.2.2.2.2.2.2.2.1 = 4) (ok : OkF F prog_12_method_38_code "LastSeenModel" ({ frames := 1, cells := 0, slots := 0, locals := 28 } : Room)) {Q : SS → Prop} (hQ : RetV F Q) {x1 x2 : Int} {s : SS} (h : B_Md_fillEarliest_14 Q (fun x1 s => AtS F 2 [(0, .ref (F.2.1.1 10)), (1, vI x1)] [] s) (fun x1 x2 s => AtS F 14 [(0, .ref (F.2.1.1 10)), (1, vI x1), (2, vI x2)] [] s) (fun x1 x2 x3 s => AtS F 24 [(0, .ref (F.2.1.1 10)), (1, vI x1), (2, vI x2), (3, vI x3)] [] s) x1 x2 s) : AtS F 14 [(0, .ref (F.2.1.1 10)), (1, vI x1), (2, vI x2)] [] s := by
  unfold B_Md_fillEarliest_14 at h
  refine r_iload_n ok 2 d_Md_fillEarliest_14 rfl rfl ?_
  refine r_aload_n ok 0 d_Md_fillEarliest_15 rfl rfl ?_
  refine g_Md_items ok d_Md_fillEarliest_16 ?_
  refine r_icmp_ge ok 93 d_Md_fillEarliest_19 (by decide) h.1 h.2.1 (fun c => ?_) (fun c => ?_)
  · replace h := h.2.2.1 c
    refine r_iinc ok 1 (x1 + 1) [(1, vI (x1 + 1)), (0, .ref (F.2.1.1 10)), (2, vI x2)] d_Md_fillEarliest_93 rfl rfl hm (by decide) rfl ?_
    refine r_goto ok 2 d_Md_fillEarliest_96 (by decide) ?_
    exact r_sub [1, 0] rfl h
  · replace h := h.2.2.2 c
    refine r_iconst ok 0 d_Md_fillEarliest_22 rfl ?_
    refine r_istore_n ok [(3, vI 0), (0, .ref (F.2.1.1 10)), (1, vI x1), (2, vI x2)] d_Md_fillEarliest_23 rfl hm (by decide) rfl ?_
    exact r_sub [1, 2, 3, 0] rfl h
set_option maxHeartbeats 4000000 in
set_option maxRecDepth 100000 in
theorem K_Md_fillEarliest_24 {F : FT} (hD : ∀ σ, va_D F.2.2.1 (GW F.2.1 σ)) (hm : F.2.2.2.2.2.2.2.2.2.2.2.2.2.2.1 = 4) (ok : OkF F prog_12_method_38_code "LastSeenModel" ({ frames := 1, cells := 0, slots := 0, locals := 28 } : Room)) {Q : SS → Prop} (hQ : RetV F Q) {x1 x2 x3 : Int} {s : SS} (h : B_Md_fillEarliest_24 Q (fun x1 s => AtS F 2 [(0, .ref (F.2.1.1 10)), (1, vI x1)] [] s) (fun x1 x2 s => AtS F 14 [(0, .ref (F.2.1.1 10)), (1, vI x1), (2, vI x2)] [] s) (fun x1 x2 x3 s => AtS F 24 [(0, .ref (F.2.1.1 10)), (1, vI x1), (2, vI x2), (3, vI x3)] [] s) x1 x2 x3 s) : AtS F 24 [(0, .ref (F.2.1.1 10)), (1, vI x1), (2, vI x2), (3, vI x3)] [] s := by
  unfold B_Md_fillEarliest_24 at h
  refine r_iload_n ok 3 d_Md_fillEarliest_24 rfl rfl ?_
  refine r_bipush ok 10 d_Md_fillEarliest_25 (by decide) ?_
  refine r_icmp_ge ok 87 d_Md_fillEarliest_27 (by decide) h.1 (by decide) (fun c => ?_) (fun c => ?_)
  · replace h := h.2.1 c
    refine r_iinc ok 2 (x2 + 1) [(2, vI (x2 + 1)), (0, .ref (F.2.1.1 10)), (1, vI x1), (3, vI x3)] d_Md_fillEarliest_87 rfl rfl hm (by decide) rfl ?_
    refine r_goto ok 14 d_Md_fillEarliest_90 (by decide) ?_
    exact r_sub [1, 2, 0] rfl h
  · replace h := h.2.2 c
    refine r_aload_n ok 0 d_Md_fillEarliest_30 rfl rfl ?_
    refine g_Md_earliest ok d_Md_fillEarliest_31 ?_
    refine r_bipush ok 90 d_Md_fillEarliest_34 (by decide) ?_
    refine r_iload_n ok 1 d_Md_fillEarliest_36 rfl rfl ?_
    refine r_imul ok d_Md_fillEarliest_37 ?_
    refine r_bipush ok 10 d_Md_fillEarliest_38 (by decide) ?_
    refine r_iload_n ok 2 d_Md_fillEarliest_40 rfl rfl ?_
    refine r_imul ok d_Md_fillEarliest_41 ?_
    refine r_iadd ok d_Md_fillEarliest_42 ?_
    refine r_iload_n ok 3 d_Md_fillEarliest_43 rfl rfl ?_
    refine r_iadd ok d_Md_fillEarliest_44 ?_
    refine r_iload_n ok 1 d_Md_fillEarliest_45 rfl rfl ?_
    refine r_iload_n ok 2 d_Md_fillEarliest_46 rfl rfl ?_
    refine r_ishr ok d_Md_fillEarliest_47 ?_
    refine r_iconst ok 1 d_Md_fillEarliest_48 rfl ?_
    refine r_iand ok d_Md_fillEarliest_49 ?_
    refine r_iconst ok 1 d_Md_fillEarliest_50 rfl ?_
    refine r_icmp_ne ok 78 d_Md_fillEarliest_51 (by decide) h.1 (by decide) (fun c => ?_) (fun c => ?_)
    · replace h := h.2.1 c
      refine r_ldc ok 100000 wk_Md_178 d_Md_fillEarliest_78 (by decide) ?_
      refine r_iast ok 83 d_Md_fillEarliest_80 (by decide) rfl h.1 ?_
      replace h := h.2 _ rfl
      generalize sA s 83 (((90 * x1) + (10 * x2)) + x3) 100000 = s1 at h ⊢
      refine r_iinc ok 3 (x3 + 1) [(3, vI (x3 + 1)), (0, .ref (F.2.1.1 10)), (1, vI x1), (2, vI x2)] d_Md_fillEarliest_81 rfl rfl hm (by decide) rfl ?_
      refine r_goto ok 24 d_Md_fillEarliest_84 (by decide) ?_
      exact r_sub [1, 2, 3, 0] rfl h
    · replace h := h.2.2 c
      refine r_aload_n ok 0 d_Md_fillEarliest_54 rfl rfl ?_
      refine g_Md_itemPlaces ok d_Md_fillEarliest_55 ?_
      refine r_iload_n ok 2 d_Md_fillEarliest_58 rfl rfl ?_
      refine r_iald ok 84 d_Md_fillEarliest_59 (by decide) rfl h.1 ?_
      replace h := h.2
      refine r_iload_n ok 3 d_Md_fillEarliest_60 rfl rfl ?_
      refine r_ishr ok d_Md_fillEarliest_61 ?_
      refine r_iconst ok 1 d_Md_fillEarliest_62 rfl ?_
      refine r_iand ok d_Md_fillEarliest_63 ?_
      refine r_iconst ok 1 d_Md_fillEarliest_64 rfl ?_
      refine r_icmp_ne ok 78 d_Md_fillEarliest_65 (by decide) h.1 (by decide) (fun c => ?_) (fun c => ?_)
      · replace h := h.2.1 c
        refine r_ldc ok 100000 wk_Md_178 d_Md_fillEarliest_78 (by decide) ?_
        refine r_iast ok 83 d_Md_fillEarliest_80 (by decide) rfl h.1 ?_
        replace h := h.2 _ rfl
        generalize sA s 83 (((90 * x1) + (10 * x2)) + x3) 100000 = s2 at h ⊢
        refine r_iinc ok 3 (x3 + 1) [(3, vI (x3 + 1)), (0, .ref (F.2.1.1 10)), (1, vI x1), (2, vI x2)] d_Md_fillEarliest_81 rfl rfl hm (by decide) rfl ?_
        refine r_goto ok 24 d_Md_fillEarliest_84 (by decide) ?_
        exact r_sub [1, 2, 3, 0] rfl h
      · replace h := h.2.2 c
        refine r_aload_n ok 0 d_Md_fillEarliest_68 rfl rfl ?_
        refine r_iload_n ok 1 d_Md_fillEarliest_69 rfl rfl ?_
        refine r_iload_n ok 2 d_Md_fillEarliest_70 rfl rfl ?_
        refine r_iload_n ok 3 d_Md_fillEarliest_71 rfl rfl ?_
        refine r_callVi (As := [vI x1, vI x2, vI x3]) (rest := [vI (((90 * x1) + (10 * x2)) + x3), .ref (F.2.1.1 94)]) ok 10 rfl rfl rfl wl_Md_302 wi_y_Md_comesAt ws_y_Md_comesAt wn_Md wc_y_Md_comesAt (by decide) (by decide) hh_Md_comesAt (Nat.le_of_ble_eq_true rfl) rfl d_Md_fillEarliest_72 (L_Md_comesAt F.1 F.2.1 F.2.2.1 hD h) (fun r4 s3 h => ?_)
        refine r_goto ok 80 d_Md_fillEarliest_75 (by decide) ?_
        refine r_iast ok 83 d_Md_fillEarliest_80 (by decide) rfl h.1 ?_
        replace h := h.2 _ rfl
        generalize sA s3 83 (((90 * x1) + (10 * x2)) + x3) r4 = s5 at h ⊢
        refine r_iinc ok 3 (x3 + 1) [(3, vI (x3 + 1)), (0, .ref (F.2.1.1 10)), (1, vI x1), (2, vI x2)] d_Md_fillEarliest_81 rfl rfl hm (by decide) rfl ?_
        refine r_goto ok 24 d_Md_fillEarliest_84 (by decide) ?_
        exact r_sub [1, 2, 3, 0] rfl h
set_option maxHeartbeats 4000000 in
set_option maxRecDepth 100000 in
theorem K_Md_fillEarliest_e {F : FT} (hD : ∀ σ, va_D F.2.2.1 (GW F.2.1 σ)) (hm : F.2.2.2.2.2.2.2.2.2.2.2.2.2.2.1 = 4) (ok : OkF F prog_12_method_38_code "LastSeenModel" ({ frames := 1, cells := 0, slots := 0, locals := 28 } : Room)) {Q : SS → Prop} (hQ : RetV F Q) {s : SS} (h : B_Md_fillEarliest_e Q (fun x1 s => AtS F 2 [(0, .ref (F.2.1.1 10)), (1, vI x1)] [] s) (fun x1 x2 s => AtS F 14 [(0, .ref (F.2.1.1 10)), (1, vI x1), (2, vI x2)] [] s) (fun x1 x2 x3 s => AtS F 24 [(0, .ref (F.2.1.1 10)), (1, vI x1), (2, vI x2), (3, vI x3)] [] s)  s) : AtS F 0 [(0, .ref (F.2.1.1 10))] [] s := by
  unfold B_Md_fillEarliest_e at h
  refine r_iconst ok 1 d_Md_fillEarliest_0 rfl ?_
  refine r_istore_n ok [(1, vI 1), (0, .ref (F.2.1.1 10))] d_Md_fillEarliest_1 rfl hm (by decide) rfl ?_
  exact r_sub [1, 0] rfl h
theorem L_Md_fillEarliest (l : Launch) (G : GE) (A : Nat → Prop) (hD : ∀ σ, va_D A (GW G σ)) {s : SS} {Q : SS → Prop} (h : Sp_Md_fillEarliest  s Q) : Met l y_Md_fillEarliest (Cond.code y_Md_fillEarliest prog_12_method_38_code 4 (none) :: lw_ok) ({ frames := 1, cells := 0, slots := 0, locals := 28 } : Room) (va_Pc [.ref (G.1 10)] (gB G s)) (va_Qv (fun (s2 : SS) => Q s2) (fun s2 t => gB G s2 t) A) 0 0 A := by
  refine met_v hD (by decide) ⟨rfl, rfl⟩ (Nat.le_of_ble_eq_true rfl) (lv := [(0, .ref (G.1 10))]) rfl (fun F h1 h2 h3 hm ok hQ => ?_)
  subst h1 h2 h3
  have hDF := hD
  exact K_Md_fillEarliest_e hDF hm ok hQ (h _ _ _ (fun _ _ hb => K_Md_fillEarliest_2 hDF hm ok hQ hb) (fun _ _ _ hb => K_Md_fillEarliest_14 hDF hm ok hQ hb) (fun _ _ _ _ hb => K_Md_fillEarliest_24 hDF hm ok hQ hb))
theorem d_Md_canBe_0 : decode prog_12_method_40_code 0 = .ok (.iload_n 1, 1) := by decide +kernel
theorem d_Md_canBe_1 : decode prog_12_method_40_code 1 = .ok (.ifCond .ne 7, 3) := by decide +kernel
theorem d_Md_canBe_4 : decode prog_12_method_40_code 4 = .ok (.iconst 1, 1) := by decide +kernel
theorem d_Md_canBe_5 : decode prog_12_method_40_code 5 = .ok (.goto 4, 3) := by decide +kernel
theorem d_Md_canBe_8 : decode prog_12_method_40_code 8 = .ok (.iconst 0, 1) := by decide +kernel
theorem d_Md_canBe_9 : decode prog_12_method_40_code 9 = .ok (.istore_n 2, 1) := by decide +kernel
theorem d_Md_canBe_10 : decode prog_12_method_40_code 10 = .ok (.iconst 0, 1) := by decide +kernel
theorem d_Md_canBe_11 : decode prog_12_method_40_code 11 = .ok (.istore_n 3, 1) := by decide +kernel
theorem d_Md_canBe_12 : decode prog_12_method_40_code 12 = .ok (.iload_n 3, 1) := by decide +kernel
theorem d_Md_canBe_13 : decode prog_12_method_40_code 13 = .ok (.bipush 90, 2) := by decide +kernel
theorem d_Md_canBe_15 : decode prog_12_method_40_code 15 = .ok (.if_icmp .ge 46, 3) := by decide +kernel
theorem d_Md_canBe_18 : decode prog_12_method_40_code 18 = .ok (.iload_n 2, 1) := by decide +kernel
theorem d_Md_canBe_19 : decode prog_12_method_40_code 19 = .ok (.ifCond .ne 30, 3) := by decide +kernel
theorem d_Md_canBe_22 : decode prog_12_method_40_code 22 = .ok (.aload_n 0, 1) := by decide +kernel
theorem d_Md_canBe_23 : decode prog_12_method_40_code 23 = .ok (.getfield 84, 3) := by decide +kernel
theorem d_Md_canBe_26 : decode prog_12_method_40_code 26 = .ok (.bipush 90, 2) := by decide +kernel
theorem d_Md_canBe_28 : decode prog_12_method_40_code 28 = .ok (.iload_n 1, 1) := by decide +kernel
theorem d_Md_canBe_29 : decode prog_12_method_40_code 29 = .ok (.imul, 1) := by decide +kernel
theorem d_Md_canBe_30 : decode prog_12_method_40_code 30 = .ok (.iload_n 3, 1) := by decide +kernel
theorem d_Md_canBe_31 : decode prog_12_method_40_code 31 = .ok (.iadd, 1) := by decide +kernel
theorem d_Md_canBe_32 : decode prog_12_method_40_code 32 = .ok (.iaload, 1) := by decide +kernel
theorem d_Md_canBe_33 : decode prog_12_method_40_code 33 = .ok (.ldc 178, 2) := by decide +kernel
theorem d_Md_canBe_35 : decode prog_12_method_40_code 35 = .ok (.if_icmp .ge 18, 3) := by decide +kernel
theorem d_Md_canBe_38 : decode prog_12_method_40_code 38 = .ok (.iload_n 3, 1) := by decide +kernel
theorem d_Md_canBe_39 : decode prog_12_method_40_code 39 = .ok (.bipush 10, 2) := by decide +kernel
theorem d_Md_canBe_41 : decode prog_12_method_40_code 41 = .ok (.aload_n 0, 1) := by decide +kernel
theorem d_Md_canBe_42 : decode prog_12_method_40_code 42 = .ok (.getfield 299, 3) := by decide +kernel
theorem d_Md_canBe_45 : decode prog_12_method_40_code 45 = .ok (.imul, 1) := by decide +kernel
theorem d_Md_canBe_46 : decode prog_12_method_40_code 46 = .ok (.if_icmp .ge 7, 3) := by decide +kernel
theorem d_Md_canBe_49 : decode prog_12_method_40_code 49 = .ok (.iconst 1, 1) := by decide +kernel
theorem d_Md_canBe_50 : decode prog_12_method_40_code 50 = .ok (.goto 4, 3) := by decide +kernel
theorem d_Md_canBe_53 : decode prog_12_method_40_code 53 = .ok (.iconst 0, 1) := by decide +kernel
theorem d_Md_canBe_54 : decode prog_12_method_40_code 54 = .ok (.istore_n 2, 1) := by decide +kernel
theorem d_Md_canBe_55 : decode prog_12_method_40_code 55 = .ok (.iinc 3 1, 3) := by decide +kernel
theorem d_Md_canBe_58 : decode prog_12_method_40_code 58 = .ok (.goto (-46), 3) := by decide +kernel
theorem d_Md_canBe_61 : decode prog_12_method_40_code 61 = .ok (.iload_n 2, 1) := by decide +kernel
theorem d_Md_canBe_62 : decode prog_12_method_40_code 62 = .ok (.ireturn, 1) := by decide +kernel
set_option maxHeartbeats 4000000 in
set_option maxRecDepth 100000 in
theorem K_Md_canBe_12 {F : FT} (hD : ∀ σ, va_D F.2.2.1 (GW F.2.1 σ)) (hm : F.2.2.2.2.2.2.2.2.2.2.2.2.2.2.1 = 4) (ok : OkF F prog_12_method_40_code "LastSeenModel" ({ frames := 0, cells := 0, slots := 0, locals := 0 } : Room)) {Q : Int → SS → Prop} (hQ : RetZ F Q) {x1 x2 x3 : Int} {s : SS} (h : B_Md_canBe_12 Q (fun x1 x2 x3 s => AtS F 12 [(0, .ref (F.2.1.1 10)), (1, vI x1), (2, vI x2), (3, vI x3)] [] s) x1 x2 x3 s) : AtS F 12 [(0, .ref (F.2.1.1 10)), (1, vI x1), (2, vI x2), (3, vI x3)] [] s := by
  unfold B_Md_canBe_12 at h
  refine r_iload_n ok 3 d_Md_canBe_12 rfl rfl ?_
  refine r_bipush ok 90 d_Md_canBe_13 (by decide) ?_
  refine r_icmp_ge ok 61 d_Md_canBe_15 (by decide) h.1 (by decide) (fun c => ?_) (fun c => ?_)
  · replace h := h.2.1 c
    refine r_iload_n ok 2 d_Md_canBe_61 rfl rfl ?_
    exact hQ _ _ _ _ _ (ok_code ok) d_Md_canBe_62 h.1 h.2
  · replace h := h.2.2 c
    refine r_iload_n ok 2 d_Md_canBe_18 rfl rfl ?_
    refine r_if_ne ok 49 d_Md_canBe_19 (by decide) h.1 (fun c => ?_) (fun c => ?_)
    · replace h := h.2.1 c
      refine r_iconst ok 1 d_Md_canBe_49 rfl ?_
      refine r_goto ok 54 d_Md_canBe_50 (by decide) ?_
      refine r_istore_n ok [(2, vI 1), (0, .ref (F.2.1.1 10)), (1, vI x1), (3, vI x3)] d_Md_canBe_54 rfl hm (by decide) rfl ?_
      refine r_iinc ok 3 (x3 + 1) [(3, vI (x3 + 1)), (2, vI 1), (0, .ref (F.2.1.1 10)), (1, vI x1)] d_Md_canBe_55 rfl rfl hm (by decide) rfl ?_
      refine r_goto ok 12 d_Md_canBe_58 (by decide) ?_
      exact r_sub [2, 3, 1, 0] rfl h
    · replace h := h.2.2 c
      refine r_aload_n ok 0 d_Md_canBe_22 rfl rfl ?_
      refine g_Md_earliest ok d_Md_canBe_23 ?_
      refine r_bipush ok 90 d_Md_canBe_26 (by decide) ?_
      refine r_iload_n ok 1 d_Md_canBe_28 rfl rfl ?_
      refine r_imul ok d_Md_canBe_29 ?_
      refine r_iload_n ok 3 d_Md_canBe_30 rfl rfl ?_
      refine r_iadd ok d_Md_canBe_31 ?_
      refine r_iald ok 83 d_Md_canBe_32 (by decide) rfl h.1 ?_
      replace h := h.2
      refine r_ldc ok 100000 wk_Md_178 d_Md_canBe_33 (by decide) ?_
      refine r_icmp_ge ok 53 d_Md_canBe_35 (by decide) h.1 (by decide) (fun c => ?_) (fun c => ?_)
      · replace h := h.2.1 c
        refine r_iconst ok 0 d_Md_canBe_53 rfl ?_
        refine r_istore_n ok [(2, vI 0), (0, .ref (F.2.1.1 10)), (1, vI x1), (3, vI x3)] d_Md_canBe_54 rfl hm (by decide) rfl ?_
        refine r_iinc ok 3 (x3 + 1) [(3, vI (x3 + 1)), (2, vI 0), (0, .ref (F.2.1.1 10)), (1, vI x1)] d_Md_canBe_55 rfl rfl hm (by decide) rfl ?_
        refine r_goto ok 12 d_Md_canBe_58 (by decide) ?_
        exact r_sub [2, 3, 1, 0] rfl h
      · replace h := h.2.2 c
        refine r_iload_n ok 3 d_Md_canBe_38 rfl rfl ?_
        refine r_bipush ok 10 d_Md_canBe_39 (by decide) ?_
        refine r_aload_n ok 0 d_Md_canBe_41 rfl rfl ?_
        refine g_Md_items ok d_Md_canBe_42 ?_
        refine r_imul ok d_Md_canBe_45 ?_
        refine r_icmp_ge ok 53 d_Md_canBe_46 (by decide) h.1 h.2.1 (fun c => ?_) (fun c => ?_)
        · replace h := h.2.2.1 c
          refine r_iconst ok 0 d_Md_canBe_53 rfl ?_
          refine r_istore_n ok [(2, vI 0), (0, .ref (F.2.1.1 10)), (1, vI x1), (3, vI x3)] d_Md_canBe_54 rfl hm (by decide) rfl ?_
          refine r_iinc ok 3 (x3 + 1) [(3, vI (x3 + 1)), (2, vI 0), (0, .ref (F.2.1.1 10)), (1, vI x1)] d_Md_canBe_55 rfl rfl hm (by decide) rfl ?_
          refine r_goto ok 12 d_Md_canBe_58 (by decide) ?_
          exact r_sub [2, 3, 1, 0] rfl h
        · replace h := h.2.2.2 c
          refine r_iconst ok 1 d_Md_canBe_49 rfl ?_
          refine r_goto ok 54 d_Md_canBe_50 (by decide) ?_
          refine r_istore_n ok [(2, vI 1), (0, .ref (F.2.1.1 10)), (1, vI x1), (3, vI x3)] d_Md_canBe_54 rfl hm (by decide) rfl ?_
          refine r_iinc ok 3 (x3 + 1) [(3, vI (x3 + 1)), (2, vI 1), (0, .ref (F.2.1.1 10)), (1, vI x1)] d_Md_canBe_55 rfl rfl hm (by decide) rfl ?_
          refine r_goto ok 12 d_Md_canBe_58 (by decide) ?_
          exact r_sub [2, 3, 1, 0] rfl h
set_option maxHeartbeats 4000000 in
set_option maxRecDepth 100000 in
theorem K_Md_canBe_e {F : FT} (hD : ∀ σ, va_D F.2.2.1 (GW F.2.1 σ)) (hm : F.2.2.2.2.2.2.2.2.2.2.2.2.2.2.1 = 4) (ok : OkF F prog_12_method_40_code "LastSeenModel" ({ frames := 0, cells := 0, slots := 0, locals := 0 } : Room)) {Q : Int → SS → Prop} (hQ : RetZ F Q) {x1 : Int} {s : SS} (h : B_Md_canBe_e Q (fun x1 x2 x3 s => AtS F 12 [(0, .ref (F.2.1.1 10)), (1, vI x1), (2, vI x2), (3, vI x3)] [] s) x1 s) : AtS F 0 [(0, .ref (F.2.1.1 10)), (1, vI x1)] [] s := by
  unfold B_Md_canBe_e at h
  refine r_iload_n ok 1 d_Md_canBe_0 rfl rfl ?_
  refine r_if_ne ok 8 d_Md_canBe_1 (by decide) h.1 (fun c => ?_) (fun c => ?_)
  · replace h := h.2.1 c
    refine r_iconst ok 0 d_Md_canBe_8 rfl ?_
    refine r_istore_n ok [(2, vI 0), (0, .ref (F.2.1.1 10)), (1, vI x1)] d_Md_canBe_9 rfl hm (by decide) rfl ?_
    refine r_iconst ok 0 d_Md_canBe_10 rfl ?_
    refine r_istore_n ok [(3, vI 0), (2, vI 0), (0, .ref (F.2.1.1 10)), (1, vI x1)] d_Md_canBe_11 rfl hm (by decide) rfl ?_
    exact r_sub [2, 3, 1, 0] rfl h
  · replace h := h.2.2 c
    refine r_iconst ok 1 d_Md_canBe_4 rfl ?_
    refine r_goto ok 9 d_Md_canBe_5 (by decide) ?_
    refine r_istore_n ok [(2, vI 1), (0, .ref (F.2.1.1 10)), (1, vI x1)] d_Md_canBe_9 rfl hm (by decide) rfl ?_
    refine r_iconst ok 0 d_Md_canBe_10 rfl ?_
    refine r_istore_n ok [(3, vI 0), (2, vI 1), (0, .ref (F.2.1.1 10)), (1, vI x1)] d_Md_canBe_11 rfl hm (by decide) rfl ?_
    exact r_sub [2, 3, 1, 0] rfl h
theorem L_Md_canBe (l : Launch) (G : GE) (A : Nat → Prop) (hD : ∀ σ, va_D A (GW G σ)) {x1 : Int} {s : SS} {Q : Int → SS → Prop} (h : Sp_Md_canBe x1 s Q) : Met l y_Md_canBe (Cond.code y_Md_canBe prog_12_method_40_code 4 (some .boolean) :: lw_ok) ({ frames := 0, cells := 0, slots := 0, locals := 0 } : Room) (va_Pc [.ref (G.1 10), vI x1] (gB G s)) (va_Qi (fun (r : Int32) (s2 : SS) => ∃ x : Int, r = iI x ∧ Q x s2) (fun s2 t => gB G s2 t) A) 0 0 A := by
  refine met_z hD (by decide) ⟨rfl, rfl⟩ (Nat.le_of_ble_eq_true rfl) (lv := [(0, .ref (G.1 10)), (1, vI x1)]) rfl (fun F h1 h2 h3 hm ok hQ => ?_)
  subst h1 h2 h3
  have hDF := hD
  exact K_Md_canBe_e hDF hm ok hQ (h _ (fun _ _ _ _ hb => K_Md_canBe_12 hDF hm ok hQ hb))
theorem d_Md_canAll_0 : decode prog_12_method_41_code 0 = .ok (.aload_n 0, 1) := by decide +kernel
theorem d_Md_canAll_1 : decode prog_12_method_41_code 1 = .ok (.invokevirtual 305, 3) := by decide +kernel
theorem d_Md_canAll_4 : decode prog_12_method_41_code 4 = .ok (.aload_n 0, 1) := by decide +kernel
theorem d_Md_canAll_5 : decode prog_12_method_41_code 5 = .ok (.invokevirtual 308, 3) := by decide +kernel
theorem d_Md_canAll_8 : decode prog_12_method_41_code 8 = .ok (.aload_n 0, 1) := by decide +kernel
theorem d_Md_canAll_9 : decode prog_12_method_41_code 9 = .ok (.iconst 1, 1) := by decide +kernel
theorem d_Md_canAll_10 : decode prog_12_method_41_code 10 = .ok (.aload_n 0, 1) := by decide +kernel
theorem d_Md_canAll_11 : decode prog_12_method_41_code 11 = .ok (.getfield 299, 3) := by decide +kernel
theorem d_Md_canAll_14 : decode prog_12_method_41_code 14 = .ok (.ishl, 1) := by decide +kernel
theorem d_Md_canAll_15 : decode prog_12_method_41_code 15 = .ok (.iconst 1, 1) := by decide +kernel
theorem d_Md_canAll_16 : decode prog_12_method_41_code 16 = .ok (.isub, 1) := by decide +kernel
theorem d_Md_canAll_17 : decode prog_12_method_41_code 17 = .ok (.invokevirtual 311, 3) := by decide +kernel
theorem d_Md_canAll_20 : decode prog_12_method_41_code 20 = .ok (.ireturn, 1) := by decide +kernel
set_option maxHeartbeats 4000000 in
set_option maxRecDepth 100000 in
theorem K_Md_canAll_e {F : FT} (hD : ∀ σ, va_D F.2.2.1 (GW F.2.1 σ)) (hm : F.2.2.2.2.2.2.2.2.2.2.2.2.2.2.1 = 1) (ok : OkF F prog_12_method_41_code "LastSeenModel" ({ frames := 2, cells := 0, slots := 0, locals := 51 } : Room)) {Q : Int → SS → Prop} (hQ : RetZ F Q) {s : SS} (h : Sp_Md_canAll  s Q) : AtS F 0 [(0, .ref (F.2.1.1 10))] [] s := by
  unfold Sp_Md_canAll at h
  refine r_aload_n ok 0 d_Md_canAll_0 rfl rfl ?_
  refine r_callVv (As := []) (rest := []) ok 10 rfl rfl rfl wl_Md_305 wi_y_Md_takesRoots ws_y_Md_takesRoots wn_Md wc_y_Md_takesRoots (by decide) (by decide) hh_Md_takesRoots (Nat.le_of_ble_eq_true rfl) rfl d_Md_canAll_1 (L_Md_takesRoots F.1 F.2.1 F.2.2.1 hD h) (fun s1 h => ?_)
  refine r_aload_n ok 0 d_Md_canAll_4 rfl rfl ?_
  refine r_callVv (As := []) (rest := []) ok 10 rfl rfl rfl wl_Md_308 wi_y_Md_fillEarliest ws_y_Md_fillEarliest wn_Md wc_y_Md_fillEarliest (by decide) (by decide) hh_Md_fillEarliest (Nat.le_of_ble_eq_true rfl) rfl d_Md_canAll_5 (L_Md_fillEarliest F.1 F.2.1 F.2.2.1 hD h) (fun s2 h => ?_)
  refine r_aload_n ok 0 d_Md_canAll_8 rfl rfl ?_
  refine r_iconst ok 1 d_Md_canAll_9 rfl ?_
  refine r_aload_n ok 0 d_Md_canAll_10 rfl rfl ?_
  refine g_Md_items ok d_Md_canAll_11 ?_
  refine r_ishl ok d_Md_canAll_14 ?_
  refine r_iconst ok 1 d_Md_canAll_15 rfl ?_
  refine r_isub ok d_Md_canAll_16 ?_
  refine r_callVi (As := [vI ((shl 1 (s2.1 38)) - 1)]) (rest := []) ok 10 rfl rfl rfl wl_Md_311 wi_y_Md_canBe ws_y_Md_canBe wn_Md wc_y_Md_canBe (by decide) (by decide) hh_Md_canBe (Nat.le_of_ble_eq_true rfl) rfl d_Md_canAll_17 (L_Md_canBe F.1 F.2.1 F.2.2.1 hD h) (fun r4 s3 h => ?_)
  exact hQ _ _ _ _ _ (ok_code ok) d_Md_canAll_20 h.1 h.2
theorem L_Md_canAll (l : Launch) (G : GE) (A : Nat → Prop) (hD : ∀ σ, va_D A (GW G σ)) {s : SS} {Q : Int → SS → Prop} (h : Sp_Md_canAll  s Q) : Met l y_Md_canAll (Cond.code y_Md_canAll prog_12_method_41_code 1 (some .boolean) :: lw_ok) ({ frames := 2, cells := 0, slots := 0, locals := 51 } : Room) (va_Pc [.ref (G.1 10)] (gB G s)) (va_Qi (fun (r : Int32) (s2 : SS) => ∃ x : Int, r = iI x ∧ Q x s2) (fun s2 t => gB G s2 t) A) 0 0 A := by
  refine met_z hD (by decide) ⟨rfl, rfl⟩ (Nat.le_of_ble_eq_true rfl) (lv := [(0, .ref (G.1 10))]) rfl (fun F h1 h2 h3 hm ok hQ => ?_)
  subst h1 h2 h3
  have hDF := hD
  exact K_Md_canAll_e hDF hm ok hQ h
theorem d_Md_can_0 : decode prog_12_method_42_code 0 = .ok (.aload_n 0, 1) := by decide +kernel
theorem d_Md_can_1 : decode prog_12_method_42_code 1 = .ok (.iload_n 1, 1) := by decide +kernel
theorem d_Md_can_2 : decode prog_12_method_42_code 2 = .ok (.iload_n 2, 1) := by decide +kernel
theorem d_Md_can_3 : decode prog_12_method_42_code 3 = .ok (.invokevirtual 269, 3) := by decide +kernel
theorem d_Md_can_6 : decode prog_12_method_42_code 6 = .ok (.ifCond .ne 5, 3) := by decide +kernel
theorem d_Md_can_9 : decode prog_12_method_42_code 9 = .ok (.iconst (-1), 1) := by decide +kernel
theorem d_Md_can_10 : decode prog_12_method_42_code 10 = .ok (.ireturn, 1) := by decide +kernel
theorem d_Md_can_11 : decode prog_12_method_42_code 11 = .ok (.aload_n 0, 1) := by decide +kernel
theorem d_Md_can_12 : decode prog_12_method_42_code 12 = .ok (.aload_n 0, 1) := by decide +kernel
theorem d_Md_can_13 : decode prog_12_method_42_code 13 = .ok (.getfield 50, 3) := by decide +kernel
theorem d_Md_can_16 : decode prog_12_method_42_code 16 = .ok (.iload_n 1, 1) := by decide +kernel
theorem d_Md_can_17 : decode prog_12_method_42_code 17 = .ok (.iaload, 1) := by decide +kernel
theorem d_Md_can_18 : decode prog_12_method_42_code 18 = .ok (.invokevirtual 290, 3) := by decide +kernel
theorem d_Md_can_21 : decode prog_12_method_42_code 21 = .ok (.aload_n 0, 1) := by decide +kernel
theorem d_Md_can_22 : decode prog_12_method_42_code 22 = .ok (.invokevirtual 314, 3) := by decide +kernel
theorem d_Md_can_25 : decode prog_12_method_42_code 25 = .ok (.ifCond .eq 7, 3) := by decide +kernel
theorem d_Md_can_28 : decode prog_12_method_42_code 28 = .ok (.iconst 1, 1) := by decide +kernel
theorem d_Md_can_29 : decode prog_12_method_42_code 29 = .ok (.goto 4, 3) := by decide +kernel
theorem d_Md_can_32 : decode prog_12_method_42_code 32 = .ok (.iconst 0, 1) := by decide +kernel
theorem d_Md_can_33 : decode prog_12_method_42_code 33 = .ok (.ireturn, 1) := by decide +kernel
set_option maxHeartbeats 4000000 in
set_option maxRecDepth 100000 in
theorem K_Md_can_e {F : FT} (hD : ∀ σ, va_D F.2.2.1 (GW F.2.1 σ)) (hm : F.2.2.2.2.2.2.2.2.2.2.2.2.2.2.1 = 3) (ok : OkF F prog_12_method_42_code "LastSeenModel" ({ frames := 3, cells := 0, slots := 0, locals := 71 } : Room)) {Q : Int → SS → Prop} (hQ : RetI F Q) {x1 x2 : Int} {s : SS} (h : Sp_Md_can x1 x2 s Q) : AtS F 0 [(0, .ref (F.2.1.1 10)), (1, vI x1), (2, vI x2)] [] s := by
  unfold Sp_Md_can at h
  refine r_aload_n ok 0 d_Md_can_0 rfl rfl ?_
  refine r_iload_n ok 1 d_Md_can_1 rfl rfl ?_
  refine r_iload_n ok 2 d_Md_can_2 rfl rfl ?_
  refine r_callVi (As := [vI x1, vI x2]) (rest := []) ok 10 rfl rfl rfl wl_Md_269 wi_y_Md_isThere ws_y_Md_isThere wn_Md wc_y_Md_isThere (by decide) (by decide) hh_Md_isThere (Nat.le_of_ble_eq_true rfl) rfl d_Md_can_3 (L_Md_isThere F.1 F.2.1 F.2.2.1 hD h) (fun r2 s1 h => ?_)
  refine r_if_ne ok 11 d_Md_can_6 (by decide) h.1 (fun c => ?_) (fun c => ?_)
  · replace h := h.2.1 c
    refine r_aload_n ok 0 d_Md_can_11 rfl rfl ?_
    refine r_aload_n ok 0 d_Md_can_12 rfl rfl ?_
    refine g_Md_person ok d_Md_can_13 ?_
    refine r_iload_n ok 1 d_Md_can_16 rfl rfl ?_
    refine r_iald ok 72 d_Md_can_17 (by decide) rfl h.1 ?_
    replace h := h.2
    refine r_callVv (As := [vI (s1.2 72 x1)]) (rest := []) ok 10 rfl rfl rfl wl_Md_290 wi_y_Md_findRoots ws_y_Md_findRoots wn_Md wc_y_Md_findRoots (by decide) (by decide) hh_Md_findRoots (Nat.le_of_ble_eq_true rfl) rfl d_Md_can_18 (L_Md_findRoots F.1 F.2.1 F.2.2.1 hD h) (fun s3 h => ?_)
    refine r_aload_n ok 0 d_Md_can_21 rfl rfl ?_
    refine r_callVi (As := []) (rest := []) ok 10 rfl rfl rfl wl_Md_314 wi_y_Md_canAll ws_y_Md_canAll wn_Md wc_y_Md_canAll (by decide) (by decide) hh_Md_canAll (Nat.le_of_ble_eq_true rfl) rfl d_Md_can_22 (L_Md_canAll F.1 F.2.1 F.2.2.1 hD h) (fun r5 s4 h => ?_)
    refine r_if_eq ok 32 d_Md_can_25 (by decide) h.1 (fun c => ?_) (fun c => ?_)
    · replace h := h.2.1 c
      refine r_iconst ok 0 d_Md_can_32 rfl ?_
      exact hQ _ _ _ _ _ (ok_code ok) d_Md_can_33 h
    · replace h := h.2.2 c
      refine r_iconst ok 1 d_Md_can_28 rfl ?_
      refine r_goto ok 33 d_Md_can_29 (by decide) ?_
      exact hQ _ _ _ _ _ (ok_code ok) d_Md_can_33 h
  · replace h := h.2.2 c
    refine r_iconst ok (-1) d_Md_can_9 rfl ?_
    exact hQ _ _ _ _ _ (ok_code ok) d_Md_can_10 h
theorem L_Md_can (l : Launch) (G : GE) (A : Nat → Prop) (hD : ∀ σ, va_D A (GW G σ)) {x1 x2 : Int} {s : SS} {Q : Int → SS → Prop} (h : Sp_Md_can x1 x2 s Q) : Met l y_Md_can (Cond.code y_Md_can prog_12_method_42_code 3 (some .int) :: lw_ok) ({ frames := 3, cells := 0, slots := 0, locals := 71 } : Room) (va_Pc [.ref (G.1 10), vI x1, vI x2] (gB G s)) (va_Qi (fun (r : Int32) (s2 : SS) => ∃ x : Int, r = iI x ∧ Q x s2) (fun s2 t => gB G s2 t) A) 0 0 A := by
  refine met_i hD (by decide) ⟨rfl, rfl⟩ (Nat.le_of_ble_eq_true rfl) (lv := [(0, .ref (G.1 10)), (1, vI x1), (2, vI x2)]) rfl (fun F h1 h2 h3 hm ok hQ => ?_)
  subst h1 h2 h3
  have hDF := hD
  exact K_Md_can_e hDF hm ok hQ h
theorem d_Md_quarrel_0 : decode prog_12_method_43_code 0 = .ok (.iload_n 3, 1) := by decide +kernel
theorem d_Md_quarrel_1 : decode prog_12_method_43_code 1 = .ok (.iconst (-1), 1) := by decide +kernel
theorem d_Md_quarrel_2 : decode prog_12_method_43_code 2 = .ok (.if_icmp .lt 12, 3) := by decide +kernel
theorem d_Md_quarrel_5 : decode prog_12_method_43_code 5 = .ok (.aload_n 0, 1) := by decide +kernel
theorem d_Md_quarrel_6 : decode prog_12_method_43_code 6 = .ok (.iload_n 1, 1) := by decide +kernel
theorem d_Md_quarrel_7 : decode prog_12_method_43_code 7 = .ok (.iload_n 2, 1) := by decide +kernel
theorem d_Md_quarrel_8 : decode prog_12_method_43_code 8 = .ok (.invokevirtual 269, 3) := by decide +kernel
theorem d_Md_quarrel_11 : decode prog_12_method_43_code 11 = .ok (.ifCond .ne 5, 3) := by decide +kernel
theorem d_Md_quarrel_14 : decode prog_12_method_43_code 14 = .ok (.iconst (-1), 1) := by decide +kernel
theorem d_Md_quarrel_15 : decode prog_12_method_43_code 15 = .ok (.ireturn, 1) := by decide +kernel
theorem d_Md_quarrel_16 : decode prog_12_method_43_code 16 = .ok (.aload_n 0, 1) := by decide +kernel
theorem d_Md_quarrel_17 : decode prog_12_method_43_code 17 = .ok (.aload_n 0, 1) := by decide +kernel
theorem d_Md_quarrel_18 : decode prog_12_method_43_code 18 = .ok (.getfield 50, 3) := by decide +kernel
theorem d_Md_quarrel_21 : decode prog_12_method_43_code 21 = .ok (.iload_n 1, 1) := by decide +kernel
theorem d_Md_quarrel_22 : decode prog_12_method_43_code 22 = .ok (.iaload, 1) := by decide +kernel
theorem d_Md_quarrel_23 : decode prog_12_method_43_code 23 = .ok (.invokevirtual 290, 3) := by decide +kernel
theorem d_Md_quarrel_26 : decode prog_12_method_43_code 26 = .ok (.aload_n 0, 1) := by decide +kernel
theorem d_Md_quarrel_27 : decode prog_12_method_43_code 27 = .ok (.invokevirtual 314, 3) := by decide +kernel
theorem d_Md_quarrel_30 : decode prog_12_method_43_code 30 = .ok (.ifCond .eq 6, 3) := by decide +kernel
theorem d_Md_quarrel_33 : decode prog_12_method_43_code 33 = .ok (.bipush (-3), 2) := by decide +kernel
theorem d_Md_quarrel_35 : decode prog_12_method_43_code 35 = .ok (.ireturn, 1) := by decide +kernel
theorem d_Md_quarrel_36 : decode prog_12_method_43_code 36 = .ok (.iconst 0, 1) := by decide +kernel
theorem d_Md_quarrel_37 : decode prog_12_method_43_code 37 = .ok (.istore 4, 2) := by decide +kernel
theorem d_Md_quarrel_39 : decode prog_12_method_43_code 39 = .ok (.iconst 1, 1) := by decide +kernel
theorem d_Md_quarrel_40 : decode prog_12_method_43_code 40 = .ok (.istore 5, 2) := by decide +kernel
theorem d_Md_quarrel_42 : decode prog_12_method_43_code 42 = .ok (.iload 5, 2) := by decide +kernel
theorem d_Md_quarrel_44 : decode prog_12_method_43_code 44 = .ok (.iconst 1, 1) := by decide +kernel
theorem d_Md_quarrel_45 : decode prog_12_method_43_code 45 = .ok (.aload_n 0, 1) := by decide +kernel
theorem d_Md_quarrel_46 : decode prog_12_method_43_code 46 = .ok (.getfield 299, 3) := by decide +kernel
theorem d_Md_quarrel_49 : decode prog_12_method_43_code 49 = .ok (.ishl, 1) := by decide +kernel
theorem d_Md_quarrel_50 : decode prog_12_method_43_code 50 = .ok (.if_icmp .ge 40, 3) := by decide +kernel
theorem d_Md_quarrel_53 : decode prog_12_method_43_code 53 = .ok (.aload_n 0, 1) := by decide +kernel
theorem d_Md_quarrel_54 : decode prog_12_method_43_code 54 = .ok (.iload 5, 2) := by decide +kernel
theorem d_Md_quarrel_56 : decode prog_12_method_43_code 56 = .ok (.invokevirtual 311, 3) := by decide +kernel
theorem d_Md_quarrel_59 : decode prog_12_method_43_code 59 = .ok (.ifCond .ne 25, 3) := by decide +kernel
theorem d_Md_quarrel_62 : decode prog_12_method_43_code 62 = .ok (.iload 4, 2) := by decide +kernel
theorem d_Md_quarrel_64 : decode prog_12_method_43_code 64 = .ok (.ifCond .eq 16, 3) := by decide +kernel
theorem d_Md_quarrel_67 : decode prog_12_method_43_code 67 = .ok (.iload 5, 2) := by decide +kernel
theorem d_Md_quarrel_69 : decode prog_12_method_43_code 69 = .ok (.invokestatic 293, 3) := by decide +kernel
theorem d_Md_quarrel_72 : decode prog_12_method_43_code 72 = .ok (.iload 4, 2) := by decide +kernel
theorem d_Md_quarrel_74 : decode prog_12_method_43_code 74 = .ok (.invokestatic 293, 3) := by decide +kernel
theorem d_Md_quarrel_77 : decode prog_12_method_43_code 77 = .ok (.if_icmp .ge 7, 3) := by decide +kernel
theorem d_Md_quarrel_80 : decode prog_12_method_43_code 80 = .ok (.iload 5, 2) := by decide +kernel
theorem d_Md_quarrel_82 : decode prog_12_method_43_code 82 = .ok (.istore 4, 2) := by decide +kernel
theorem d_Md_quarrel_84 : decode prog_12_method_43_code 84 = .ok (.iinc 5 1, 3) := by decide +kernel
theorem d_Md_quarrel_87 : decode prog_12_method_43_code 87 = .ok (.goto (-45), 3) := by decide +kernel
theorem d_Md_quarrel_90 : decode prog_12_method_43_code 90 = .ok (.iload_n 3, 1) := by decide +kernel
theorem d_Md_quarrel_91 : decode prog_12_method_43_code 91 = .ok (.iconst (-1), 1) := by decide +kernel
theorem d_Md_quarrel_92 : decode prog_12_method_43_code 92 = .ok (.if_icmp .ne 9, 3) := by decide +kernel
theorem d_Md_quarrel_95 : decode prog_12_method_43_code 95 = .ok (.iload 4, 2) := by decide +kernel
theorem d_Md_quarrel_97 : decode prog_12_method_43_code 97 = .ok (.invokestatic 293, 3) := by decide +kernel
theorem d_Md_quarrel_100 : decode prog_12_method_43_code 100 = .ok (.ireturn, 1) := by decide +kernel
theorem d_Md_quarrel_101 : decode prog_12_method_43_code 101 = .ok (.iload_n 3, 1) := by decide +kernel
theorem d_Md_quarrel_102 : decode prog_12_method_43_code 102 = .ok (.istore 5, 2) := by decide +kernel
theorem d_Md_quarrel_104 : decode prog_12_method_43_code 104 = .ok (.iconst 0, 1) := by decide +kernel
theorem d_Md_quarrel_105 : decode prog_12_method_43_code 105 = .ok (.istore 6, 2) := by decide +kernel
theorem d_Md_quarrel_107 : decode prog_12_method_43_code 107 = .ok (.iload 6, 2) := by decide +kernel
theorem d_Md_quarrel_109 : decode prog_12_method_43_code 109 = .ok (.aload_n 0, 1) := by decide +kernel
theorem d_Md_quarrel_110 : decode prog_12_method_43_code 110 = .ok (.getfield 299, 3) := by decide +kernel
theorem d_Md_quarrel_113 : decode prog_12_method_43_code 113 = .ok (.if_icmp .ge 42, 3) := by decide +kernel
theorem d_Md_quarrel_116 : decode prog_12_method_43_code 116 = .ok (.iload_n 3, 1) := by decide +kernel
theorem d_Md_quarrel_117 : decode prog_12_method_43_code 117 = .ok (.ifCond .lt 38, 3) := by decide +kernel
theorem d_Md_quarrel_120 : decode prog_12_method_43_code 120 = .ok (.iload 4, 2) := by decide +kernel
theorem d_Md_quarrel_122 : decode prog_12_method_43_code 122 = .ok (.iload 6, 2) := by decide +kernel
theorem d_Md_quarrel_124 : decode prog_12_method_43_code 124 = .ok (.ishr, 1) := by decide +kernel
theorem d_Md_quarrel_125 : decode prog_12_method_43_code 125 = .ok (.iconst 1, 1) := by decide +kernel
theorem d_Md_quarrel_126 : decode prog_12_method_43_code 126 = .ok (.iand, 1) := by decide +kernel
theorem d_Md_quarrel_127 : decode prog_12_method_43_code 127 = .ok (.ifCond .ne 6, 3) := by decide +kernel
theorem d_Md_quarrel_130 : decode prog_12_method_43_code 130 = .ok (.goto 19, 3) := by decide +kernel
theorem d_Md_quarrel_133 : decode prog_12_method_43_code 133 = .ok (.iload 5, 2) := by decide +kernel
theorem d_Md_quarrel_135 : decode prog_12_method_43_code 135 = .ok (.ifCond .ne 11, 3) := by decide +kernel
theorem d_Md_quarrel_138 : decode prog_12_method_43_code 138 = .ok (.aload_n 0, 1) := by decide +kernel
theorem d_Md_quarrel_139 : decode prog_12_method_43_code 139 = .ok (.getfield 80, 3) := by decide +kernel
theorem d_Md_quarrel_142 : decode prog_12_method_43_code 142 = .ok (.iload 6, 2) := by decide +kernel
theorem d_Md_quarrel_144 : decode prog_12_method_43_code 144 = .ok (.iaload, 1) := by decide +kernel
theorem d_Md_quarrel_145 : decode prog_12_method_43_code 145 = .ok (.ireturn, 1) := by decide +kernel
theorem d_Md_quarrel_146 : decode prog_12_method_43_code 146 = .ok (.iinc 5 (-1), 3) := by decide +kernel
theorem d_Md_quarrel_149 : decode prog_12_method_43_code 149 = .ok (.iinc 6 1, 3) := by decide +kernel
theorem d_Md_quarrel_152 : decode prog_12_method_43_code 152 = .ok (.goto (-45), 3) := by decide +kernel
theorem d_Md_quarrel_155 : decode prog_12_method_43_code 155 = .ok (.iconst (-1), 1) := by decide +kernel
theorem d_Md_quarrel_156 : decode prog_12_method_43_code 156 = .ok (.ireturn, 1) := by decide +kernel
set_option maxHeartbeats 4000000 in
set_option maxRecDepth 100000 in
theorem K_Md_quarrel_42 {F : FT} (hD : ∀ σ, va_D F.2.2.1 (GW F.2.1 σ)) (hm : F.2.2.2.2.2.2.2.2.2.2.2.2.2.2.1 = 7) (ok : OkF F prog_12_method_43_code "LastSeenModel" ({ frames := 3, cells := 0, slots := 0, locals := 71 } : Room)) {Q : Int → SS → Prop} (hQ : RetI F Q) {x3 x4 x5 : Int} {s : SS} (h : B_Md_quarrel_42 Q (fun x3 x4 x5 s => AtS F 42 [(0, .ref (F.2.1.1 10)), (3, vI x3), (4, vI x4), (5, vI x5)] [] s) (fun x3 x4 x5 x6 s => AtS F 107 [(0, .ref (F.2.1.1 10)), (3, vI x3), (4, vI x4), (5, vI x5), (6, vI x6)] [] s) x3 x4 x5 s) : AtS F 42 [(0, .ref (F.2.1.1 10)), (3, vI x3), (4, vI x4), (5, vI x5)] [] s := by
  unfold B_Md_quarrel_42 at h
  refine r_iload ok 3 d_Md_quarrel_42 rfl ?_
  refine r_iconst ok 1 d_Md_quarrel_44 rfl ?_
  refine r_aload_n ok 0 d_Md_quarrel_45 rfl rfl ?_
  refine g_Md_items ok d_Md_quarrel_46 ?_
  refine r_ishl ok d_Md_quarrel_49 ?_
  refine r_icmp_ge ok 90 d_Md_quarrel_50 (by decide) h.1 h.2.1 (fun c => ?_) (fun c => ?_)
  · replace h := h.2.2.1 c
    refine r_iload_n ok 1 d_Md_quarrel_90 rfl rfl ?_
    refine r_iconst ok (-1) d_Md_quarrel_91 rfl ?_
    refine r_icmp_ne ok 101 d_Md_quarrel_92 (by decide) h.1 (by decide) (fun c => ?_) (fun c => ?_)
    · replace h := h.2.1 c
      refine r_iload_n ok 1 d_Md_quarrel_101 rfl rfl ?_
      refine r_istore ok [(5, vI x3), (0, .ref (F.2.1.1 10)), (3, vI x3), (4, vI x4)] d_Md_quarrel_102 hm (by decide) rfl ?_
      refine r_iconst ok 0 d_Md_quarrel_104 rfl ?_
      refine r_istore ok [(6, vI 0), (5, vI x3), (0, .ref (F.2.1.1 10)), (3, vI x3), (4, vI x4)] d_Md_quarrel_105 hm (by decide) rfl ?_
      exact r_sub [2, 3, 4, 1, 0] rfl h
    · replace h := h.2.2 c
      refine r_iload ok 2 d_Md_quarrel_95 rfl ?_
      refine r_callSi (As := [vI x4]) (rest := []) ok wl_Md_293 wt_y_Md_bits wn_Md wc_y_Md_bits (by decide) (by decide) hh_Md_bits (Nat.le_of_ble_eq_true rfl) rfl d_Md_quarrel_97 (L_Md_bits F.1 F.2.1 F.2.2.1 hD h) (fun r7 s6 h => ?_)
      exact hQ _ _ _ _ _ (ok_code ok) d_Md_quarrel_100 h
  · replace h := h.2.2.2 c
    refine r_aload_n ok 0 d_Md_quarrel_53 rfl rfl ?_
    refine r_iload ok 3 d_Md_quarrel_54 rfl ?_
    refine r_callVi (As := [vI x5]) (rest := []) ok 10 rfl rfl rfl wl_Md_311 wi_y_Md_canBe ws_y_Md_canBe wn_Md wc_y_Md_canBe (by decide) (by decide) hh_Md_canBe (Nat.le_of_ble_eq_true rfl) rfl d_Md_quarrel_56 (L_Md_canBe F.1 F.2.1 F.2.2.1 hD h) (fun r9 s8 h => ?_)
    refine r_if_ne ok 84 d_Md_quarrel_59 (by decide) h.1 (fun c => ?_) (fun c => ?_)
    · replace h := h.2.1 c
      refine r_iinc ok 3 (x5 + 1) [(5, vI (x5 + 1)), (0, .ref (F.2.1.1 10)), (3, vI x3), (4, vI x4)] d_Md_quarrel_84 rfl rfl hm (by decide) rfl ?_
      refine r_goto ok 42 d_Md_quarrel_87 (by decide) ?_
      exact r_sub [1, 2, 3, 0] rfl h
    · replace h := h.2.2 c
      refine r_iload ok 2 d_Md_quarrel_62 rfl ?_
      refine r_if_eq ok 80 d_Md_quarrel_64 (by decide) h.1 (fun c => ?_) (fun c => ?_)
      · replace h := h.2.1 c
        refine r_iload ok 3 d_Md_quarrel_80 rfl ?_
        refine r_istore ok [(4, vI x5), (0, .ref (F.2.1.1 10)), (3, vI x3), (5, vI x5)] d_Md_quarrel_82 hm (by decide) rfl ?_
        refine r_iinc ok 3 (x5 + 1) [(5, vI (x5 + 1)), (4, vI x5), (0, .ref (F.2.1.1 10)), (3, vI x3)] d_Md_quarrel_84 rfl rfl hm (by decide) rfl ?_
        refine r_goto ok 42 d_Md_quarrel_87 (by decide) ?_
        exact r_sub [2, 3, 1, 0] rfl h
      · replace h := h.2.2 c
        refine r_iload ok 3 d_Md_quarrel_67 rfl ?_
        refine r_callSi (As := [vI x5]) (rest := []) ok wl_Md_293 wt_y_Md_bits wn_Md wc_y_Md_bits (by decide) (by decide) hh_Md_bits (Nat.le_of_ble_eq_true rfl) rfl d_Md_quarrel_69 (L_Md_bits F.1 F.2.1 F.2.2.1 hD h) (fun r11 s10 h => ?_)
        refine r_iload ok 2 d_Md_quarrel_72 rfl ?_
        refine r_callSi (As := [vI x4]) (rest := [vI r11]) ok wl_Md_293 wt_y_Md_bits wn_Md wc_y_Md_bits (by decide) (by decide) hh_Md_bits (Nat.le_of_ble_eq_true rfl) rfl d_Md_quarrel_74 (L_Md_bits F.1 F.2.1 F.2.2.1 hD h) (fun r13 s12 h => ?_)
        refine r_icmp_ge ok 84 d_Md_quarrel_77 (by decide) h.1 h.2.1 (fun c => ?_) (fun c => ?_)
        · replace h := h.2.2.1 c
          refine r_iinc ok 3 (x5 + 1) [(5, vI (x5 + 1)), (0, .ref (F.2.1.1 10)), (3, vI x3), (4, vI x4)] d_Md_quarrel_84 rfl rfl hm (by decide) rfl ?_
          refine r_goto ok 42 d_Md_quarrel_87 (by decide) ?_
          exact r_sub [1, 2, 3, 0] rfl h
        · replace h := h.2.2.2 c
          refine r_iload ok 3 d_Md_quarrel_80 rfl ?_
          refine r_istore ok [(4, vI x5), (0, .ref (F.2.1.1 10)), (3, vI x3), (5, vI x5)] d_Md_quarrel_82 hm (by decide) rfl ?_
          refine r_iinc ok 3 (x5 + 1) [(5, vI (x5 + 1)), (4, vI x5), (0, .ref (F.2.1.1 10)), (3, vI x3)] d_Md_quarrel_84 rfl rfl hm (by decide) rfl ?_
          refine r_goto ok 42 d_Md_quarrel_87 (by decide) ?_
          exact r_sub [2, 3, 1, 0] rfl h
set_option maxHeartbeats 4000000 in
set_option maxRecDepth 100000 in
theorem K_Md_quarrel_107 {F : FT} (hD : ∀ σ, va_D F.2.2.1 (GW F.2.1 σ)) (hm : F.2.2.2.2.2.2.2.2.2.2.2.2.2.2.1 = 7) (ok : OkF F prog_12_method_43_code "LastSeenModel" ({ frames := 3, cells := 0, slots := 0, locals := 71 } : Room)) {Q : Int → SS → Prop} (hQ : RetI F Q) {x3 x4 x5 x6 : Int} {s : SS} (h : B_Md_quarrel_107 Q (fun x3 x4 x5 s => AtS F 42 [(0, .ref (F.2.1.1 10)), (3, vI x3), (4, vI x4), (5, vI x5)] [] s) (fun x3 x4 x5 x6 s => AtS F 107 [(0, .ref (F.2.1.1 10)), (3, vI x3), (4, vI x4), (5, vI x5), (6, vI x6)] [] s) x3 x4 x5 x6 s) : AtS F 107 [(0, .ref (F.2.1.1 10)), (3, vI x3), (4, vI x4), (5, vI x5), (6, vI x6)] [] s := by
  unfold B_Md_quarrel_107 at h
  refine r_iload ok 4 d_Md_quarrel_107 rfl ?_
  refine r_aload_n ok 0 d_Md_quarrel_109 rfl rfl ?_
  refine g_Md_items ok d_Md_quarrel_110 ?_
  refine r_icmp_ge ok 155 d_Md_quarrel_113 (by decide) h.1 h.2.1 (fun c => ?_) (fun c => ?_)
  · replace h := h.2.2.1 c
    refine r_iconst ok (-1) d_Md_quarrel_155 rfl ?_
    exact hQ _ _ _ _ _ (ok_code ok) d_Md_quarrel_156 h
  · replace h := h.2.2.2 c
    refine r_iload_n ok 1 d_Md_quarrel_116 rfl rfl ?_
    refine r_if_lt ok 155 d_Md_quarrel_117 (by decide) h.1 (fun c => ?_) (fun c => ?_)
    · replace h := h.2.1 c
      refine r_iconst ok (-1) d_Md_quarrel_155 rfl ?_
      exact hQ _ _ _ _ _ (ok_code ok) d_Md_quarrel_156 h
    · replace h := h.2.2 c
      refine r_iload ok 2 d_Md_quarrel_120 rfl ?_
      refine r_iload ok 4 d_Md_quarrel_122 rfl ?_
      refine r_ishr ok d_Md_quarrel_124 ?_
      refine r_iconst ok 1 d_Md_quarrel_125 rfl ?_
      refine r_iand ok d_Md_quarrel_126 ?_
      refine r_if_ne ok 133 d_Md_quarrel_127 (by decide) h.1 (fun c => ?_) (fun c => ?_)
      · replace h := h.2.1 c
        refine r_iload ok 3 d_Md_quarrel_133 rfl ?_
        refine r_if_ne ok 146 d_Md_quarrel_135 (by decide) h.1 (fun c => ?_) (fun c => ?_)
        · replace h := h.2.1 c
          refine r_iinc ok 3 (x5 + (-1)) [(5, vI (x5 + (-1))), (0, .ref (F.2.1.1 10)), (3, vI x3), (4, vI x4), (6, vI x6)] d_Md_quarrel_146 rfl rfl hm (by decide) rfl ?_
          refine r_iinc ok 4 (x6 + 1) [(6, vI (x6 + 1)), (5, vI (x5 + (-1))), (0, .ref (F.2.1.1 10)), (3, vI x3), (4, vI x4)] d_Md_quarrel_149 rfl rfl hm (by decide) rfl ?_
          refine r_goto ok 107 d_Md_quarrel_152 (by decide) ?_
          exact r_sub [2, 3, 4, 1, 0] rfl h
        · replace h := h.2.2 c
          refine r_aload_n ok 0 d_Md_quarrel_138 rfl rfl ?_
          refine g_Md_root ok d_Md_quarrel_139 ?_
          refine r_iload ok 4 d_Md_quarrel_142 rfl ?_
          refine r_iald ok 82 d_Md_quarrel_144 (by decide) rfl h.1 ?_
          replace h := h.2
          exact hQ _ _ _ _ _ (ok_code ok) d_Md_quarrel_145 h
      · replace h := h.2.2 c
        refine r_goto ok 149 d_Md_quarrel_130 (by decide) ?_
        refine r_iinc ok 4 (x6 + 1) [(6, vI (x6 + 1)), (0, .ref (F.2.1.1 10)), (3, vI x3), (4, vI x4), (5, vI x5)] d_Md_quarrel_149 rfl rfl hm (by decide) rfl ?_
        refine r_goto ok 107 d_Md_quarrel_152 (by decide) ?_
        exact r_sub [1, 2, 3, 4, 0] rfl h
set_option maxHeartbeats 4000000 in
set_option maxRecDepth 100000 in
theorem K_Md_quarrel_e {F : FT} (hD : ∀ σ, va_D F.2.2.1 (GW F.2.1 σ)) (hm : F.2.2.2.2.2.2.2.2.2.2.2.2.2.2.1 = 7) (ok : OkF F prog_12_method_43_code "LastSeenModel" ({ frames := 3, cells := 0, slots := 0, locals := 71 } : Room)) {Q : Int → SS → Prop} (hQ : RetI F Q) {x1 x2 x3 : Int} {s : SS} (h : B_Md_quarrel_e Q (fun x3 x4 x5 s => AtS F 42 [(0, .ref (F.2.1.1 10)), (3, vI x3), (4, vI x4), (5, vI x5)] [] s) (fun x3 x4 x5 x6 s => AtS F 107 [(0, .ref (F.2.1.1 10)), (3, vI x3), (4, vI x4), (5, vI x5), (6, vI x6)] [] s) x1 x2 x3 s) : AtS F 0 [(0, .ref (F.2.1.1 10)), (1, vI x1), (2, vI x2), (3, vI x3)] [] s := by
  unfold B_Md_quarrel_e at h
  refine r_iload_n ok 3 d_Md_quarrel_0 rfl rfl ?_
  refine r_iconst ok (-1) d_Md_quarrel_1 rfl ?_
  refine r_icmp_lt ok 14 d_Md_quarrel_2 (by decide) h.1 (by decide) (fun c => ?_) (fun c => ?_)
  · replace h := h.2.1 c
    refine r_iconst ok (-1) d_Md_quarrel_14 rfl ?_
    exact hQ _ _ _ _ _ (ok_code ok) d_Md_quarrel_15 h
  · replace h := h.2.2 c
    refine r_aload_n ok 0 d_Md_quarrel_5 rfl rfl ?_
    refine r_iload_n ok 1 d_Md_quarrel_6 rfl rfl ?_
    refine r_iload_n ok 2 d_Md_quarrel_7 rfl rfl ?_
    refine r_callVi (As := [vI x1, vI x2]) (rest := []) ok 10 rfl rfl rfl wl_Md_269 wi_y_Md_isThere ws_y_Md_isThere wn_Md wc_y_Md_isThere (by decide) (by decide) hh_Md_isThere (Nat.le_of_ble_eq_true rfl) rfl d_Md_quarrel_8 (L_Md_isThere F.1 F.2.1 F.2.2.1 hD h) (fun r2 s1 h => ?_)
    refine r_if_ne ok 16 d_Md_quarrel_11 (by decide) h.1 (fun c => ?_) (fun c => ?_)
    · replace h := h.2.1 c
      refine r_aload_n ok 0 d_Md_quarrel_16 rfl rfl ?_
      refine r_aload_n ok 0 d_Md_quarrel_17 rfl rfl ?_
      refine g_Md_person ok d_Md_quarrel_18 ?_
      refine r_iload_n ok 1 d_Md_quarrel_21 rfl rfl ?_
      refine r_iald ok 72 d_Md_quarrel_22 (by decide) rfl h.1 ?_
      replace h := h.2
      refine r_callVv (As := [vI (s1.2 72 x1)]) (rest := []) ok 10 rfl rfl rfl wl_Md_290 wi_y_Md_findRoots ws_y_Md_findRoots wn_Md wc_y_Md_findRoots (by decide) (by decide) hh_Md_findRoots (Nat.le_of_ble_eq_true rfl) rfl d_Md_quarrel_23 (L_Md_findRoots F.1 F.2.1 F.2.2.1 hD h) (fun s3 h => ?_)
      refine r_aload_n ok 0 d_Md_quarrel_26 rfl rfl ?_
      refine r_callVi (As := []) (rest := []) ok 10 rfl rfl rfl wl_Md_314 wi_y_Md_canAll ws_y_Md_canAll wn_Md wc_y_Md_canAll (by decide) (by decide) hh_Md_canAll (Nat.le_of_ble_eq_true rfl) rfl d_Md_quarrel_27 (L_Md_canAll F.1 F.2.1 F.2.2.1 hD h) (fun r5 s4 h => ?_)
      refine r_if_eq ok 36 d_Md_quarrel_30 (by decide) h.1 (fun c => ?_) (fun c => ?_)
      · replace h := h.2.1 c
        refine r_iconst ok 0 d_Md_quarrel_36 rfl ?_
        refine r_istore ok [(4, vI 0), (0, .ref (F.2.1.1 10)), (1, vI x1), (2, vI x2), (3, vI x3)] d_Md_quarrel_37 hm (by decide) rfl ?_
        refine r_iconst ok 1 d_Md_quarrel_39 rfl ?_
        refine r_istore ok [(5, vI 1), (4, vI 0), (0, .ref (F.2.1.1 10)), (1, vI x1), (2, vI x2), (3, vI x3)] d_Md_quarrel_40 hm (by decide) rfl ?_
        exact r_sub [2, 5, 1, 0] rfl h
      · replace h := h.2.2 c
        refine r_bipush ok (-3) d_Md_quarrel_33 (by decide) ?_
        exact hQ _ _ _ _ _ (ok_code ok) d_Md_quarrel_35 h
    · replace h := h.2.2 c
      refine r_iconst ok (-1) d_Md_quarrel_14 rfl ?_
      exact hQ _ _ _ _ _ (ok_code ok) d_Md_quarrel_15 h
theorem L_Md_quarrel (l : Launch) (G : GE) (A : Nat → Prop) (hD : ∀ σ, va_D A (GW G σ)) {x1 x2 x3 : Int} {s : SS} {Q : Int → SS → Prop} (h : Sp_Md_quarrel x1 x2 x3 s Q) : Met l y_Md_quarrel (Cond.code y_Md_quarrel prog_12_method_43_code 7 (some .int) :: lw_ok) ({ frames := 3, cells := 0, slots := 0, locals := 71 } : Room) (va_Pc [.ref (G.1 10), vI x1, vI x2, vI x3] (gB G s)) (va_Qi (fun (r : Int32) (s2 : SS) => ∃ x : Int, r = iI x ∧ Q x s2) (fun s2 t => gB G s2 t) A) 0 0 A := by
  refine met_i hD (by decide) ⟨rfl, rfl⟩ (Nat.le_of_ble_eq_true rfl) (lv := [(0, .ref (G.1 10)), (1, vI x1), (2, vI x2), (3, vI x3)]) rfl (fun F h1 h2 h3 hm ok hQ => ?_)
  subst h1 h2 h3
  have hDF := hD
  exact K_Md_quarrel_e hDF hm ok hQ (h _ _ (fun _ _ _ _ hb => K_Md_quarrel_42 hDF hm ok hQ hb) (fun _ _ _ _ _ hb => K_Md_quarrel_107 hDF hm ok hQ hb))
theorem d_Md_could_0 : decode prog_12_method_44_code 0 = .ok (.aload_n 0, 1) := by decide +kernel
theorem d_Md_could_1 : decode prog_12_method_44_code 1 = .ok (.iload_n 1, 1) := by decide +kernel
theorem d_Md_could_2 : decode prog_12_method_44_code 2 = .ok (.iload_n 2, 1) := by decide +kernel
theorem d_Md_could_3 : decode prog_12_method_44_code 3 = .ok (.invokevirtual 269, 3) := by decide +kernel
theorem d_Md_could_6 : decode prog_12_method_44_code 6 = .ok (.ifCond .eq 10, 3) := by decide +kernel
theorem d_Md_could_9 : decode prog_12_method_44_code 9 = .ok (.iload_n 3, 1) := by decide +kernel
theorem d_Md_could_10 : decode prog_12_method_44_code 10 = .ok (.invokestatic 185, 3) := by decide +kernel
theorem d_Md_could_13 : decode prog_12_method_44_code 13 = .ok (.ifCond .ne 5, 3) := by decide +kernel
theorem d_Md_could_16 : decode prog_12_method_44_code 16 = .ok (.iconst (-1), 1) := by decide +kernel
theorem d_Md_could_17 : decode prog_12_method_44_code 17 = .ok (.ireturn, 1) := by decide +kernel
theorem d_Md_could_18 : decode prog_12_method_44_code 18 = .ok (.iload 4, 2) := by decide +kernel
theorem d_Md_could_20 : decode prog_12_method_44_code 20 = .ok (.i2l, 1) := by decide +kernel
theorem d_Md_could_21 : decode prog_12_method_44_code 21 = .ok (.lconst 0, 1) := by decide +kernel
theorem d_Md_could_22 : decode prog_12_method_44_code 22 = .ok (.ldc2_w 279, 3) := by decide +kernel
theorem d_Md_could_25 : decode prog_12_method_44_code 25 = .ok (.invokestatic 191, 3) := by decide +kernel
theorem d_Md_could_28 : decode prog_12_method_44_code 28 = .ok (.ifCond .ne 6, 3) := by decide +kernel
theorem d_Md_could_31 : decode prog_12_method_44_code 31 = .ok (.bipush (-2), 2) := by decide +kernel
theorem d_Md_could_33 : decode prog_12_method_44_code 33 = .ok (.ireturn, 1) := by decide +kernel
theorem d_Md_could_34 : decode prog_12_method_44_code 34 = .ok (.aload_n 0, 1) := by decide +kernel
theorem d_Md_could_35 : decode prog_12_method_44_code 35 = .ok (.aload_n 0, 1) := by decide +kernel
theorem d_Md_could_36 : decode prog_12_method_44_code 36 = .ok (.getfield 50, 3) := by decide +kernel
theorem d_Md_could_39 : decode prog_12_method_44_code 39 = .ok (.iload_n 1, 1) := by decide +kernel
theorem d_Md_could_40 : decode prog_12_method_44_code 40 = .ok (.iaload, 1) := by decide +kernel
theorem d_Md_could_41 : decode prog_12_method_44_code 41 = .ok (.invokevirtual 290, 3) := by decide +kernel
theorem d_Md_could_44 : decode prog_12_method_44_code 44 = .ok (.aload_n 0, 1) := by decide +kernel
theorem d_Md_could_45 : decode prog_12_method_44_code 45 = .ok (.invokevirtual 305, 3) := by decide +kernel
theorem d_Md_could_48 : decode prog_12_method_44_code 48 = .ok (.aload_n 0, 1) := by decide +kernel
theorem d_Md_could_49 : decode prog_12_method_44_code 49 = .ok (.getfield 87, 3) := by decide +kernel
theorem d_Md_could_52 : decode prog_12_method_44_code 52 = .ok (.aload_n 0, 1) := by decide +kernel
theorem d_Md_could_53 : decode prog_12_method_44_code 53 = .ok (.getfield 299, 3) := by decide +kernel
theorem d_Md_could_56 : decode prog_12_method_44_code 56 = .ok (.iconst 1, 1) := by decide +kernel
theorem d_Md_could_57 : decode prog_12_method_44_code 57 = .ok (.iload_n 3, 1) := by decide +kernel
theorem d_Md_could_58 : decode prog_12_method_44_code 58 = .ok (.ishl, 1) := by decide +kernel
theorem d_Md_could_59 : decode prog_12_method_44_code 59 = .ok (.iastore, 1) := by decide +kernel
theorem d_Md_could_60 : decode prog_12_method_44_code 60 = .ok (.aload_n 0, 1) := by decide +kernel
theorem d_Md_could_61 : decode prog_12_method_44_code 61 = .ok (.getfield 90, 3) := by decide +kernel
theorem d_Md_could_64 : decode prog_12_method_44_code 64 = .ok (.aload_n 0, 1) := by decide +kernel
theorem d_Md_could_65 : decode prog_12_method_44_code 65 = .ok (.getfield 299, 3) := by decide +kernel
theorem d_Md_could_68 : decode prog_12_method_44_code 68 = .ok (.iload 4, 2) := by decide +kernel
theorem d_Md_could_70 : decode prog_12_method_44_code 70 = .ok (.iastore, 1) := by decide +kernel
theorem d_Md_could_71 : decode prog_12_method_44_code 71 = .ok (.aload_n 0, 1) := by decide +kernel
theorem d_Md_could_72 : decode prog_12_method_44_code 72 = .ok (.getfield 93, 3) := by decide +kernel
theorem d_Md_could_75 : decode prog_12_method_44_code 75 = .ok (.aload_n 0, 1) := by decide +kernel
theorem d_Md_could_76 : decode prog_12_method_44_code 76 = .ok (.getfield 299, 3) := by decide +kernel
theorem d_Md_could_79 : decode prog_12_method_44_code 79 = .ok (.iload 4, 2) := by decide +kernel
theorem d_Md_could_81 : decode prog_12_method_44_code 81 = .ok (.iastore, 1) := by decide +kernel
theorem d_Md_could_82 : decode prog_12_method_44_code 82 = .ok (.aload_n 0, 1) := by decide +kernel
theorem d_Md_could_83 : decode prog_12_method_44_code 83 = .ok (.dup, 1) := by decide +kernel
theorem d_Md_could_84 : decode prog_12_method_44_code 84 = .ok (.getfield 299, 3) := by decide +kernel
theorem d_Md_could_87 : decode prog_12_method_44_code 87 = .ok (.iconst 1, 1) := by decide +kernel
theorem d_Md_could_88 : decode prog_12_method_44_code 88 = .ok (.iadd, 1) := by decide +kernel
theorem d_Md_could_89 : decode prog_12_method_44_code 89 = .ok (.putfield 299, 3) := by decide +kernel
theorem d_Md_could_92 : decode prog_12_method_44_code 92 = .ok (.aload_n 0, 1) := by decide +kernel
theorem d_Md_could_93 : decode prog_12_method_44_code 93 = .ok (.invokevirtual 308, 3) := by decide +kernel
theorem d_Md_could_96 : decode prog_12_method_44_code 96 = .ok (.aload_n 0, 1) := by decide +kernel
theorem d_Md_could_97 : decode prog_12_method_44_code 97 = .ok (.iconst 1, 1) := by decide +kernel
theorem d_Md_could_98 : decode prog_12_method_44_code 98 = .ok (.aload_n 0, 1) := by decide +kernel
theorem d_Md_could_99 : decode prog_12_method_44_code 99 = .ok (.getfield 299, 3) := by decide +kernel
theorem d_Md_could_102 : decode prog_12_method_44_code 102 = .ok (.ishl, 1) := by decide +kernel
theorem d_Md_could_103 : decode prog_12_method_44_code 103 = .ok (.iconst 1, 1) := by decide +kernel
theorem d_Md_could_104 : decode prog_12_method_44_code 104 = .ok (.isub, 1) := by decide +kernel
theorem d_Md_could_105 : decode prog_12_method_44_code 105 = .ok (.invokevirtual 311, 3) := by decide +kernel
theorem d_Md_could_108 : decode prog_12_method_44_code 108 = .ok (.ifCond .eq 7, 3) := by decide +kernel
theorem d_Md_could_111 : decode prog_12_method_44_code 111 = .ok (.iconst 1, 1) := by decide +kernel
theorem d_Md_could_112 : decode prog_12_method_44_code 112 = .ok (.goto 4, 3) := by decide +kernel
theorem d_Md_could_115 : decode prog_12_method_44_code 115 = .ok (.iconst 0, 1) := by decide +kernel
theorem d_Md_could_116 : decode prog_12_method_44_code 116 = .ok (.ireturn, 1) := by decide +kernel
set_option maxHeartbeats 4000000 in
set_option maxRecDepth 100000 in
theorem K_Md_could_e {F : FT} (hD : ∀ σ, va_D F.2.2.1 (GW F.2.1 σ)) (hm : F.2.2.2.2.2.2.2.2.2.2.2.2.2.2.1 = 5) (ok : OkF F prog_12_method_44_code "LastSeenModel" ({ frames := 3, cells := 0, slots := 0, locals := 71 } : Room)) {Q : Int → SS → Prop} (hQ : RetI F Q) {x1 x2 x3 x4 : Int} {s : SS} (h : Sp_Md_could x1 x2 x3 x4 s Q) : AtS F 0 [(0, .ref (F.2.1.1 10)), (1, vI x1), (2, vI x2), (3, vI x3), (4, vI x4)] [] s := by
  unfold Sp_Md_could at h
  refine r_aload_n ok 0 d_Md_could_0 rfl rfl ?_
  refine r_iload_n ok 1 d_Md_could_1 rfl rfl ?_
  refine r_iload_n ok 2 d_Md_could_2 rfl rfl ?_
  refine r_callVi (As := [vI x1, vI x2]) (rest := []) ok 10 rfl rfl rfl wl_Md_269 wi_y_Md_isThere ws_y_Md_isThere wn_Md wc_y_Md_isThere (by decide) (by decide) hh_Md_isThere (Nat.le_of_ble_eq_true rfl) rfl d_Md_could_3 (L_Md_isThere F.1 F.2.1 F.2.2.1 hD h) (fun r2 s1 h => ?_)
  refine r_if_eq ok 16 d_Md_could_6 (by decide) h.1 (fun c => ?_) (fun c => ?_)
  · replace h := h.2.1 c
    refine r_iconst ok (-1) d_Md_could_16 rfl ?_
    exact hQ _ _ _ _ _ (ok_code ok) d_Md_could_17 h
  · replace h := h.2.2 c
    refine r_iload_n ok 3 d_Md_could_9 rfl rfl ?_
    refine r_callSi (As := [vI x3]) (rest := []) ok wl_Md_185 wt_y_Md_isPlace wn_Md wc_y_Md_isPlace (by decide) (by decide) hh_Md_isPlace (Nat.le_of_ble_eq_true rfl) rfl d_Md_could_10 (L_Md_isPlace F.1 F.2.1 F.2.2.1 hD h) (fun r4 s3 h => ?_)
    refine r_if_ne ok 18 d_Md_could_13 (by decide) h.1 (fun c => ?_) (fun c => ?_)
    · replace h := h.2.1 c
      refine r_iload ok 4 d_Md_could_18 rfl ?_
      refine r_i2l ok d_Md_could_20 h.1 ?_
      replace h := h.2
      refine r_lconst ok 0 d_Md_could_21 (by decide) ?_
      refine r_ldc2 ok 999 wk_Md_279 d_Md_could_22 (by decide) ?_
      refine r_callSi (As := [vJ x4, vJ 0, vJ 999]) (rest := []) ok wl_Md_191 wt_y_Md_isIn wn_Md wc_y_Md_isIn (by decide) (by decide) hh_Md_isIn (Nat.le_of_ble_eq_true rfl) rfl d_Md_could_25 (L_Md_isIn F.1 F.2.1 F.2.2.1 hD h) (fun r6 s5 h => ?_)
      refine r_if_ne ok 34 d_Md_could_28 (by decide) h.1 (fun c => ?_) (fun c => ?_)
      · replace h := h.2.1 c
        refine r_aload_n ok 0 d_Md_could_34 rfl rfl ?_
        refine r_aload_n ok 0 d_Md_could_35 rfl rfl ?_
        refine g_Md_person ok d_Md_could_36 ?_
        refine r_iload_n ok 1 d_Md_could_39 rfl rfl ?_
        refine r_iald ok 72 d_Md_could_40 (by decide) rfl h.1 ?_
        replace h := h.2
        refine r_callVv (As := [vI (s5.2 72 x1)]) (rest := []) ok 10 rfl rfl rfl wl_Md_290 wi_y_Md_findRoots ws_y_Md_findRoots wn_Md wc_y_Md_findRoots (by decide) (by decide) hh_Md_findRoots (Nat.le_of_ble_eq_true rfl) rfl d_Md_could_41 (L_Md_findRoots F.1 F.2.1 F.2.2.1 hD h) (fun s7 h => ?_)
        refine r_aload_n ok 0 d_Md_could_44 rfl rfl ?_
        refine r_callVv (As := []) (rest := []) ok 10 rfl rfl rfl wl_Md_305 wi_y_Md_takesRoots ws_y_Md_takesRoots wn_Md wc_y_Md_takesRoots (by decide) (by decide) hh_Md_takesRoots (Nat.le_of_ble_eq_true rfl) rfl d_Md_could_45 (L_Md_takesRoots F.1 F.2.1 F.2.2.1 hD h) (fun s8 h => ?_)
        refine r_aload_n ok 0 d_Md_could_48 rfl rfl ?_
        refine g_Md_itemPlaces ok d_Md_could_49 ?_
        refine r_aload_n ok 0 d_Md_could_52 rfl rfl ?_
        refine g_Md_items ok d_Md_could_53 ?_
        refine r_iconst ok 1 d_Md_could_56 rfl ?_
        refine r_iload_n ok 3 d_Md_could_57 rfl rfl ?_
        refine r_ishl ok d_Md_could_58 ?_
        refine r_iast ok 84 d_Md_could_59 (by decide) rfl h.1 ?_
        replace h := h.2 _ rfl
        generalize sA s8 84 (s8.1 38) (shl 1 x3) = s9 at h ⊢
        refine r_aload_n ok 0 d_Md_could_60 rfl rfl ?_
        refine g_Md_itemFirst ok d_Md_could_61 ?_
        refine r_aload_n ok 0 d_Md_could_64 rfl rfl ?_
        refine g_Md_items ok d_Md_could_65 ?_
        refine r_iload ok 4 d_Md_could_68 rfl ?_
        refine r_iast ok 85 d_Md_could_70 (by decide) rfl h.1 ?_
        replace h := h.2 _ rfl
        generalize sA s9 85 (s9.1 38) x4 = s10 at h ⊢
        refine r_aload_n ok 0 d_Md_could_71 rfl rfl ?_
        refine g_Md_itemLast ok d_Md_could_72 ?_
        refine r_aload_n ok 0 d_Md_could_75 rfl rfl ?_
        refine g_Md_items ok d_Md_could_76 ?_
        refine r_iload ok 4 d_Md_could_79 rfl ?_
        refine r_iast ok 86 d_Md_could_81 (by decide) rfl h.1 ?_
        replace h := h.2 _ rfl
        generalize sA s10 86 (s10.1 38) x4 = s11 at h ⊢
        refine r_aload_n ok 0 d_Md_could_82 rfl rfl ?_
        refine r_dup ok d_Md_could_83 rfl ?_
        refine g_Md_items ok d_Md_could_84 ?_
        refine r_iconst ok 1 d_Md_could_87 rfl ?_
        refine r_iadd ok d_Md_could_88 ?_
        refine p_Md_items ok d_Md_could_89 ?_
        replace h := h _ rfl
        generalize sF s11 38 ((s11.1 38) + 1) = s12 at h ⊢
        refine r_aload_n ok 0 d_Md_could_92 rfl rfl ?_
        refine r_callVv (As := []) (rest := []) ok 10 rfl rfl rfl wl_Md_308 wi_y_Md_fillEarliest ws_y_Md_fillEarliest wn_Md wc_y_Md_fillEarliest (by decide) (by decide) hh_Md_fillEarliest (Nat.le_of_ble_eq_true rfl) rfl d_Md_could_93 (L_Md_fillEarliest F.1 F.2.1 F.2.2.1 hD h) (fun s13 h => ?_)
        refine r_aload_n ok 0 d_Md_could_96 rfl rfl ?_
        refine r_iconst ok 1 d_Md_could_97 rfl ?_
        refine r_aload_n ok 0 d_Md_could_98 rfl rfl ?_
        refine g_Md_items ok d_Md_could_99 ?_
        refine r_ishl ok d_Md_could_102 ?_
        refine r_iconst ok 1 d_Md_could_103 rfl ?_
        refine r_isub ok d_Md_could_104 ?_
        refine r_callVi (As := [vI ((shl 1 (s13.1 38)) - 1)]) (rest := []) ok 10 rfl rfl rfl wl_Md_311 wi_y_Md_canBe ws_y_Md_canBe wn_Md wc_y_Md_canBe (by decide) (by decide) hh_Md_canBe (Nat.le_of_ble_eq_true rfl) rfl d_Md_could_105 (L_Md_canBe F.1 F.2.1 F.2.2.1 hD h) (fun r15 s14 h => ?_)
        refine r_if_eq ok 115 d_Md_could_108 (by decide) h.1 (fun c => ?_) (fun c => ?_)
        · replace h := h.2.1 c
          refine r_iconst ok 0 d_Md_could_115 rfl ?_
          exact hQ _ _ _ _ _ (ok_code ok) d_Md_could_116 h
        · replace h := h.2.2 c
          refine r_iconst ok 1 d_Md_could_111 rfl ?_
          refine r_goto ok 116 d_Md_could_112 (by decide) ?_
          exact hQ _ _ _ _ _ (ok_code ok) d_Md_could_116 h
      · replace h := h.2.2 c
        refine r_bipush ok (-2) d_Md_could_31 (by decide) ?_
        exact hQ _ _ _ _ _ (ok_code ok) d_Md_could_33 h
    · replace h := h.2.2 c
      refine r_iconst ok (-1) d_Md_could_16 rfl ?_
      exact hQ _ _ _ _ _ (ok_code ok) d_Md_could_17 h
theorem L_Md_could (l : Launch) (G : GE) (A : Nat → Prop) (hD : ∀ σ, va_D A (GW G σ)) {x1 x2 x3 x4 : Int} {s : SS} {Q : Int → SS → Prop} (h : Sp_Md_could x1 x2 x3 x4 s Q) : Met l y_Md_could (Cond.code y_Md_could prog_12_method_44_code 5 (some .int) :: lw_ok) ({ frames := 3, cells := 0, slots := 0, locals := 71 } : Room) (va_Pc [.ref (G.1 10), vI x1, vI x2, vI x3, vI x4] (gB G s)) (va_Qi (fun (r : Int32) (s2 : SS) => ∃ x : Int, r = iI x ∧ Q x s2) (fun s2 t => gB G s2 t) A) 0 0 A := by
  refine met_i hD (by decide) ⟨rfl, rfl⟩ (Nat.le_of_ble_eq_true rfl) (lv := [(0, .ref (G.1 10)), (1, vI x1), (2, vI x2), (3, vI x3), (4, vI x4)]) rfl (fun F h1 h2 h3 hm ok hQ => ?_)
  subst h1 h2 h3
  have hDF := hD
  exact K_Md_could_e hDF hm ok hQ h
theorem d_Md_lastRoot_0 : decode prog_12_method_45_code 0 = .ok (.iconst (-1), 1) := by decide +kernel
theorem d_Md_lastRoot_1 : decode prog_12_method_45_code 1 = .ok (.istore_n 1, 1) := by decide +kernel
theorem d_Md_lastRoot_2 : decode prog_12_method_45_code 2 = .ok (.iconst 0, 1) := by decide +kernel
theorem d_Md_lastRoot_3 : decode prog_12_method_45_code 3 = .ok (.istore_n 2, 1) := by decide +kernel
theorem d_Md_lastRoot_4 : decode prog_12_method_45_code 4 = .ok (.iload_n 2, 1) := by decide +kernel
theorem d_Md_lastRoot_5 : decode prog_12_method_45_code 5 = .ok (.aload_n 0, 1) := by decide +kernel
theorem d_Md_lastRoot_6 : decode prog_12_method_45_code 6 = .ok (.getfield 287, 3) := by decide +kernel
theorem d_Md_lastRoot_9 : decode prog_12_method_45_code 9 = .ok (.if_icmp .ge 40, 3) := by decide +kernel
theorem d_Md_lastRoot_12 : decode prog_12_method_45_code 12 = .ok (.iload_n 1, 1) := by decide +kernel
theorem d_Md_lastRoot_13 : decode prog_12_method_45_code 13 = .ok (.ifCond .lt 23, 3) := by decide +kernel
theorem d_Md_lastRoot_16 : decode prog_12_method_45_code 16 = .ok (.aload_n 0, 1) := by decide +kernel
theorem d_Md_lastRoot_17 : decode prog_12_method_45_code 17 = .ok (.getfield 71, 3) := by decide +kernel
theorem d_Md_lastRoot_20 : decode prog_12_method_45_code 20 = .ok (.aload_n 0, 1) := by decide +kernel
theorem d_Md_lastRoot_21 : decode prog_12_method_45_code 21 = .ok (.getfield 80, 3) := by decide +kernel
theorem d_Md_lastRoot_24 : decode prog_12_method_45_code 24 = .ok (.iload_n 2, 1) := by decide +kernel
theorem d_Md_lastRoot_25 : decode prog_12_method_45_code 25 = .ok (.iaload, 1) := by decide +kernel
theorem d_Md_lastRoot_26 : decode prog_12_method_45_code 26 = .ok (.iaload, 1) := by decide +kernel
theorem d_Md_lastRoot_27 : decode prog_12_method_45_code 27 = .ok (.aload_n 0, 1) := by decide +kernel
theorem d_Md_lastRoot_28 : decode prog_12_method_45_code 28 = .ok (.getfield 71, 3) := by decide +kernel
theorem d_Md_lastRoot_31 : decode prog_12_method_45_code 31 = .ok (.iload_n 1, 1) := by decide +kernel
theorem d_Md_lastRoot_32 : decode prog_12_method_45_code 32 = .ok (.iaload, 1) := by decide +kernel
theorem d_Md_lastRoot_33 : decode prog_12_method_45_code 33 = .ok (.if_icmp .le 10, 3) := by decide +kernel
theorem d_Md_lastRoot_36 : decode prog_12_method_45_code 36 = .ok (.aload_n 0, 1) := by decide +kernel
theorem d_Md_lastRoot_37 : decode prog_12_method_45_code 37 = .ok (.getfield 80, 3) := by decide +kernel
theorem d_Md_lastRoot_40 : decode prog_12_method_45_code 40 = .ok (.iload_n 2, 1) := by decide +kernel
theorem d_Md_lastRoot_41 : decode prog_12_method_45_code 41 = .ok (.iaload, 1) := by decide +kernel
theorem d_Md_lastRoot_42 : decode prog_12_method_45_code 42 = .ok (.istore_n 1, 1) := by decide +kernel
theorem d_Md_lastRoot_43 : decode prog_12_method_45_code 43 = .ok (.iinc 2 1, 3) := by decide +kernel
theorem d_Md_lastRoot_46 : decode prog_12_method_45_code 46 = .ok (.goto (-42), 3) := by decide +kernel
theorem d_Md_lastRoot_49 : decode prog_12_method_45_code 49 = .ok (.iload_n 1, 1) := by decide +kernel
theorem d_Md_lastRoot_50 : decode prog_12_method_45_code 50 = .ok (.ireturn, 1) := by decide +kernel
set_option maxHeartbeats 4000000 in
set_option maxRecDepth 100000 in
theorem K_Md_lastRoot_4 {F : FT} (hD : ∀ σ, va_D F.2.2.1 (GW F.2.1 σ)) (hm : F.2.2.2.2.2.2.2.2.2.2.2.2.2.2.1 = 3) (ok : OkF F prog_12_method_45_code "LastSeenModel" ({ frames := 0, cells := 0, slots := 0, locals := 0 } : Room)) {Q : Int → SS → Prop} (hQ : RetI F Q) {x1 x2 : Int} {s : SS} (h : B_Md_lastRoot_4 Q (fun x1 x2 s => AtS F 4 [(0, .ref (F.2.1.1 10)), (1, vI x1), (2, vI x2)] [] s) x1 x2 s) : AtS F 4 [(0, .ref (F.2.1.1 10)), (1, vI x1), (2, vI x2)] [] s := by
  unfold B_Md_lastRoot_4 at h
  refine r_iload_n ok 2 d_Md_lastRoot_4 rfl rfl ?_
  refine r_aload_n ok 0 d_Md_lastRoot_5 rfl rfl ?_
  refine g_Md_roots ok d_Md_lastRoot_6 ?_
  refine r_icmp_ge ok 49 d_Md_lastRoot_9 (by decide) h.1 h.2.1 (fun c => ?_) (fun c => ?_)
  · replace h := h.2.2.1 c
    refine r_iload_n ok 1 d_Md_lastRoot_49 rfl rfl ?_
    exact hQ _ _ _ _ _ (ok_code ok) d_Md_lastRoot_50 h
  · replace h := h.2.2.2 c
    refine r_iload_n ok 1 d_Md_lastRoot_12 rfl rfl ?_
    refine r_if_lt ok 36 d_Md_lastRoot_13 (by decide) h.1 (fun c => ?_) (fun c => ?_)
    · replace h := h.2.1 c
      refine r_aload_n ok 0 d_Md_lastRoot_36 rfl rfl ?_
      refine g_Md_root ok d_Md_lastRoot_37 ?_
      refine r_iload_n ok 2 d_Md_lastRoot_40 rfl rfl ?_
      refine r_iald ok 82 d_Md_lastRoot_41 (by decide) rfl h.1 ?_
      replace h := h.2
      refine r_istore_n ok [(1, vI (s.2 82 x2)), (0, .ref (F.2.1.1 10)), (2, vI x2)] d_Md_lastRoot_42 rfl hm (by decide) rfl ?_
      refine r_iinc ok 2 (x2 + 1) [(2, vI (x2 + 1)), (1, vI (s.2 82 x2)), (0, .ref (F.2.1.1 10))] d_Md_lastRoot_43 rfl rfl hm (by decide) rfl ?_
      refine r_goto ok 4 d_Md_lastRoot_46 (by decide) ?_
      exact r_sub [2, 1, 0] rfl h
    · replace h := h.2.2 c
      refine r_aload_n ok 0 d_Md_lastRoot_16 rfl rfl ?_
      refine g_Md_last ok d_Md_lastRoot_17 ?_
      refine r_aload_n ok 0 d_Md_lastRoot_20 rfl rfl ?_
      refine g_Md_root ok d_Md_lastRoot_21 ?_
      refine r_iload_n ok 2 d_Md_lastRoot_24 rfl rfl ?_
      refine r_iald ok 82 d_Md_lastRoot_25 (by decide) rfl h.1 ?_
      replace h := h.2
      refine r_iald ok 79 d_Md_lastRoot_26 (by decide) rfl h.1 ?_
      replace h := h.2
      refine r_aload_n ok 0 d_Md_lastRoot_27 rfl rfl ?_
      refine g_Md_last ok d_Md_lastRoot_28 ?_
      refine r_iload_n ok 1 d_Md_lastRoot_31 rfl rfl ?_
      refine r_iald ok 79 d_Md_lastRoot_32 (by decide) rfl h.1 ?_
      replace h := h.2
      refine r_icmp_le ok 43 d_Md_lastRoot_33 (by decide) h.1 h.2.1 (fun c => ?_) (fun c => ?_)
      · replace h := h.2.2.1 c
        refine r_iinc ok 2 (x2 + 1) [(2, vI (x2 + 1)), (0, .ref (F.2.1.1 10)), (1, vI x1)] d_Md_lastRoot_43 rfl rfl hm (by decide) rfl ?_
        refine r_goto ok 4 d_Md_lastRoot_46 (by decide) ?_
        exact r_sub [1, 2, 0] rfl h
      · replace h := h.2.2.2 c
        refine r_aload_n ok 0 d_Md_lastRoot_36 rfl rfl ?_
        refine g_Md_root ok d_Md_lastRoot_37 ?_
        refine r_iload_n ok 2 d_Md_lastRoot_40 rfl rfl ?_
        refine r_iald ok 82 d_Md_lastRoot_41 (by decide) rfl h.1 ?_
        replace h := h.2
        refine r_istore_n ok [(1, vI (s.2 82 x2)), (0, .ref (F.2.1.1 10)), (2, vI x2)] d_Md_lastRoot_42 rfl hm (by decide) rfl ?_
        refine r_iinc ok 2 (x2 + 1) [(2, vI (x2 + 1)), (1, vI (s.2 82 x2)), (0, .ref (F.2.1.1 10))] d_Md_lastRoot_43 rfl rfl hm (by decide) rfl ?_
        refine r_goto ok 4 d_Md_lastRoot_46 (by decide) ?_
        exact r_sub [2, 1, 0] rfl h
set_option maxHeartbeats 4000000 in
set_option maxRecDepth 100000 in
theorem K_Md_lastRoot_e {F : FT} (hD : ∀ σ, va_D F.2.2.1 (GW F.2.1 σ)) (hm : F.2.2.2.2.2.2.2.2.2.2.2.2.2.2.1 = 3) (ok : OkF F prog_12_method_45_code "LastSeenModel" ({ frames := 0, cells := 0, slots := 0, locals := 0 } : Room)) {Q : Int → SS → Prop} (hQ : RetI F Q) {s : SS} (h : B_Md_lastRoot_e Q (fun x1 x2 s => AtS F 4 [(0, .ref (F.2.1.1 10)), (1, vI x1), (2, vI x2)] [] s)  s) : AtS F 0 [(0, .ref (F.2.1.1 10))] [] s := by
  unfold B_Md_lastRoot_e at h
  refine r_iconst ok (-1) d_Md_lastRoot_0 rfl ?_
  refine r_istore_n ok [(1, vI (-1)), (0, .ref (F.2.1.1 10))] d_Md_lastRoot_1 rfl hm (by decide) rfl ?_
  refine r_iconst ok 0 d_Md_lastRoot_2 rfl ?_
  refine r_istore_n ok [(2, vI 0), (1, vI (-1)), (0, .ref (F.2.1.1 10))] d_Md_lastRoot_3 rfl hm (by decide) rfl ?_
  exact r_sub [2, 1, 0] rfl h
theorem L_Md_lastRoot (l : Launch) (G : GE) (A : Nat → Prop) (hD : ∀ σ, va_D A (GW G σ)) {s : SS} {Q : Int → SS → Prop} (h : Sp_Md_lastRoot  s Q) : Met l y_Md_lastRoot (Cond.code y_Md_lastRoot prog_12_method_45_code 3 (some .int) :: lw_ok) ({ frames := 0, cells := 0, slots := 0, locals := 0 } : Room) (va_Pc [.ref (G.1 10)] (gB G s)) (va_Qi (fun (r : Int32) (s2 : SS) => ∃ x : Int, r = iI x ∧ Q x s2) (fun s2 t => gB G s2 t) A) 0 0 A := by
  refine met_i hD (by decide) ⟨rfl, rfl⟩ (Nat.le_of_ble_eq_true rfl) (lv := [(0, .ref (G.1 10))]) rfl (fun F h1 h2 h3 hm ok hQ => ?_)
  subst h1 h2 h3
  have hDF := hD
  exact K_Md_lastRoot_e hDF hm ok hQ (h _ (fun _ _ _ hb => K_Md_lastRoot_4 hDF hm ok hQ hb))
theorem d_Md_last_0 : decode prog_12_method_46_code 0 = .ok (.aload_n 0, 1) := by decide +kernel
theorem d_Md_last_1 : decode prog_12_method_46_code 1 = .ok (.iload_n 1, 1) := by decide +kernel
theorem d_Md_last_2 : decode prog_12_method_46_code 2 = .ok (.iload_n 2, 1) := by decide +kernel
theorem d_Md_last_3 : decode prog_12_method_46_code 3 = .ok (.invokevirtual 269, 3) := by decide +kernel
theorem d_Md_last_6 : decode prog_12_method_46_code 6 = .ok (.ifCond .ne 5, 3) := by decide +kernel
theorem d_Md_last_9 : decode prog_12_method_46_code 9 = .ok (.iconst (-1), 1) := by decide +kernel
theorem d_Md_last_10 : decode prog_12_method_46_code 10 = .ok (.ireturn, 1) := by decide +kernel
theorem d_Md_last_11 : decode prog_12_method_46_code 11 = .ok (.aload_n 0, 1) := by decide +kernel
theorem d_Md_last_12 : decode prog_12_method_46_code 12 = .ok (.aload_n 0, 1) := by decide +kernel
theorem d_Md_last_13 : decode prog_12_method_46_code 13 = .ok (.getfield 50, 3) := by decide +kernel
theorem d_Md_last_16 : decode prog_12_method_46_code 16 = .ok (.iload_n 1, 1) := by decide +kernel
theorem d_Md_last_17 : decode prog_12_method_46_code 17 = .ok (.iaload, 1) := by decide +kernel
theorem d_Md_last_18 : decode prog_12_method_46_code 18 = .ok (.invokevirtual 290, 3) := by decide +kernel
theorem d_Md_last_21 : decode prog_12_method_46_code 21 = .ok (.aload_n 0, 1) := by decide +kernel
theorem d_Md_last_22 : decode prog_12_method_46_code 22 = .ok (.invokevirtual 318, 3) := by decide +kernel
theorem d_Md_last_25 : decode prog_12_method_46_code 25 = .ok (.istore_n 3, 1) := by decide +kernel
theorem d_Md_last_26 : decode prog_12_method_46_code 26 = .ok (.iload_n 3, 1) := by decide +kernel
theorem d_Md_last_27 : decode prog_12_method_46_code 27 = .ok (.ifCond .ge 8, 3) := by decide +kernel
theorem d_Md_last_30 : decode prog_12_method_46_code 30 = .ok (.bipush (-5), 2) := by decide +kernel
theorem d_Md_last_32 : decode prog_12_method_46_code 32 = .ok (.goto 4, 3) := by decide +kernel
theorem d_Md_last_35 : decode prog_12_method_46_code 35 = .ok (.iload_n 3, 1) := by decide +kernel
theorem d_Md_last_36 : decode prog_12_method_46_code 36 = .ok (.ireturn, 1) := by decide +kernel
set_option maxHeartbeats 4000000 in
set_option maxRecDepth 100000 in
theorem K_Md_last_e {F : FT} (hD : ∀ σ, va_D F.2.2.1 (GW F.2.1 σ)) (hm : F.2.2.2.2.2.2.2.2.2.2.2.2.2.2.1 = 4) (ok : OkF F prog_12_method_46_code "LastSeenModel" ({ frames := 3, cells := 0, slots := 0, locals := 71 } : Room)) {Q : Int → SS → Prop} (hQ : RetI F Q) {x1 x2 : Int} {s : SS} (h : Sp_Md_last x1 x2 s Q) : AtS F 0 [(0, .ref (F.2.1.1 10)), (1, vI x1), (2, vI x2)] [] s := by
  unfold Sp_Md_last at h
  refine r_aload_n ok 0 d_Md_last_0 rfl rfl ?_
  refine r_iload_n ok 1 d_Md_last_1 rfl rfl ?_
  refine r_iload_n ok 2 d_Md_last_2 rfl rfl ?_
  refine r_callVi (As := [vI x1, vI x2]) (rest := []) ok 10 rfl rfl rfl wl_Md_269 wi_y_Md_isThere ws_y_Md_isThere wn_Md wc_y_Md_isThere (by decide) (by decide) hh_Md_isThere (Nat.le_of_ble_eq_true rfl) rfl d_Md_last_3 (L_Md_isThere F.1 F.2.1 F.2.2.1 hD h) (fun r2 s1 h => ?_)
  refine r_if_ne ok 11 d_Md_last_6 (by decide) h.1 (fun c => ?_) (fun c => ?_)
  · replace h := h.2.1 c
    refine r_aload_n ok 0 d_Md_last_11 rfl rfl ?_
    refine r_aload_n ok 0 d_Md_last_12 rfl rfl ?_
    refine g_Md_person ok d_Md_last_13 ?_
    refine r_iload_n ok 1 d_Md_last_16 rfl rfl ?_
    refine r_iald ok 72 d_Md_last_17 (by decide) rfl h.1 ?_
    replace h := h.2
    refine r_callVv (As := [vI (s1.2 72 x1)]) (rest := []) ok 10 rfl rfl rfl wl_Md_290 wi_y_Md_findRoots ws_y_Md_findRoots wn_Md wc_y_Md_findRoots (by decide) (by decide) hh_Md_findRoots (Nat.le_of_ble_eq_true rfl) rfl d_Md_last_18 (L_Md_findRoots F.1 F.2.1 F.2.2.1 hD h) (fun s3 h => ?_)
    refine r_aload_n ok 0 d_Md_last_21 rfl rfl ?_
    refine r_callVi (As := []) (rest := []) ok 10 rfl rfl rfl wl_Md_318 wi_y_Md_lastRoot ws_y_Md_lastRoot wn_Md wc_y_Md_lastRoot (by decide) (by decide) hh_Md_lastRoot (Nat.le_of_ble_eq_true rfl) rfl d_Md_last_22 (L_Md_lastRoot F.1 F.2.1 F.2.2.1 hD h) (fun r5 s4 h => ?_)
    refine r_istore_n ok [(3, vI r5), (0, .ref (F.2.1.1 10)), (1, vI x1), (2, vI x2)] d_Md_last_25 rfl hm (by decide) rfl ?_
    refine r_iload_n ok 0 d_Md_last_26 rfl rfl ?_
    refine r_if_ge ok 35 d_Md_last_27 (by decide) h.1 (fun c => ?_) (fun c => ?_)
    · replace h := h.2.1 c
      refine r_iload_n ok 0 d_Md_last_35 rfl rfl ?_
      exact hQ _ _ _ _ _ (ok_code ok) d_Md_last_36 h
    · replace h := h.2.2 c
      refine r_bipush ok (-5) d_Md_last_30 (by decide) ?_
      refine r_goto ok 36 d_Md_last_32 (by decide) ?_
      exact hQ _ _ _ _ _ (ok_code ok) d_Md_last_36 h
  · replace h := h.2.2 c
    refine r_iconst ok (-1) d_Md_last_9 rfl ?_
    exact hQ _ _ _ _ _ (ok_code ok) d_Md_last_10 h
theorem L_Md_last (l : Launch) (G : GE) (A : Nat → Prop) (hD : ∀ σ, va_D A (GW G σ)) {x1 x2 : Int} {s : SS} {Q : Int → SS → Prop} (h : Sp_Md_last x1 x2 s Q) : Met l y_Md_last (Cond.code y_Md_last prog_12_method_46_code 4 (some .int) :: lw_ok) ({ frames := 3, cells := 0, slots := 0, locals := 71 } : Room) (va_Pc [.ref (G.1 10), vI x1, vI x2] (gB G s)) (va_Qi (fun (r : Int32) (s2 : SS) => ∃ x : Int, r = iI x ∧ Q x s2) (fun s2 t => gB G s2 t) A) 0 0 A := by
  refine met_i hD (by decide) ⟨rfl, rfl⟩ (Nat.le_of_ble_eq_true rfl) (lv := [(0, .ref (G.1 10)), (1, vI x1), (2, vI x2)]) rfl (fun F h1 h2 h3 hm ok hQ => ?_)
  subst h1 h2 h3
  have hDF := hD
  exact K_Md_last_e hDF hm ok hQ h
theorem d_Md_sign_0 : decode prog_12_method_47_code 0 = .ok (.aload_n 0, 1) := by decide +kernel
theorem d_Md_sign_1 : decode prog_12_method_47_code 1 = .ok (.getfield 321, 3) := by decide +kernel
theorem d_Md_sign_4 : decode prog_12_method_47_code 4 = .ok (.aload_n 0, 1) := by decide +kernel
theorem d_Md_sign_5 : decode prog_12_method_47_code 5 = .ok (.getfield 205, 3) := by decide +kernel
theorem d_Md_sign_8 : decode prog_12_method_47_code 8 = .ok (.if_icmp .ge 15, 3) := by decide +kernel
theorem d_Md_sign_11 : decode prog_12_method_47_code 11 = .ok (.aload_n 0, 1) := by decide +kernel
theorem d_Md_sign_12 : decode prog_12_method_47_code 12 = .ok (.getfield 22, 3) := by decide +kernel
theorem d_Md_sign_15 : decode prog_12_method_47_code 15 = .ok (.aload_n 0, 1) := by decide +kernel
theorem d_Md_sign_16 : decode prog_12_method_47_code 16 = .ok (.getfield 321, 3) := by decide +kernel
theorem d_Md_sign_19 : decode prog_12_method_47_code 19 = .ok (.iaload, 1) := by decide +kernel
theorem d_Md_sign_20 : decode prog_12_method_47_code 20 = .ok (.goto 4, 3) := by decide +kernel
theorem d_Md_sign_23 : decode prog_12_method_47_code 23 = .ok (.iconst (-1), 1) := by decide +kernel
theorem d_Md_sign_24 : decode prog_12_method_47_code 24 = .ok (.ireturn, 1) := by decide +kernel
set_option maxHeartbeats 4000000 in
set_option maxRecDepth 100000 in
theorem K_Md_sign_e {F : FT} (hD : ∀ σ, va_D F.2.2.1 (GW F.2.1 σ)) (hm : F.2.2.2.2.2.2.2.2.2.2.2.2.2.2.1 = 1) (ok : OkF F prog_12_method_47_code "LastSeenModel" ({ frames := 0, cells := 0, slots := 0, locals := 0 } : Room)) {Q : Int → SS → Prop} (hQ : RetI F Q) {s : SS} (h : Sp_Md_sign  s Q) : AtS F 0 [(0, .ref (F.2.1.1 10))] [] s := by
  unfold Sp_Md_sign at h
  refine r_aload_n ok 0 d_Md_sign_0 rfl rfl ?_
  refine g_Md_at ok d_Md_sign_1 ?_
  refine r_aload_n ok 0 d_Md_sign_4 rfl rfl ?_
  refine g_Md_taped ok d_Md_sign_5 ?_
  refine r_icmp_ge ok 23 d_Md_sign_8 (by decide) h.1 h.2.1 (fun c => ?_) (fun c => ?_)
  · replace h := h.2.2.1 c
    refine r_iconst ok (-1) d_Md_sign_23 rfl ?_
    exact hQ _ _ _ _ _ (ok_code ok) d_Md_sign_24 h
  · replace h := h.2.2.2 c
    refine r_aload_n ok 0 d_Md_sign_11 rfl rfl ?_
    refine g_Md_tape ok d_Md_sign_12 ?_
    refine r_aload_n ok 0 d_Md_sign_15 rfl rfl ?_
    refine g_Md_at ok d_Md_sign_16 ?_
    refine r_iald ok 63 d_Md_sign_19 (by decide) rfl h.1 ?_
    replace h := h.2
    refine r_goto ok 24 d_Md_sign_20 (by decide) ?_
    exact hQ _ _ _ _ _ (ok_code ok) d_Md_sign_24 h
theorem L_Md_sign (l : Launch) (G : GE) (A : Nat → Prop) (hD : ∀ σ, va_D A (GW G σ)) {s : SS} {Q : Int → SS → Prop} (h : Sp_Md_sign  s Q) : Met l y_Md_sign (Cond.code y_Md_sign prog_12_method_47_code 1 (some .int) :: lw_ok) ({ frames := 0, cells := 0, slots := 0, locals := 0 } : Room) (va_Pc [.ref (G.1 10)] (gB G s)) (va_Qi (fun (r : Int32) (s2 : SS) => ∃ x : Int, r = iI x ∧ Q x s2) (fun s2 t => gB G s2 t) A) 0 0 A := by
  refine met_i hD (by decide) ⟨rfl, rfl⟩ (Nat.le_of_ble_eq_true rfl) (lv := [(0, .ref (G.1 10))]) rfl (fun F h1 h2 h3 hm ok hQ => ?_)
  subst h1 h2 h3
  have hDF := hD
  exact K_Md_sign_e hDF hm ok hQ h
theorem d_Md_isDigit_0 : decode prog_12_method_48_code 0 = .ok (.iload_n 0, 1) := by decide +kernel
theorem d_Md_isDigit_1 : decode prog_12_method_48_code 1 = .ok (.bipush 48, 2) := by decide +kernel
theorem d_Md_isDigit_3 : decode prog_12_method_48_code 3 = .ok (.if_icmp .lt 13, 3) := by decide +kernel
theorem d_Md_isDigit_6 : decode prog_12_method_48_code 6 = .ok (.iload_n 0, 1) := by decide +kernel
theorem d_Md_isDigit_7 : decode prog_12_method_48_code 7 = .ok (.bipush 57, 2) := by decide +kernel
theorem d_Md_isDigit_9 : decode prog_12_method_48_code 9 = .ok (.if_icmp .gt 7, 3) := by decide +kernel
theorem d_Md_isDigit_12 : decode prog_12_method_48_code 12 = .ok (.iconst 1, 1) := by decide +kernel
theorem d_Md_isDigit_13 : decode prog_12_method_48_code 13 = .ok (.goto 4, 3) := by decide +kernel
theorem d_Md_isDigit_16 : decode prog_12_method_48_code 16 = .ok (.iconst 0, 1) := by decide +kernel
theorem d_Md_isDigit_17 : decode prog_12_method_48_code 17 = .ok (.ireturn, 1) := by decide +kernel
set_option maxHeartbeats 4000000 in
set_option maxRecDepth 100000 in
theorem K_Md_isDigit_e {F : FT} (hD : ∀ σ, va_D F.2.2.1 (GW F.2.1 σ)) (hm : F.2.2.2.2.2.2.2.2.2.2.2.2.2.2.1 = 1) (ok : OkF F prog_12_method_48_code "LastSeenModel" ({ frames := 0, cells := 0, slots := 0, locals := 0 } : Room)) {Q : Int → SS → Prop} (hQ : RetZ F Q) {x0 : Int} {s : SS} (h : Sp_Md_isDigit x0 s Q) : AtS F 0 [(0, vI x0)] [] s := by
  unfold Sp_Md_isDigit at h
  refine r_iload_n ok 0 d_Md_isDigit_0 rfl rfl ?_
  refine r_bipush ok 48 d_Md_isDigit_1 (by decide) ?_
  refine r_icmp_lt ok 16 d_Md_isDigit_3 (by decide) h.1 (by decide) (fun c => ?_) (fun c => ?_)
  · replace h := h.2.1 c
    refine r_iconst ok 0 d_Md_isDigit_16 rfl ?_
    exact hQ _ _ _ _ _ (ok_code ok) d_Md_isDigit_17 (by decide) h
  · replace h := h.2.2 c
    refine r_iload_n ok 0 d_Md_isDigit_6 rfl rfl ?_
    refine r_bipush ok 57 d_Md_isDigit_7 (by decide) ?_
    refine r_icmp_gt ok 16 d_Md_isDigit_9 (by decide) h.1 (by decide) (fun c => ?_) (fun c => ?_)
    · replace h := h.2.1 c
      refine r_iconst ok 0 d_Md_isDigit_16 rfl ?_
      exact hQ _ _ _ _ _ (ok_code ok) d_Md_isDigit_17 (by decide) h
    · replace h := h.2.2 c
      refine r_iconst ok 1 d_Md_isDigit_12 rfl ?_
      refine r_goto ok 17 d_Md_isDigit_13 (by decide) ?_
      exact hQ _ _ _ _ _ (ok_code ok) d_Md_isDigit_17 (by decide) h
theorem L_Md_isDigit (l : Launch) (G : GE) (A : Nat → Prop) (hD : ∀ σ, va_D A (GW G σ)) {x0 : Int} {s : SS} {Q : Int → SS → Prop} (h : Sp_Md_isDigit x0 s Q) : Met l y_Md_isDigit (Cond.code y_Md_isDigit prog_12_method_48_code 1 (some .boolean) :: lw_ok) ({ frames := 0, cells := 0, slots := 0, locals := 0 } : Room) (va_Pc [vI x0] (gB G s)) (va_Qi (fun (r : Int32) (s2 : SS) => ∃ x : Int, r = iI x ∧ Q x s2) (fun s2 t => gB G s2 t) A) 0 0 A := by
  refine met_z hD (by decide) ⟨rfl, rfl⟩ (Nat.le_of_ble_eq_true rfl) (lv := [(0, vI x0)]) rfl (fun F h1 h2 h3 hm ok hQ => ?_)
  subst h1 h2 h3
  have hDF := hD
  exact K_Md_isDigit_e hDF hm ok hQ h
theorem d_Md_isField_0 : decode prog_12_method_49_code 0 = .ok (.iload_n 0, 1) := by decide +kernel
theorem d_Md_isField_1 : decode prog_12_method_49_code 1 = .ok (.bipush 114, 2) := by decide +kernel
theorem d_Md_isField_3 : decode prog_12_method_49_code 3 = .ok (.if_icmp .eq 39, 3) := by decide +kernel
theorem d_Md_isField_6 : decode prog_12_method_49_code 6 = .ok (.iload_n 0, 1) := by decide +kernel
theorem d_Md_isField_7 : decode prog_12_method_49_code 7 = .ok (.bipush 101, 2) := by decide +kernel
theorem d_Md_isField_9 : decode prog_12_method_49_code 9 = .ok (.if_icmp .eq 33, 3) := by decide +kernel
theorem d_Md_isField_12 : decode prog_12_method_49_code 12 = .ok (.iload_n 0, 1) := by decide +kernel
theorem d_Md_isField_13 : decode prog_12_method_49_code 13 = .ok (.bipush 104, 2) := by decide +kernel
theorem d_Md_isField_15 : decode prog_12_method_49_code 15 = .ok (.if_icmp .eq 27, 3) := by decide +kernel
theorem d_Md_isField_18 : decode prog_12_method_49_code 18 = .ok (.iload_n 0, 1) := by decide +kernel
theorem d_Md_isField_19 : decode prog_12_method_49_code 19 = .ok (.bipush 99, 2) := by decide +kernel
theorem d_Md_isField_21 : decode prog_12_method_49_code 21 = .ok (.if_icmp .eq 21, 3) := by decide +kernel
theorem d_Md_isField_24 : decode prog_12_method_49_code 24 = .ok (.iload_n 0, 1) := by decide +kernel
theorem d_Md_isField_25 : decode prog_12_method_49_code 25 = .ok (.bipush 110, 2) := by decide +kernel
theorem d_Md_isField_27 : decode prog_12_method_49_code 27 = .ok (.if_icmp .eq 15, 3) := by decide +kernel
theorem d_Md_isField_30 : decode prog_12_method_49_code 30 = .ok (.iload_n 0, 1) := by decide +kernel
theorem d_Md_isField_31 : decode prog_12_method_49_code 31 = .ok (.bipush 108, 2) := by decide +kernel
theorem d_Md_isField_33 : decode prog_12_method_49_code 33 = .ok (.if_icmp .eq 9, 3) := by decide +kernel
theorem d_Md_isField_36 : decode prog_12_method_49_code 36 = .ok (.iload_n 0, 1) := by decide +kernel
theorem d_Md_isField_37 : decode prog_12_method_49_code 37 = .ok (.bipush 107, 2) := by decide +kernel
theorem d_Md_isField_39 : decode prog_12_method_49_code 39 = .ok (.if_icmp .ne 7, 3) := by decide +kernel
theorem d_Md_isField_42 : decode prog_12_method_49_code 42 = .ok (.iconst 1, 1) := by decide +kernel
theorem d_Md_isField_43 : decode prog_12_method_49_code 43 = .ok (.goto 4, 3) := by decide +kernel
theorem d_Md_isField_46 : decode prog_12_method_49_code 46 = .ok (.iconst 0, 1) := by decide +kernel
theorem d_Md_isField_47 : decode prog_12_method_49_code 47 = .ok (.ireturn, 1) := by decide +kernel
set_option maxHeartbeats 4000000 in
set_option maxRecDepth 100000 in
theorem K_Md_isField_e {F : FT} (hD : ∀ σ, va_D F.2.2.1 (GW F.2.1 σ)) (hm : F.2.2.2.2.2.2.2.2.2.2.2.2.2.2.1 = 1) (ok : OkF F prog_12_method_49_code "LastSeenModel" ({ frames := 0, cells := 0, slots := 0, locals := 0 } : Room)) {Q : Int → SS → Prop} (hQ : RetZ F Q) {x0 : Int} {s : SS} (h : Sp_Md_isField x0 s Q) : AtS F 0 [(0, vI x0)] [] s := by
  unfold Sp_Md_isField at h
  refine r_iload_n ok 0 d_Md_isField_0 rfl rfl ?_
  refine r_bipush ok 114 d_Md_isField_1 (by decide) ?_
  refine r_icmp_eq ok 42 d_Md_isField_3 (by decide) h.1 (by decide) (fun c => ?_) (fun c => ?_)
  · replace h := h.2.1 c
    refine r_iconst ok 1 d_Md_isField_42 rfl ?_
    refine r_goto ok 47 d_Md_isField_43 (by decide) ?_
    exact hQ _ _ _ _ _ (ok_code ok) d_Md_isField_47 (by decide) h
  · replace h := h.2.2 c
    refine r_iload_n ok 0 d_Md_isField_6 rfl rfl ?_
    refine r_bipush ok 101 d_Md_isField_7 (by decide) ?_
    refine r_icmp_eq ok 42 d_Md_isField_9 (by decide) h.1 (by decide) (fun c => ?_) (fun c => ?_)
    · replace h := h.2.1 c
      refine r_iconst ok 1 d_Md_isField_42 rfl ?_
      refine r_goto ok 47 d_Md_isField_43 (by decide) ?_
      exact hQ _ _ _ _ _ (ok_code ok) d_Md_isField_47 (by decide) h
    · replace h := h.2.2 c
      refine r_iload_n ok 0 d_Md_isField_12 rfl rfl ?_
      refine r_bipush ok 104 d_Md_isField_13 (by decide) ?_
      refine r_icmp_eq ok 42 d_Md_isField_15 (by decide) h.1 (by decide) (fun c => ?_) (fun c => ?_)
      · replace h := h.2.1 c
        refine r_iconst ok 1 d_Md_isField_42 rfl ?_
        refine r_goto ok 47 d_Md_isField_43 (by decide) ?_
        exact hQ _ _ _ _ _ (ok_code ok) d_Md_isField_47 (by decide) h
      · replace h := h.2.2 c
        refine r_iload_n ok 0 d_Md_isField_18 rfl rfl ?_
        refine r_bipush ok 99 d_Md_isField_19 (by decide) ?_
        refine r_icmp_eq ok 42 d_Md_isField_21 (by decide) h.1 (by decide) (fun c => ?_) (fun c => ?_)
        · replace h := h.2.1 c
          refine r_iconst ok 1 d_Md_isField_42 rfl ?_
          refine r_goto ok 47 d_Md_isField_43 (by decide) ?_
          exact hQ _ _ _ _ _ (ok_code ok) d_Md_isField_47 (by decide) h
        · replace h := h.2.2 c
          refine r_iload_n ok 0 d_Md_isField_24 rfl rfl ?_
          refine r_bipush ok 110 d_Md_isField_25 (by decide) ?_
          refine r_icmp_eq ok 42 d_Md_isField_27 (by decide) h.1 (by decide) (fun c => ?_) (fun c => ?_)
          · replace h := h.2.1 c
            refine r_iconst ok 1 d_Md_isField_42 rfl ?_
            refine r_goto ok 47 d_Md_isField_43 (by decide) ?_
            exact hQ _ _ _ _ _ (ok_code ok) d_Md_isField_47 (by decide) h
          · replace h := h.2.2 c
            refine r_iload_n ok 0 d_Md_isField_30 rfl rfl ?_
            refine r_bipush ok 108 d_Md_isField_31 (by decide) ?_
            refine r_icmp_eq ok 42 d_Md_isField_33 (by decide) h.1 (by decide) (fun c => ?_) (fun c => ?_)
            · replace h := h.2.1 c
              refine r_iconst ok 1 d_Md_isField_42 rfl ?_
              refine r_goto ok 47 d_Md_isField_43 (by decide) ?_
              exact hQ _ _ _ _ _ (ok_code ok) d_Md_isField_47 (by decide) h
            · replace h := h.2.2 c
              refine r_iload_n ok 0 d_Md_isField_36 rfl rfl ?_
              refine r_bipush ok 107 d_Md_isField_37 (by decide) ?_
              refine r_icmp_ne ok 46 d_Md_isField_39 (by decide) h.1 (by decide) (fun c => ?_) (fun c => ?_)
              · replace h := h.2.1 c
                refine r_iconst ok 0 d_Md_isField_46 rfl ?_
                exact hQ _ _ _ _ _ (ok_code ok) d_Md_isField_47 (by decide) h
              · replace h := h.2.2 c
                refine r_iconst ok 1 d_Md_isField_42 rfl ?_
                refine r_goto ok 47 d_Md_isField_43 (by decide) ?_
                exact hQ _ _ _ _ _ (ok_code ok) d_Md_isField_47 (by decide) h
theorem L_Md_isField (l : Launch) (G : GE) (A : Nat → Prop) (hD : ∀ σ, va_D A (GW G σ)) {x0 : Int} {s : SS} {Q : Int → SS → Prop} (h : Sp_Md_isField x0 s Q) : Met l y_Md_isField (Cond.code y_Md_isField prog_12_method_49_code 1 (some .boolean) :: lw_ok) ({ frames := 0, cells := 0, slots := 0, locals := 0 } : Room) (va_Pc [vI x0] (gB G s)) (va_Qi (fun (r : Int32) (s2 : SS) => ∃ x : Int, r = iI x ∧ Q x s2) (fun s2 t => gB G s2 t) A) 0 0 A := by
  refine met_z hD (by decide) ⟨rfl, rfl⟩ (Nat.le_of_ble_eq_true rfl) (lv := [(0, vI x0)]) rfl (fun F h1 h2 h3 hm ok hQ => ?_)
  subst h1 h2 h3
  have hDF := hD
  exact K_Md_isField_e hDF hm ok hQ h
theorem d_Md_writes_0 : decode prog_12_method_50_code 0 = .ok (.aload_n 0, 1) := by decide +kernel
theorem d_Md_writes_1 : decode prog_12_method_50_code 1 = .ok (.getfield 96, 3) := by decide +kernel
theorem d_Md_writes_4 : decode prog_12_method_50_code 4 = .ok (.sipush 600, 3) := by decide +kernel
theorem d_Md_writes_7 : decode prog_12_method_50_code 7 = .ok (.aload_n 0, 1) := by decide +kernel
theorem d_Md_writes_8 : decode prog_12_method_50_code 8 = .ok (.getfield 324, 3) := by decide +kernel
theorem d_Md_writes_11 : decode prog_12_method_50_code 11 = .ok (.imul, 1) := by decide +kernel
theorem d_Md_writes_12 : decode prog_12_method_50_code 12 = .ok (.aload_n 0, 1) := by decide +kernel
theorem d_Md_writes_13 : decode prog_12_method_50_code 13 = .ok (.getfield 327, 3) := by decide +kernel
theorem d_Md_writes_16 : decode prog_12_method_50_code 16 = .ok (.iadd, 1) := by decide +kernel
theorem d_Md_writes_17 : decode prog_12_method_50_code 17 = .ok (.iload_n 1, 1) := by decide +kernel
theorem d_Md_writes_18 : decode prog_12_method_50_code 18 = .ok (.iastore, 1) := by decide +kernel
theorem d_Md_writes_19 : decode prog_12_method_50_code 19 = .ok (.aload_n 0, 1) := by decide +kernel
theorem d_Md_writes_20 : decode prog_12_method_50_code 20 = .ok (.dup, 1) := by decide +kernel
theorem d_Md_writes_21 : decode prog_12_method_50_code 21 = .ok (.getfield 327, 3) := by decide +kernel
theorem d_Md_writes_24 : decode prog_12_method_50_code 24 = .ok (.iconst 1, 1) := by decide +kernel
theorem d_Md_writes_25 : decode prog_12_method_50_code 25 = .ok (.iadd, 1) := by decide +kernel
theorem d_Md_writes_26 : decode prog_12_method_50_code 26 = .ok (.putfield 327, 3) := by decide +kernel
theorem d_Md_writes_29 : decode prog_12_method_50_code 29 = .ok (.return_, 1) := by decide +kernel
set_option maxHeartbeats 4000000 in
set_option maxRecDepth 100000 in
theorem K_Md_writes_e {F : FT} (hD : ∀ σ, va_D F.2.2.1 (GW F.2.1 σ)) (hm : F.2.2.2.2.2.2.2.2.2.2.2.2.2.2.1 = 2) (ok : OkF F prog_12_method_50_code "LastSeenModel" ({ frames := 0, cells := 0, slots := 0, locals := 0 } : Room)) {Q : SS → Prop} (hQ : RetV F Q) {x1 : Int} {s : SS} (h : Sp_Md_writes x1 s Q) : AtS F 0 [(0, .ref (F.2.1.1 10)), (1, vI x1)] [] s := by
  unfold Sp_Md_writes at h
  refine r_aload_n ok 0 d_Md_writes_0 rfl rfl ?_
  refine g_Md_code ok d_Md_writes_1 ?_
  refine r_sipush ok 600 d_Md_writes_4 (by decide) ?_
  refine r_aload_n ok 0 d_Md_writes_7 rfl rfl ?_
  refine g_Md_rules ok d_Md_writes_8 ?_
  refine r_imul ok d_Md_writes_11 ?_
  refine r_aload_n ok 0 d_Md_writes_12 rfl rfl ?_
  refine g_Md_written ok d_Md_writes_13 ?_
  refine r_iadd ok d_Md_writes_16 ?_
  refine r_iload_n ok 1 d_Md_writes_17 rfl rfl ?_
  refine r_iast ok 87 d_Md_writes_18 (by decide) rfl h.1 ?_
  replace h := h.2 _ rfl
  generalize sA s 87 ((600 * (s.1 39)) + (s.1 41)) x1 = s1 at h ⊢
  refine r_aload_n ok 0 d_Md_writes_19 rfl rfl ?_
  refine r_dup ok d_Md_writes_20 rfl ?_
  refine g_Md_written ok d_Md_writes_21 ?_
  refine r_iconst ok 1 d_Md_writes_24 rfl ?_
  refine r_iadd ok d_Md_writes_25 ?_
  refine p_Md_written ok d_Md_writes_26 ?_
  replace h := h _ rfl
  generalize sF s1 41 ((s1.1 41) + 1) = s2 at h ⊢
  exact hQ _ _ _ _ (ok_code ok) d_Md_writes_29 h
theorem L_Md_writes (l : Launch) (G : GE) (A : Nat → Prop) (hD : ∀ σ, va_D A (GW G σ)) {x1 : Int} {s : SS} {Q : SS → Prop} (h : Sp_Md_writes x1 s Q) : Met l y_Md_writes (Cond.code y_Md_writes prog_12_method_50_code 2 (none) :: lw_ok) ({ frames := 0, cells := 0, slots := 0, locals := 0 } : Room) (va_Pc [.ref (G.1 10), vI x1] (gB G s)) (va_Qv (fun (s2 : SS) => Q s2) (fun s2 t => gB G s2 t) A) 0 0 A := by
  refine met_v hD (by decide) ⟨rfl, rfl⟩ (Nat.le_of_ble_eq_true rfl) (lv := [(0, .ref (G.1 10)), (1, vI x1)]) rfl (fun F h1 h2 h3 hm ok hQ => ?_)
  subst h1 h2 h3
  have hDF := hD
  exact K_Md_writes_e hDF hm ok hQ h
theorem d_Md_unstacks_0 : decode prog_12_method_51_code 0 = .ok (.aload_n 0, 1) := by decide +kernel
theorem d_Md_unstacks_1 : decode prog_12_method_51_code 1 = .ok (.getfield 330, 3) := by decide +kernel
theorem d_Md_unstacks_4 : decode prog_12_method_51_code 4 = .ok (.ifCond .le 44, 3) := by decide +kernel
theorem d_Md_unstacks_7 : decode prog_12_method_51_code 7 = .ok (.aload_n 0, 1) := by decide +kernel
theorem d_Md_unstacks_8 : decode prog_12_method_51_code 8 = .ok (.getfield 111, 3) := by decide +kernel
theorem d_Md_unstacks_11 : decode prog_12_method_51_code 11 = .ok (.aload_n 0, 1) := by decide +kernel
theorem d_Md_unstacks_12 : decode prog_12_method_51_code 12 = .ok (.getfield 330, 3) := by decide +kernel
theorem d_Md_unstacks_15 : decode prog_12_method_51_code 15 = .ok (.iconst 1, 1) := by decide +kernel
theorem d_Md_unstacks_16 : decode prog_12_method_51_code 16 = .ok (.isub, 1) := by decide +kernel
theorem d_Md_unstacks_17 : decode prog_12_method_51_code 17 = .ok (.iaload, 1) := by decide +kernel
theorem d_Md_unstacks_18 : decode prog_12_method_51_code 18 = .ok (.iload_n 1, 1) := by decide +kernel
theorem d_Md_unstacks_19 : decode prog_12_method_51_code 19 = .ok (.if_icmp .gt 29, 3) := by decide +kernel
theorem d_Md_unstacks_22 : decode prog_12_method_51_code 22 = .ok (.aload_n 0, 1) := by decide +kernel
theorem d_Md_unstacks_23 : decode prog_12_method_51_code 23 = .ok (.dup, 1) := by decide +kernel
theorem d_Md_unstacks_24 : decode prog_12_method_51_code 24 = .ok (.getfield 330, 3) := by decide +kernel
theorem d_Md_unstacks_27 : decode prog_12_method_51_code 27 = .ok (.iconst 1, 1) := by decide +kernel
theorem d_Md_unstacks_28 : decode prog_12_method_51_code 28 = .ok (.isub, 1) := by decide +kernel
theorem d_Md_unstacks_29 : decode prog_12_method_51_code 29 = .ok (.putfield 330, 3) := by decide +kernel
theorem d_Md_unstacks_32 : decode prog_12_method_51_code 32 = .ok (.aload_n 0, 1) := by decide +kernel
theorem d_Md_unstacks_33 : decode prog_12_method_51_code 33 = .ok (.aload_n 0, 1) := by decide +kernel
theorem d_Md_unstacks_34 : decode prog_12_method_51_code 34 = .ok (.getfield 111, 3) := by decide +kernel
theorem d_Md_unstacks_37 : decode prog_12_method_51_code 37 = .ok (.aload_n 0, 1) := by decide +kernel
theorem d_Md_unstacks_38 : decode prog_12_method_51_code 38 = .ok (.getfield 330, 3) := by decide +kernel
theorem d_Md_unstacks_41 : decode prog_12_method_51_code 41 = .ok (.iaload, 1) := by decide +kernel
theorem d_Md_unstacks_42 : decode prog_12_method_51_code 42 = .ok (.invokevirtual 333, 3) := by decide +kernel
theorem d_Md_unstacks_45 : decode prog_12_method_51_code 45 = .ok (.goto (-45), 3) := by decide +kernel
theorem d_Md_unstacks_48 : decode prog_12_method_51_code 48 = .ok (.return_, 1) := by decide +kernel
set_option maxHeartbeats 4000000 in
set_option maxRecDepth 100000 in
theorem K_Md_unstacks_0 {F : FT} (hD : ∀ σ, va_D F.2.2.1 (GW F.2.1 σ)) (hm : F.2.2.2.2.2.2.2.2.2.2.2.2.2.2.1 = 2) (ok : OkF F prog_12_method_51_code "LastSeenModel" ({ frames := 1, cells := 0, slots := 0, locals := 21 } : Room)) {Q : SS → Prop} (hQ : RetV F Q) {x1 : Int} {s : SS} (h : B_Md_unstacks_0 Q (fun x1 s => AtS F 0 [(0, .ref (F.2.1.1 10)), (1, vI x1)] [] s) x1 s) : AtS F 0 [(0, .ref (F.2.1.1 10)), (1, vI x1)] [] s := by
  unfold B_Md_unstacks_0 at h
  refine r_aload_n ok 0 d_Md_unstacks_0 rfl rfl ?_
  refine g_Md_top ok d_Md_unstacks_1 ?_
  refine r_if_le ok 48 d_Md_unstacks_4 (by decide) h.1 (fun c => ?_) (fun c => ?_)
  · replace h := h.2.1 c
    exact hQ _ _ _ _ (ok_code ok) d_Md_unstacks_48 h
  · replace h := h.2.2 c
    refine r_aload_n ok 0 d_Md_unstacks_7 rfl rfl ?_
    refine g_Md_stack ok d_Md_unstacks_8 ?_
    refine r_aload_n ok 0 d_Md_unstacks_11 rfl rfl ?_
    refine g_Md_top ok d_Md_unstacks_12 ?_
    refine r_iconst ok 1 d_Md_unstacks_15 rfl ?_
    refine r_isub ok d_Md_unstacks_16 ?_
    refine r_iald ok 92 d_Md_unstacks_17 (by decide) rfl h.1 ?_
    replace h := h.2
    refine r_iload_n ok 1 d_Md_unstacks_18 rfl rfl ?_
    refine r_icmp_gt ok 48 d_Md_unstacks_19 (by decide) h.1 h.2.1 (fun c => ?_) (fun c => ?_)
    · replace h := h.2.2.1 c
      exact hQ _ _ _ _ (ok_code ok) d_Md_unstacks_48 h
    · replace h := h.2.2.2 c
      refine r_aload_n ok 0 d_Md_unstacks_22 rfl rfl ?_
      refine r_dup ok d_Md_unstacks_23 rfl ?_
      refine g_Md_top ok d_Md_unstacks_24 ?_
      refine r_iconst ok 1 d_Md_unstacks_27 rfl ?_
      refine r_isub ok d_Md_unstacks_28 ?_
      refine p_Md_top ok d_Md_unstacks_29 ?_
      replace h := h _ rfl
      generalize sF s 43 ((s.1 43) - 1) = s1 at h ⊢
      refine r_aload_n ok 0 d_Md_unstacks_32 rfl rfl ?_
      refine r_aload_n ok 0 d_Md_unstacks_33 rfl rfl ?_
      refine g_Md_stack ok d_Md_unstacks_34 ?_
      refine r_aload_n ok 0 d_Md_unstacks_37 rfl rfl ?_
      refine g_Md_top ok d_Md_unstacks_38 ?_
      refine r_iald ok 92 d_Md_unstacks_41 (by decide) rfl h.1 ?_
      replace h := h.2
      refine r_callVv (As := [vI (s1.2 92 (s1.1 43))]) (rest := []) ok 10 rfl rfl rfl wl_Md_333 wi_y_Md_writes ws_y_Md_writes wn_Md wc_y_Md_writes (by decide) (by decide) hh_Md_writes (Nat.le_of_ble_eq_true rfl) rfl d_Md_unstacks_42 (L_Md_writes F.1 F.2.1 F.2.2.1 hD h) (fun s2 h => ?_)
      refine r_goto ok 0 d_Md_unstacks_45 (by decide) ?_
      exact r_sub [0, 1] rfl h
set_option maxHeartbeats 4000000 in
set_option maxRecDepth 100000 in
theorem K_Md_unstacks_e {F : FT} (hD : ∀ σ, va_D F.2.2.1 (GW F.2.1 σ)) (hm : F.2.2.2.2.2.2.2.2.2.2.2.2.2.2.1 = 2) (ok : OkF F prog_12_method_51_code "LastSeenModel" ({ frames := 1, cells := 0, slots := 0, locals := 21 } : Room)) {Q : SS → Prop} (hQ : RetV F Q) {x1 : Int} {s : SS} (h : B_Md_unstacks_e Q (fun x1 s => AtS F 0 [(0, .ref (F.2.1.1 10)), (1, vI x1)] [] s) x1 s) : AtS F 0 [(0, .ref (F.2.1.1 10)), (1, vI x1)] [] s := by
  unfold B_Md_unstacks_e at h
  exact r_sub [0, 1] rfl h
theorem L_Md_unstacks (l : Launch) (G : GE) (A : Nat → Prop) (hD : ∀ σ, va_D A (GW G σ)) {x1 : Int} {s : SS} {Q : SS → Prop} (h : Sp_Md_unstacks x1 s Q) : Met l y_Md_unstacks (Cond.code y_Md_unstacks prog_12_method_51_code 2 (none) :: lw_ok) ({ frames := 1, cells := 0, slots := 0, locals := 21 } : Room) (va_Pc [.ref (G.1 10), vI x1] (gB G s)) (va_Qv (fun (s2 : SS) => Q s2) (fun s2 t => gB G s2 t) A) 0 0 A := by
  refine met_v hD (by decide) ⟨rfl, rfl⟩ (Nat.le_of_ble_eq_true rfl) (lv := [(0, .ref (G.1 10)), (1, vI x1)]) rfl (fun F h1 h2 h3 hm ok hQ => ?_)
  subst h1 h2 h3
  have hDF := hD
  exact K_Md_unstacks_e hDF hm ok hQ (h _ (fun _ _ hb => K_Md_unstacks_0 hDF hm ok hQ hb))
theorem d_Md_operand_0 : decode prog_12_method_52_code 0 = .ok (.aload_n 0, 1) := by decide +kernel
theorem d_Md_operand_1 : decode prog_12_method_52_code 1 = .ok (.invokevirtual 336, 3) := by decide +kernel
theorem d_Md_operand_4 : decode prog_12_method_52_code 4 = .ok (.bipush 33, 2) := by decide +kernel
theorem d_Md_operand_6 : decode prog_12_method_52_code 6 = .ok (.if_icmp .eq 12, 3) := by decide +kernel
theorem d_Md_operand_9 : decode prog_12_method_52_code 9 = .ok (.aload_n 0, 1) := by decide +kernel
theorem d_Md_operand_10 : decode prog_12_method_52_code 10 = .ok (.invokevirtual 336, 3) := by decide +kernel
theorem d_Md_operand_13 : decode prog_12_method_52_code 13 = .ok (.bipush 40, 2) := by decide +kernel
theorem d_Md_operand_15 : decode prog_12_method_52_code 15 = .ok (.if_icmp .ne 73, 3) := by decide +kernel
theorem d_Md_operand_18 : decode prog_12_method_52_code 18 = .ok (.aload_n 0, 1) := by decide +kernel
theorem d_Md_operand_19 : decode prog_12_method_52_code 19 = .ok (.getfield 111, 3) := by decide +kernel
theorem d_Md_operand_22 : decode prog_12_method_52_code 22 = .ok (.aload_n 0, 1) := by decide +kernel
theorem d_Md_operand_23 : decode prog_12_method_52_code 23 = .ok (.getfield 330, 3) := by decide +kernel
theorem d_Md_operand_26 : decode prog_12_method_52_code 26 = .ok (.aload_n 0, 1) := by decide +kernel
theorem d_Md_operand_27 : decode prog_12_method_52_code 27 = .ok (.invokevirtual 336, 3) := by decide +kernel
theorem d_Md_operand_30 : decode prog_12_method_52_code 30 = .ok (.bipush 33, 2) := by decide +kernel
theorem d_Md_operand_32 : decode prog_12_method_52_code 32 = .ok (.if_icmp .ne 7, 3) := by decide +kernel
theorem d_Md_operand_35 : decode prog_12_method_52_code 35 = .ok (.iconst 0, 1) := by decide +kernel
theorem d_Md_operand_36 : decode prog_12_method_52_code 36 = .ok (.goto 5, 3) := by decide +kernel
theorem d_Md_operand_39 : decode prog_12_method_52_code 39 = .ok (.bipush 9, 2) := by decide +kernel
theorem d_Md_operand_41 : decode prog_12_method_52_code 41 = .ok (.iastore, 1) := by decide +kernel
theorem d_Md_operand_42 : decode prog_12_method_52_code 42 = .ok (.aload_n 0, 1) := by decide +kernel
theorem d_Md_operand_43 : decode prog_12_method_52_code 43 = .ok (.dup, 1) := by decide +kernel
theorem d_Md_operand_44 : decode prog_12_method_52_code 44 = .ok (.getfield 330, 3) := by decide +kernel
theorem d_Md_operand_47 : decode prog_12_method_52_code 47 = .ok (.iconst 1, 1) := by decide +kernel
theorem d_Md_operand_48 : decode prog_12_method_52_code 48 = .ok (.iadd, 1) := by decide +kernel
theorem d_Md_operand_49 : decode prog_12_method_52_code 49 = .ok (.putfield 330, 3) := by decide +kernel
theorem d_Md_operand_52 : decode prog_12_method_52_code 52 = .ok (.aload_n 0, 1) := by decide +kernel
theorem d_Md_operand_53 : decode prog_12_method_52_code 53 = .ok (.dup, 1) := by decide +kernel
theorem d_Md_operand_54 : decode prog_12_method_52_code 54 = .ok (.getfield 339, 3) := by decide +kernel
theorem d_Md_operand_57 : decode prog_12_method_52_code 57 = .ok (.aload_n 0, 1) := by decide +kernel
theorem d_Md_operand_58 : decode prog_12_method_52_code 58 = .ok (.invokevirtual 336, 3) := by decide +kernel
theorem d_Md_operand_61 : decode prog_12_method_52_code 61 = .ok (.bipush 40, 2) := by decide +kernel
theorem d_Md_operand_63 : decode prog_12_method_52_code 63 = .ok (.if_icmp .ne 7, 3) := by decide +kernel
theorem d_Md_operand_66 : decode prog_12_method_52_code 66 = .ok (.iconst 1, 1) := by decide +kernel
theorem d_Md_operand_67 : decode prog_12_method_52_code 67 = .ok (.goto 4, 3) := by decide +kernel
theorem d_Md_operand_70 : decode prog_12_method_52_code 70 = .ok (.iconst 0, 1) := by decide +kernel
theorem d_Md_operand_71 : decode prog_12_method_52_code 71 = .ok (.iadd, 1) := by decide +kernel
theorem d_Md_operand_72 : decode prog_12_method_52_code 72 = .ok (.putfield 339, 3) := by decide +kernel
theorem d_Md_operand_75 : decode prog_12_method_52_code 75 = .ok (.aload_n 0, 1) := by decide +kernel
theorem d_Md_operand_76 : decode prog_12_method_52_code 76 = .ok (.dup, 1) := by decide +kernel
theorem d_Md_operand_77 : decode prog_12_method_52_code 77 = .ok (.getfield 321, 3) := by decide +kernel
theorem d_Md_operand_80 : decode prog_12_method_52_code 80 = .ok (.iconst 1, 1) := by decide +kernel
theorem d_Md_operand_81 : decode prog_12_method_52_code 81 = .ok (.iadd, 1) := by decide +kernel
theorem d_Md_operand_82 : decode prog_12_method_52_code 82 = .ok (.putfield 321, 3) := by decide +kernel
theorem d_Md_operand_85 : decode prog_12_method_52_code 85 = .ok (.goto (-85), 3) := by decide +kernel
theorem d_Md_operand_88 : decode prog_12_method_52_code 88 = .ok (.aload_n 0, 1) := by decide +kernel
theorem d_Md_operand_89 : decode prog_12_method_52_code 89 = .ok (.invokevirtual 336, 3) := by decide +kernel
theorem d_Md_operand_92 : decode prog_12_method_52_code 92 = .ok (.invokestatic 342, 3) := by decide +kernel
theorem d_Md_operand_95 : decode prog_12_method_52_code 95 = .ok (.ifCond .ne 5, 3) := by decide +kernel
theorem d_Md_operand_98 : decode prog_12_method_52_code 98 = .ok (.iconst 0, 1) := by decide +kernel
theorem d_Md_operand_99 : decode prog_12_method_52_code 99 = .ok (.ireturn, 1) := by decide +kernel
theorem d_Md_operand_100 : decode prog_12_method_52_code 100 = .ok (.aload_n 0, 1) := by decide +kernel
theorem d_Md_operand_101 : decode prog_12_method_52_code 101 = .ok (.aload_n 0, 1) := by decide +kernel
theorem d_Md_operand_102 : decode prog_12_method_52_code 102 = .ok (.invokevirtual 336, 3) := by decide +kernel
theorem d_Md_operand_105 : decode prog_12_method_52_code 105 = .ok (.invokevirtual 333, 3) := by decide +kernel
theorem d_Md_operand_108 : decode prog_12_method_52_code 108 = .ok (.aload_n 0, 1) := by decide +kernel
theorem d_Md_operand_109 : decode prog_12_method_52_code 109 = .ok (.dup, 1) := by decide +kernel
theorem d_Md_operand_110 : decode prog_12_method_52_code 110 = .ok (.getfield 321, 3) := by decide +kernel
theorem d_Md_operand_113 : decode prog_12_method_52_code 113 = .ok (.iconst 1, 1) := by decide +kernel
theorem d_Md_operand_114 : decode prog_12_method_52_code 114 = .ok (.iadd, 1) := by decide +kernel
theorem d_Md_operand_115 : decode prog_12_method_52_code 115 = .ok (.putfield 321, 3) := by decide +kernel
theorem d_Md_operand_118 : decode prog_12_method_52_code 118 = .ok (.aload_n 0, 1) := by decide +kernel
theorem d_Md_operand_119 : decode prog_12_method_52_code 119 = .ok (.invokevirtual 336, 3) := by decide +kernel
theorem d_Md_operand_122 : decode prog_12_method_52_code 122 = .ok (.bipush 60, 2) := by decide +kernel
theorem d_Md_operand_124 : decode prog_12_method_52_code 124 = .ok (.if_icmp .eq 23, 3) := by decide +kernel
theorem d_Md_operand_127 : decode prog_12_method_52_code 127 = .ok (.aload_n 0, 1) := by decide +kernel
theorem d_Md_operand_128 : decode prog_12_method_52_code 128 = .ok (.invokevirtual 336, 3) := by decide +kernel
theorem d_Md_operand_131 : decode prog_12_method_52_code 131 = .ok (.bipush 61, 2) := by decide +kernel
theorem d_Md_operand_133 : decode prog_12_method_52_code 133 = .ok (.if_icmp .eq 14, 3) := by decide +kernel
theorem d_Md_operand_136 : decode prog_12_method_52_code 136 = .ok (.aload_n 0, 1) := by decide +kernel
theorem d_Md_operand_137 : decode prog_12_method_52_code 137 = .ok (.invokevirtual 336, 3) := by decide +kernel
theorem d_Md_operand_140 : decode prog_12_method_52_code 140 = .ok (.bipush 46, 2) := by decide +kernel
theorem d_Md_operand_142 : decode prog_12_method_52_code 142 = .ok (.if_icmp .eq 5, 3) := by decide +kernel
theorem d_Md_operand_145 : decode prog_12_method_52_code 145 = .ok (.iconst 0, 1) := by decide +kernel
theorem d_Md_operand_146 : decode prog_12_method_52_code 146 = .ok (.ireturn, 1) := by decide +kernel
theorem d_Md_operand_147 : decode prog_12_method_52_code 147 = .ok (.aload_n 0, 1) := by decide +kernel
theorem d_Md_operand_148 : decode prog_12_method_52_code 148 = .ok (.aload_n 0, 1) := by decide +kernel
theorem d_Md_operand_149 : decode prog_12_method_52_code 149 = .ok (.invokevirtual 336, 3) := by decide +kernel
theorem d_Md_operand_152 : decode prog_12_method_52_code 152 = .ok (.invokevirtual 333, 3) := by decide +kernel
theorem d_Md_operand_155 : decode prog_12_method_52_code 155 = .ok (.aload_n 0, 1) := by decide +kernel
theorem d_Md_operand_156 : decode prog_12_method_52_code 156 = .ok (.dup, 1) := by decide +kernel
theorem d_Md_operand_157 : decode prog_12_method_52_code 157 = .ok (.getfield 321, 3) := by decide +kernel
theorem d_Md_operand_160 : decode prog_12_method_52_code 160 = .ok (.iconst 1, 1) := by decide +kernel
theorem d_Md_operand_161 : decode prog_12_method_52_code 161 = .ok (.iadd, 1) := by decide +kernel
theorem d_Md_operand_162 : decode prog_12_method_52_code 162 = .ok (.putfield 321, 3) := by decide +kernel
theorem d_Md_operand_165 : decode prog_12_method_52_code 165 = .ok (.aload_n 0, 1) := by decide +kernel
theorem d_Md_operand_166 : decode prog_12_method_52_code 166 = .ok (.invokevirtual 336, 3) := by decide +kernel
theorem d_Md_operand_169 : decode prog_12_method_52_code 169 = .ok (.invokestatic 345, 3) := by decide +kernel
theorem d_Md_operand_172 : decode prog_12_method_52_code 172 = .ok (.ifCond .ne 5, 3) := by decide +kernel
theorem d_Md_operand_175 : decode prog_12_method_52_code 175 = .ok (.iconst 0, 1) := by decide +kernel
theorem d_Md_operand_176 : decode prog_12_method_52_code 176 = .ok (.ireturn, 1) := by decide +kernel
theorem d_Md_operand_177 : decode prog_12_method_52_code 177 = .ok (.aload_n 0, 1) := by decide +kernel
theorem d_Md_operand_178 : decode prog_12_method_52_code 178 = .ok (.invokevirtual 336, 3) := by decide +kernel
theorem d_Md_operand_181 : decode prog_12_method_52_code 181 = .ok (.bipush 48, 2) := by decide +kernel
theorem d_Md_operand_183 : decode prog_12_method_52_code 183 = .ok (.isub, 1) := by decide +kernel
theorem d_Md_operand_184 : decode prog_12_method_52_code 184 = .ok (.istore_n 1, 1) := by decide +kernel
theorem d_Md_operand_185 : decode prog_12_method_52_code 185 = .ok (.aload_n 0, 1) := by decide +kernel
theorem d_Md_operand_186 : decode prog_12_method_52_code 186 = .ok (.dup, 1) := by decide +kernel
theorem d_Md_operand_187 : decode prog_12_method_52_code 187 = .ok (.getfield 321, 3) := by decide +kernel
theorem d_Md_operand_190 : decode prog_12_method_52_code 190 = .ok (.iconst 1, 1) := by decide +kernel
theorem d_Md_operand_191 : decode prog_12_method_52_code 191 = .ok (.iadd, 1) := by decide +kernel
theorem d_Md_operand_192 : decode prog_12_method_52_code 192 = .ok (.putfield 321, 3) := by decide +kernel
theorem d_Md_operand_195 : decode prog_12_method_52_code 195 = .ok (.iconst 1, 1) := by decide +kernel
theorem d_Md_operand_196 : decode prog_12_method_52_code 196 = .ok (.istore_n 2, 1) := by decide +kernel
theorem d_Md_operand_197 : decode prog_12_method_52_code 197 = .ok (.iload_n 2, 1) := by decide +kernel
theorem d_Md_operand_198 : decode prog_12_method_52_code 198 = .ok (.iconst 3, 1) := by decide +kernel
theorem d_Md_operand_199 : decode prog_12_method_52_code 199 = .ok (.if_icmp .ge 46, 3) := by decide +kernel
theorem d_Md_operand_202 : decode prog_12_method_52_code 202 = .ok (.iload_n 1, 1) := by decide +kernel
theorem d_Md_operand_203 : decode prog_12_method_52_code 203 = .ok (.ifCond .le 42, 3) := by decide +kernel
theorem d_Md_operand_206 : decode prog_12_method_52_code 206 = .ok (.aload_n 0, 1) := by decide +kernel
theorem d_Md_operand_207 : decode prog_12_method_52_code 207 = .ok (.invokevirtual 336, 3) := by decide +kernel
theorem d_Md_operand_210 : decode prog_12_method_52_code 210 = .ok (.invokestatic 345, 3) := by decide +kernel
theorem d_Md_operand_213 : decode prog_12_method_52_code 213 = .ok (.ifCond .eq 32, 3) := by decide +kernel
theorem d_Md_operand_216 : decode prog_12_method_52_code 216 = .ok (.bipush 10, 2) := by decide +kernel
theorem d_Md_operand_218 : decode prog_12_method_52_code 218 = .ok (.iload_n 1, 1) := by decide +kernel
theorem d_Md_operand_219 : decode prog_12_method_52_code 219 = .ok (.imul, 1) := by decide +kernel
theorem d_Md_operand_220 : decode prog_12_method_52_code 220 = .ok (.aload_n 0, 1) := by decide +kernel
theorem d_Md_operand_221 : decode prog_12_method_52_code 221 = .ok (.invokevirtual 336, 3) := by decide +kernel
theorem d_Md_operand_224 : decode prog_12_method_52_code 224 = .ok (.iadd, 1) := by decide +kernel
theorem d_Md_operand_225 : decode prog_12_method_52_code 225 = .ok (.bipush 48, 2) := by decide +kernel
theorem d_Md_operand_227 : decode prog_12_method_52_code 227 = .ok (.isub, 1) := by decide +kernel
theorem d_Md_operand_228 : decode prog_12_method_52_code 228 = .ok (.istore_n 1, 1) := by decide +kernel
theorem d_Md_operand_229 : decode prog_12_method_52_code 229 = .ok (.aload_n 0, 1) := by decide +kernel
theorem d_Md_operand_230 : decode prog_12_method_52_code 230 = .ok (.dup, 1) := by decide +kernel
theorem d_Md_operand_231 : decode prog_12_method_52_code 231 = .ok (.getfield 321, 3) := by decide +kernel
theorem d_Md_operand_234 : decode prog_12_method_52_code 234 = .ok (.iconst 1, 1) := by decide +kernel
theorem d_Md_operand_235 : decode prog_12_method_52_code 235 = .ok (.iadd, 1) := by decide +kernel
theorem d_Md_operand_236 : decode prog_12_method_52_code 236 = .ok (.putfield 321, 3) := by decide +kernel
theorem d_Md_operand_239 : decode prog_12_method_52_code 239 = .ok (.iinc 2 1, 3) := by decide +kernel
theorem d_Md_operand_242 : decode prog_12_method_52_code 242 = .ok (.goto (-45), 3) := by decide +kernel
theorem d_Md_operand_245 : decode prog_12_method_52_code 245 = .ok (.aload_n 0, 1) := by decide +kernel
theorem d_Md_operand_246 : decode prog_12_method_52_code 246 = .ok (.iload_n 1, 1) := by decide +kernel
theorem d_Md_operand_247 : decode prog_12_method_52_code 247 = .ok (.invokevirtual 333, 3) := by decide +kernel
theorem d_Md_operand_250 : decode prog_12_method_52_code 250 = .ok (.aload_n 0, 1) := by decide +kernel
theorem d_Md_operand_251 : decode prog_12_method_52_code 251 = .ok (.iconst 0, 1) := by decide +kernel
theorem d_Md_operand_252 : decode prog_12_method_52_code 252 = .ok (.invokevirtual 348, 3) := by decide +kernel
theorem d_Md_operand_255 : decode prog_12_method_52_code 255 = .ok (.iconst 1, 1) := by decide +kernel
theorem d_Md_operand_256 : decode prog_12_method_52_code 256 = .ok (.ireturn, 1) := by decide +kernel
set_option maxHeartbeats 4000000 in
set_option maxRecDepth 100000 in
theorem K_Md_operand_0 {F : FT} (hD : ∀ σ, va_D F.2.2.1 (GW F.2.1 σ)) (hm : F.2.2.2.2.2.2.2.2.2.2.2.2.2.2.1 = 3) (ok : OkF F prog_12_method_52_code "LastSeenModel" ({ frames := 2, cells := 0, slots := 0, locals := 42 } : Room)) {Q : Int → SS → Prop} (hQ : RetZ F Q) {s : SS} (h : B_Md_operand_0 Q (fun s => AtS F 0 [(0, .ref (F.2.1.1 10))] [] s) (fun y0 y1 s => AtS F 41 [(0, .ref (F.2.1.1 10))] [vI y0, vI y1, .ref (F.2.1.1 103)] s) (fun s => AtS F 147 [(0, .ref (F.2.1.1 10))] [] s) (fun x1 x2 s => AtS F 197 [(0, .ref (F.2.1.1 10)), (1, vI x1), (2, vI x2)] [] s)  s) : AtS F 0 [(0, .ref (F.2.1.1 10))] [] s := by
  unfold B_Md_operand_0 at h
  refine r_aload_n ok 0 d_Md_operand_0 rfl rfl ?_
  refine r_callVi (As := []) (rest := []) ok 10 rfl rfl rfl wl_Md_336 wi_y_Md_sign ws_y_Md_sign wn_Md wc_y_Md_sign (by decide) (by decide) hh_Md_sign (Nat.le_of_ble_eq_true rfl) rfl d_Md_operand_1 (L_Md_sign F.1 F.2.1 F.2.2.1 hD h) (fun r2 s1 h => ?_)
  refine r_bipush ok 33 d_Md_operand_4 (by decide) ?_
  refine r_icmp_eq ok 18 d_Md_operand_6 (by decide) h.1 (by decide) (fun c => ?_) (fun c => ?_)
  · replace h := h.2.1 c
    refine r_aload_n ok 0 d_Md_operand_18 rfl rfl ?_
    refine g_Md_stack ok d_Md_operand_19 ?_
    refine r_aload_n ok 0 d_Md_operand_22 rfl rfl ?_
    refine g_Md_top ok d_Md_operand_23 ?_
    refine r_aload_n ok 0 d_Md_operand_26 rfl rfl ?_
    refine r_callVi (As := []) (rest := [vI (s1.1 43), .ref (F.2.1.1 103)]) ok 10 rfl rfl rfl wl_Md_336 wi_y_Md_sign ws_y_Md_sign wn_Md wc_y_Md_sign (by decide) (by decide) hh_Md_sign (Nat.le_of_ble_eq_true rfl) rfl d_Md_operand_27 (L_Md_sign F.1 F.2.1 F.2.2.1 hD h) (fun r4 s3 h => ?_)
    refine r_bipush ok 33 d_Md_operand_30 (by decide) ?_
    refine r_icmp_ne ok 39 d_Md_operand_32 (by decide) h.1 (by decide) (fun c => ?_) (fun c => ?_)
    · replace h := h.2.1 c
      refine r_bipush ok 9 d_Md_operand_39 (by decide) ?_
      exact r_sub [0] rfl h
    · replace h := h.2.2 c
      refine r_iconst ok 0 d_Md_operand_35 rfl ?_
      refine r_goto ok 41 d_Md_operand_36 (by decide) ?_
      exact r_sub [0] rfl h
  · replace h := h.2.2 c
    refine r_aload_n ok 0 d_Md_operand_9 rfl rfl ?_
    refine r_callVi (As := []) (rest := []) ok 10 rfl rfl rfl wl_Md_336 wi_y_Md_sign ws_y_Md_sign wn_Md wc_y_Md_sign (by decide) (by decide) hh_Md_sign (Nat.le_of_ble_eq_true rfl) rfl d_Md_operand_10 (L_Md_sign F.1 F.2.1 F.2.2.1 hD h) (fun r6 s5 h => ?_)
    refine r_bipush ok 40 d_Md_operand_13 (by decide) ?_
    refine r_icmp_ne ok 88 d_Md_operand_15 (by decide) h.1 (by decide) (fun c => ?_) (fun c => ?_)
    · replace h := h.2.1 c
      refine r_aload_n ok 0 d_Md_operand_88 rfl rfl ?_
      refine r_callVi (As := []) (rest := []) ok 10 rfl rfl rfl wl_Md_336 wi_y_Md_sign ws_y_Md_sign wn_Md wc_y_Md_sign (by decide) (by decide) hh_Md_sign (Nat.le_of_ble_eq_true rfl) rfl d_Md_operand_89 (L_Md_sign F.1 F.2.1 F.2.2.1 hD h) (fun r8 s7 h => ?_)
      refine r_callSi (As := [vI r8]) (rest := []) ok wl_Md_342 wt_y_Md_isField wn_Md wc_y_Md_isField (by decide) (by decide) hh_Md_isField (Nat.le_of_ble_eq_true rfl) rfl d_Md_operand_92 (L_Md_isField F.1 F.2.1 F.2.2.1 hD h) (fun r10 s9 h => ?_)
      refine r_if_ne ok 100 d_Md_operand_95 (by decide) h.1 (fun c => ?_) (fun c => ?_)
      · replace h := h.2.1 c
        refine r_aload_n ok 0 d_Md_operand_100 rfl rfl ?_
        refine r_aload_n ok 0 d_Md_operand_101 rfl rfl ?_
        refine r_callVi (As := []) (rest := [.ref (F.2.1.1 10)]) ok 10 rfl rfl rfl wl_Md_336 wi_y_Md_sign ws_y_Md_sign wn_Md wc_y_Md_sign (by decide) (by decide) hh_Md_sign (Nat.le_of_ble_eq_true rfl) rfl d_Md_operand_102 (L_Md_sign F.1 F.2.1 F.2.2.1 hD h) (fun r12 s11 h => ?_)
        refine r_callVv (As := [vI r12]) (rest := []) ok 10 rfl rfl rfl wl_Md_333 wi_y_Md_writes ws_y_Md_writes wn_Md wc_y_Md_writes (by decide) (by decide) hh_Md_writes (Nat.le_of_ble_eq_true rfl) rfl d_Md_operand_105 (L_Md_writes F.1 F.2.1 F.2.2.1 hD h) (fun s13 h => ?_)
        refine r_aload_n ok 0 d_Md_operand_108 rfl rfl ?_
        refine r_dup ok d_Md_operand_109 rfl ?_
        refine g_Md_at ok d_Md_operand_110 ?_
        refine r_iconst ok 1 d_Md_operand_113 rfl ?_
        refine r_iadd ok d_Md_operand_114 ?_
        refine p_Md_at ok d_Md_operand_115 ?_
        replace h := h _ rfl
        generalize sF s13 40 ((s13.1 40) + 1) = s14 at h ⊢
        refine r_aload_n ok 0 d_Md_operand_118 rfl rfl ?_
        refine r_callVi (As := []) (rest := []) ok 10 rfl rfl rfl wl_Md_336 wi_y_Md_sign ws_y_Md_sign wn_Md wc_y_Md_sign (by decide) (by decide) hh_Md_sign (Nat.le_of_ble_eq_true rfl) rfl d_Md_operand_119 (L_Md_sign F.1 F.2.1 F.2.2.1 hD h) (fun r16 s15 h => ?_)
        refine r_bipush ok 60 d_Md_operand_122 (by decide) ?_
        refine r_icmp_eq ok 147 d_Md_operand_124 (by decide) h.1 (by decide) (fun c => ?_) (fun c => ?_)
        · replace h := h.2.1 c
          exact r_sub [0] rfl h
        · replace h := h.2.2 c
          refine r_aload_n ok 0 d_Md_operand_127 rfl rfl ?_
          refine r_callVi (As := []) (rest := []) ok 10 rfl rfl rfl wl_Md_336 wi_y_Md_sign ws_y_Md_sign wn_Md wc_y_Md_sign (by decide) (by decide) hh_Md_sign (Nat.le_of_ble_eq_true rfl) rfl d_Md_operand_128 (L_Md_sign F.1 F.2.1 F.2.2.1 hD h) (fun r18 s17 h => ?_)
          refine r_bipush ok 61 d_Md_operand_131 (by decide) ?_
          refine r_icmp_eq ok 147 d_Md_operand_133 (by decide) h.1 (by decide) (fun c => ?_) (fun c => ?_)
          · replace h := h.2.1 c
            exact r_sub [0] rfl h
          · replace h := h.2.2 c
            refine r_aload_n ok 0 d_Md_operand_136 rfl rfl ?_
            refine r_callVi (As := []) (rest := []) ok 10 rfl rfl rfl wl_Md_336 wi_y_Md_sign ws_y_Md_sign wn_Md wc_y_Md_sign (by decide) (by decide) hh_Md_sign (Nat.le_of_ble_eq_true rfl) rfl d_Md_operand_137 (L_Md_sign F.1 F.2.1 F.2.2.1 hD h) (fun r20 s19 h => ?_)
            refine r_bipush ok 46 d_Md_operand_140 (by decide) ?_
            refine r_icmp_eq ok 147 d_Md_operand_142 (by decide) h.1 (by decide) (fun c => ?_) (fun c => ?_)
            · replace h := h.2.1 c
              exact r_sub [0] rfl h
            · replace h := h.2.2 c
              refine r_iconst ok 0 d_Md_operand_145 rfl ?_
              exact hQ _ _ _ _ _ (ok_code ok) d_Md_operand_146 (by decide) h
      · replace h := h.2.2 c
        refine r_iconst ok 0 d_Md_operand_98 rfl ?_
        exact hQ _ _ _ _ _ (ok_code ok) d_Md_operand_99 (by decide) h
    · replace h := h.2.2 c
      refine r_aload_n ok 0 d_Md_operand_18 rfl rfl ?_
      refine g_Md_stack ok d_Md_operand_19 ?_
      refine r_aload_n ok 0 d_Md_operand_22 rfl rfl ?_
      refine g_Md_top ok d_Md_operand_23 ?_
      refine r_aload_n ok 0 d_Md_operand_26 rfl rfl ?_
      refine r_callVi (As := []) (rest := [vI (s5.1 43), .ref (F.2.1.1 103)]) ok 10 rfl rfl rfl wl_Md_336 wi_y_Md_sign ws_y_Md_sign wn_Md wc_y_Md_sign (by decide) (by decide) hh_Md_sign (Nat.le_of_ble_eq_true rfl) rfl d_Md_operand_27 (L_Md_sign F.1 F.2.1 F.2.2.1 hD h) (fun r22 s21 h => ?_)
      refine r_bipush ok 33 d_Md_operand_30 (by decide) ?_
      refine r_icmp_ne ok 39 d_Md_operand_32 (by decide) h.1 (by decide) (fun c => ?_) (fun c => ?_)
      · replace h := h.2.1 c
        refine r_bipush ok 9 d_Md_operand_39 (by decide) ?_
        exact r_sub [0] rfl h
      · replace h := h.2.2 c
        refine r_iconst ok 0 d_Md_operand_35 rfl ?_
        refine r_goto ok 41 d_Md_operand_36 (by decide) ?_
        exact r_sub [0] rfl h
set_option maxHeartbeats 4000000 in
set_option maxRecDepth 100000 in
theorem K_Md_operand_41 {F : FT} (hD : ∀ σ, va_D F.2.2.1 (GW F.2.1 σ)) (hm : F.2.2.2.2.2.2.2.2.2.2.2.2.2.2.1 = 3) (ok : OkF F prog_12_method_52_code "LastSeenModel" ({ frames := 2, cells := 0, slots := 0, locals := 42 } : Room)) {Q : Int → SS → Prop} (hQ : RetZ F Q) {y0 y1 : Int} {s : SS} (h : B_Md_operand_41 Q (fun s => AtS F 0 [(0, .ref (F.2.1.1 10))] [] s) (fun y0 y1 s => AtS F 41 [(0, .ref (F.2.1.1 10))] [vI y0, vI y1, .ref (F.2.1.1 103)] s) (fun s => AtS F 147 [(0, .ref (F.2.1.1 10))] [] s) (fun x1 x2 s => AtS F 197 [(0, .ref (F.2.1.1 10)), (1, vI x1), (2, vI x2)] [] s) y0 y1 s) : AtS F 41 [(0, .ref (F.2.1.1 10))] [vI y0, vI y1, .ref (F.2.1.1 103)] s := by
  unfold B_Md_operand_41 at h
  refine r_iast ok 92 d_Md_operand_41 (by decide) rfl h.1 ?_
  replace h := h.2 _ rfl
  generalize sA s 92 y1 y0 = s23 at h ⊢
  refine r_aload_n ok 0 d_Md_operand_42 rfl rfl ?_
  refine r_dup ok d_Md_operand_43 rfl ?_
  refine g_Md_top ok d_Md_operand_44 ?_
  refine r_iconst ok 1 d_Md_operand_47 rfl ?_
  refine r_iadd ok d_Md_operand_48 ?_
  refine p_Md_top ok d_Md_operand_49 ?_
  replace h := h _ rfl
  generalize sF s23 43 ((s23.1 43) + 1) = s24 at h ⊢
  refine r_aload_n ok 0 d_Md_operand_52 rfl rfl ?_
  refine r_dup ok d_Md_operand_53 rfl ?_
  refine g_Md_deep ok d_Md_operand_54 ?_
  refine r_aload_n ok 0 d_Md_operand_57 rfl rfl ?_
  refine r_callVi (As := []) (rest := [vI (s24.1 42), .ref (F.2.1.1 10)]) ok 10 rfl rfl rfl wl_Md_336 wi_y_Md_sign ws_y_Md_sign wn_Md wc_y_Md_sign (by decide) (by decide) hh_Md_sign (Nat.le_of_ble_eq_true rfl) rfl d_Md_operand_58 (L_Md_sign F.1 F.2.1 F.2.2.1 hD h) (fun r26 s25 h => ?_)
  refine r_bipush ok 40 d_Md_operand_61 (by decide) ?_
  refine r_icmp_ne ok 70 d_Md_operand_63 (by decide) h.1 (by decide) (fun c => ?_) (fun c => ?_)
  · replace h := h.2.1 c
    refine r_iconst ok 0 d_Md_operand_70 rfl ?_
    refine r_iadd ok d_Md_operand_71 ?_
    refine p_Md_deep ok d_Md_operand_72 ?_
    replace h := h _ rfl
    generalize sF s25 42 ((s24.1 42) + 0) = s27 at h ⊢
    refine r_aload_n ok 0 d_Md_operand_75 rfl rfl ?_
    refine r_dup ok d_Md_operand_76 rfl ?_
    refine g_Md_at ok d_Md_operand_77 ?_
    refine r_iconst ok 1 d_Md_operand_80 rfl ?_
    refine r_iadd ok d_Md_operand_81 ?_
    refine p_Md_at ok d_Md_operand_82 ?_
    replace h := h _ rfl
    generalize sF s27 40 ((s27.1 40) + 1) = s28 at h ⊢
    refine r_goto ok 0 d_Md_operand_85 (by decide) ?_
    exact r_sub [0] rfl h
  · replace h := h.2.2 c
    refine r_iconst ok 1 d_Md_operand_66 rfl ?_
    refine r_goto ok 71 d_Md_operand_67 (by decide) ?_
    refine r_iadd ok d_Md_operand_71 ?_
    refine p_Md_deep ok d_Md_operand_72 ?_
    replace h := h _ rfl
    generalize sF s25 42 ((s24.1 42) + 1) = s29 at h ⊢
    refine r_aload_n ok 0 d_Md_operand_75 rfl rfl ?_
    refine r_dup ok d_Md_operand_76 rfl ?_
    refine g_Md_at ok d_Md_operand_77 ?_
    refine r_iconst ok 1 d_Md_operand_80 rfl ?_
    refine r_iadd ok d_Md_operand_81 ?_
    refine p_Md_at ok d_Md_operand_82 ?_
    replace h := h _ rfl
    generalize sF s29 40 ((s29.1 40) + 1) = s30 at h ⊢
    refine r_goto ok 0 d_Md_operand_85 (by decide) ?_
    exact r_sub [0] rfl h
set_option maxHeartbeats 4000000 in
set_option maxRecDepth 100000 in
theorem K_Md_operand_147 {F : FT} (hD : ∀ σ, va_D F.2.2.1 (GW F.2.1 σ)) (hm : F.2.2.2.2.2.2.2.2.2.2.2.2.2.2.1 = 3) (ok : OkF F prog_12_method_52_code "LastSeenModel" ({ frames := 2, cells := 0, slots := 0, locals := 42 } : Room)) {Q : Int → SS → Prop} (hQ : RetZ F Q) {s : SS} (h : B_Md_operand_147 Q (fun s => AtS F 0 [(0, .ref (F.2.1.1 10))] [] s) (fun y0 y1 s => AtS F 41 [(0, .ref (F.2.1.1 10))] [vI y0, vI y1, .ref (F.2.1.1 103)] s) (fun s => AtS F 147 [(0, .ref (F.2.1.1 10))] [] s) (fun x1 x2 s => AtS F 197 [(0, .ref (F.2.1.1 10)), (1, vI x1), (2, vI x2)] [] s)  s) : AtS F 147 [(0, .ref (F.2.1.1 10))] [] s := by
  unfold B_Md_operand_147 at h
  refine r_aload_n ok 0 d_Md_operand_147 rfl rfl ?_
  refine r_aload_n ok 0 d_Md_operand_148 rfl rfl ?_
  refine r_callVi (As := []) (rest := [.ref (F.2.1.1 10)]) ok 10 rfl rfl rfl wl_Md_336 wi_y_Md_sign ws_y_Md_sign wn_Md wc_y_Md_sign (by decide) (by decide) hh_Md_sign (Nat.le_of_ble_eq_true rfl) rfl d_Md_operand_149 (L_Md_sign F.1 F.2.1 F.2.2.1 hD h) (fun r32 s31 h => ?_)
  refine r_callVv (As := [vI r32]) (rest := []) ok 10 rfl rfl rfl wl_Md_333 wi_y_Md_writes ws_y_Md_writes wn_Md wc_y_Md_writes (by decide) (by decide) hh_Md_writes (Nat.le_of_ble_eq_true rfl) rfl d_Md_operand_152 (L_Md_writes F.1 F.2.1 F.2.2.1 hD h) (fun s33 h => ?_)
  refine r_aload_n ok 0 d_Md_operand_155 rfl rfl ?_
  refine r_dup ok d_Md_operand_156 rfl ?_
  refine g_Md_at ok d_Md_operand_157 ?_
  refine r_iconst ok 1 d_Md_operand_160 rfl ?_
  refine r_iadd ok d_Md_operand_161 ?_
  refine p_Md_at ok d_Md_operand_162 ?_
  replace h := h _ rfl
  generalize sF s33 40 ((s33.1 40) + 1) = s34 at h ⊢
  refine r_aload_n ok 0 d_Md_operand_165 rfl rfl ?_
  refine r_callVi (As := []) (rest := []) ok 10 rfl rfl rfl wl_Md_336 wi_y_Md_sign ws_y_Md_sign wn_Md wc_y_Md_sign (by decide) (by decide) hh_Md_sign (Nat.le_of_ble_eq_true rfl) rfl d_Md_operand_166 (L_Md_sign F.1 F.2.1 F.2.2.1 hD h) (fun r36 s35 h => ?_)
  refine r_callSi (As := [vI r36]) (rest := []) ok wl_Md_345 wt_y_Md_isDigit wn_Md wc_y_Md_isDigit (by decide) (by decide) hh_Md_isDigit (Nat.le_of_ble_eq_true rfl) rfl d_Md_operand_169 (L_Md_isDigit F.1 F.2.1 F.2.2.1 hD h) (fun r38 s37 h => ?_)
  refine r_if_ne ok 177 d_Md_operand_172 (by decide) h.1 (fun c => ?_) (fun c => ?_)
  · replace h := h.2.1 c
    refine r_aload_n ok 0 d_Md_operand_177 rfl rfl ?_
    refine r_callVi (As := []) (rest := []) ok 10 rfl rfl rfl wl_Md_336 wi_y_Md_sign ws_y_Md_sign wn_Md wc_y_Md_sign (by decide) (by decide) hh_Md_sign (Nat.le_of_ble_eq_true rfl) rfl d_Md_operand_178 (L_Md_sign F.1 F.2.1 F.2.2.1 hD h) (fun r40 s39 h => ?_)
    refine r_bipush ok 48 d_Md_operand_181 (by decide) ?_
    refine r_isub ok d_Md_operand_183 ?_
    refine r_istore_n ok [(1, vI (r40 - 48)), (0, .ref (F.2.1.1 10))] d_Md_operand_184 rfl hm (by decide) rfl ?_
    refine r_aload_n ok 1 d_Md_operand_185 rfl rfl ?_
    refine r_dup ok d_Md_operand_186 rfl ?_
    refine g_Md_at ok d_Md_operand_187 ?_
    refine r_iconst ok 1 d_Md_operand_190 rfl ?_
    refine r_iadd ok d_Md_operand_191 ?_
    refine p_Md_at ok d_Md_operand_192 ?_
    replace h := h _ rfl
    generalize sF s39 40 ((s39.1 40) + 1) = s41 at h ⊢
    refine r_iconst ok 1 d_Md_operand_195 rfl ?_
    refine r_istore_n ok [(2, vI 1), (1, vI (r40 - 48)), (0, .ref (F.2.1.1 10))] d_Md_operand_196 rfl hm (by decide) rfl ?_
    exact r_sub [2, 1, 0] rfl h
  · replace h := h.2.2 c
    refine r_iconst ok 0 d_Md_operand_175 rfl ?_
    exact hQ _ _ _ _ _ (ok_code ok) d_Md_operand_176 (by decide) h
set_option maxHeartbeats 4000000 in
set_option maxRecDepth 100000 in
theorem K_Md_operand_197 {F : FT} (hD : ∀ σ, va_D F.2.2.1 (GW F.2.1 σ)) (hm : F.2.2.2.2.2.2.2.2.2.2.2.2.2.2.1 = 3) (ok : OkF F prog_12_method_52_code "LastSeenModel" ({ frames := 2, cells := 0, slots := 0, locals := 42 } : Room)) {Q : Int → SS → Prop} (hQ : RetZ F Q) {x1 x2 : Int} {s : SS} (h : B_Md_operand_197 Q (fun s => AtS F 0 [(0, .ref (F.2.1.1 10))] [] s) (fun y0 y1 s => AtS F 41 [(0, .ref (F.2.1.1 10))] [vI y0, vI y1, .ref (F.2.1.1 103)] s) (fun s => AtS F 147 [(0, .ref (F.2.1.1 10))] [] s) (fun x1 x2 s => AtS F 197 [(0, .ref (F.2.1.1 10)), (1, vI x1), (2, vI x2)] [] s) x1 x2 s) : AtS F 197 [(0, .ref (F.2.1.1 10)), (1, vI x1), (2, vI x2)] [] s := by
  unfold B_Md_operand_197 at h
  refine r_iload_n ok 2 d_Md_operand_197 rfl rfl ?_
  refine r_iconst ok 3 d_Md_operand_198 rfl ?_
  refine r_icmp_ge ok 245 d_Md_operand_199 (by decide) h.1 (by decide) (fun c => ?_) (fun c => ?_)
  · replace h := h.2.1 c
    refine r_aload_n ok 0 d_Md_operand_245 rfl rfl ?_
    refine r_iload_n ok 1 d_Md_operand_246 rfl rfl ?_
    refine r_callVv (As := [vI x1]) (rest := []) ok 10 rfl rfl rfl wl_Md_333 wi_y_Md_writes ws_y_Md_writes wn_Md wc_y_Md_writes (by decide) (by decide) hh_Md_writes (Nat.le_of_ble_eq_true rfl) rfl d_Md_operand_247 (L_Md_writes F.1 F.2.1 F.2.2.1 hD h) (fun s42 h => ?_)
    refine r_aload_n ok 0 d_Md_operand_250 rfl rfl ?_
    refine r_iconst ok 0 d_Md_operand_251 rfl ?_
    refine r_callVv (As := [vI 0]) (rest := []) ok 10 rfl rfl rfl wl_Md_348 wi_y_Md_unstacks ws_y_Md_unstacks wn_Md wc_y_Md_unstacks (by decide) (by decide) hh_Md_unstacks (Nat.le_of_ble_eq_true rfl) rfl d_Md_operand_252 (L_Md_unstacks F.1 F.2.1 F.2.2.1 hD h) (fun s43 h => ?_)
    refine r_iconst ok 1 d_Md_operand_255 rfl ?_
    exact hQ _ _ _ _ _ (ok_code ok) d_Md_operand_256 (by decide) h
  · replace h := h.2.2 c
    refine r_iload_n ok 1 d_Md_operand_202 rfl rfl ?_
    refine r_if_le ok 245 d_Md_operand_203 (by decide) h.1 (fun c => ?_) (fun c => ?_)
    · replace h := h.2.1 c
      refine r_aload_n ok 0 d_Md_operand_245 rfl rfl ?_
      refine r_iload_n ok 1 d_Md_operand_246 rfl rfl ?_
      refine r_callVv (As := [vI x1]) (rest := []) ok 10 rfl rfl rfl wl_Md_333 wi_y_Md_writes ws_y_Md_writes wn_Md wc_y_Md_writes (by decide) (by decide) hh_Md_writes (Nat.le_of_ble_eq_true rfl) rfl d_Md_operand_247 (L_Md_writes F.1 F.2.1 F.2.2.1 hD h) (fun s44 h => ?_)
      refine r_aload_n ok 0 d_Md_operand_250 rfl rfl ?_
      refine r_iconst ok 0 d_Md_operand_251 rfl ?_
      refine r_callVv (As := [vI 0]) (rest := []) ok 10 rfl rfl rfl wl_Md_348 wi_y_Md_unstacks ws_y_Md_unstacks wn_Md wc_y_Md_unstacks (by decide) (by decide) hh_Md_unstacks (Nat.le_of_ble_eq_true rfl) rfl d_Md_operand_252 (L_Md_unstacks F.1 F.2.1 F.2.2.1 hD h) (fun s45 h => ?_)
      refine r_iconst ok 1 d_Md_operand_255 rfl ?_
      exact hQ _ _ _ _ _ (ok_code ok) d_Md_operand_256 (by decide) h
    · replace h := h.2.2 c
      refine r_aload_n ok 0 d_Md_operand_206 rfl rfl ?_
      refine r_callVi (As := []) (rest := []) ok 10 rfl rfl rfl wl_Md_336 wi_y_Md_sign ws_y_Md_sign wn_Md wc_y_Md_sign (by decide) (by decide) hh_Md_sign (Nat.le_of_ble_eq_true rfl) rfl d_Md_operand_207 (L_Md_sign F.1 F.2.1 F.2.2.1 hD h) (fun r47 s46 h => ?_)
      refine r_callSi (As := [vI r47]) (rest := []) ok wl_Md_345 wt_y_Md_isDigit wn_Md wc_y_Md_isDigit (by decide) (by decide) hh_Md_isDigit (Nat.le_of_ble_eq_true rfl) rfl d_Md_operand_210 (L_Md_isDigit F.1 F.2.1 F.2.2.1 hD h) (fun r49 s48 h => ?_)
      refine r_if_eq ok 245 d_Md_operand_213 (by decide) h.1 (fun c => ?_) (fun c => ?_)
      · replace h := h.2.1 c
        refine r_aload_n ok 0 d_Md_operand_245 rfl rfl ?_
        refine r_iload_n ok 1 d_Md_operand_246 rfl rfl ?_
        refine r_callVv (As := [vI x1]) (rest := []) ok 10 rfl rfl rfl wl_Md_333 wi_y_Md_writes ws_y_Md_writes wn_Md wc_y_Md_writes (by decide) (by decide) hh_Md_writes (Nat.le_of_ble_eq_true rfl) rfl d_Md_operand_247 (L_Md_writes F.1 F.2.1 F.2.2.1 hD h) (fun s50 h => ?_)
        refine r_aload_n ok 0 d_Md_operand_250 rfl rfl ?_
        refine r_iconst ok 0 d_Md_operand_251 rfl ?_
        refine r_callVv (As := [vI 0]) (rest := []) ok 10 rfl rfl rfl wl_Md_348 wi_y_Md_unstacks ws_y_Md_unstacks wn_Md wc_y_Md_unstacks (by decide) (by decide) hh_Md_unstacks (Nat.le_of_ble_eq_true rfl) rfl d_Md_operand_252 (L_Md_unstacks F.1 F.2.1 F.2.2.1 hD h) (fun s51 h => ?_)
        refine r_iconst ok 1 d_Md_operand_255 rfl ?_
        exact hQ _ _ _ _ _ (ok_code ok) d_Md_operand_256 (by decide) h
      · replace h := h.2.2 c
        refine r_bipush ok 10 d_Md_operand_216 (by decide) ?_
        refine r_iload_n ok 1 d_Md_operand_218 rfl rfl ?_
        refine r_imul ok d_Md_operand_219 ?_
        refine r_aload_n ok 0 d_Md_operand_220 rfl rfl ?_
        refine r_callVi (As := []) (rest := [vI (10 * x1)]) ok 10 rfl rfl rfl wl_Md_336 wi_y_Md_sign ws_y_Md_sign wn_Md wc_y_Md_sign (by decide) (by decide) hh_Md_sign (Nat.le_of_ble_eq_true rfl) rfl d_Md_operand_221 (L_Md_sign F.1 F.2.1 F.2.2.1 hD h) (fun r53 s52 h => ?_)
        refine r_iadd ok d_Md_operand_224 ?_
        refine r_bipush ok 48 d_Md_operand_225 (by decide) ?_
        refine r_isub ok d_Md_operand_227 ?_
        refine r_istore_n ok [(1, vI (((10 * x1) + r53) - 48)), (0, .ref (F.2.1.1 10)), (2, vI x2)] d_Md_operand_228 rfl hm (by decide) rfl ?_
        refine r_aload_n ok 1 d_Md_operand_229 rfl rfl ?_
        refine r_dup ok d_Md_operand_230 rfl ?_
        refine g_Md_at ok d_Md_operand_231 ?_
        refine r_iconst ok 1 d_Md_operand_234 rfl ?_
        refine r_iadd ok d_Md_operand_235 ?_
        refine p_Md_at ok d_Md_operand_236 ?_
        replace h := h _ rfl
        generalize sF s52 40 ((s52.1 40) + 1) = s54 at h ⊢
        refine r_iinc ok 2 (x2 + 1) [(2, vI (x2 + 1)), (1, vI (((10 * x1) + r53) - 48)), (0, .ref (F.2.1.1 10))] d_Md_operand_239 rfl rfl hm (by decide) rfl ?_
        refine r_goto ok 197 d_Md_operand_242 (by decide) ?_
        exact r_sub [2, 1, 0] rfl h
set_option maxHeartbeats 4000000 in
set_option maxRecDepth 100000 in
theorem K_Md_operand_e {F : FT} (hD : ∀ σ, va_D F.2.2.1 (GW F.2.1 σ)) (hm : F.2.2.2.2.2.2.2.2.2.2.2.2.2.2.1 = 3) (ok : OkF F prog_12_method_52_code "LastSeenModel" ({ frames := 2, cells := 0, slots := 0, locals := 42 } : Room)) {Q : Int → SS → Prop} (hQ : RetZ F Q) {s : SS} (h : B_Md_operand_e Q (fun s => AtS F 0 [(0, .ref (F.2.1.1 10))] [] s) (fun y0 y1 s => AtS F 41 [(0, .ref (F.2.1.1 10))] [vI y0, vI y1, .ref (F.2.1.1 103)] s) (fun s => AtS F 147 [(0, .ref (F.2.1.1 10))] [] s) (fun x1 x2 s => AtS F 197 [(0, .ref (F.2.1.1 10)), (1, vI x1), (2, vI x2)] [] s)  s) : AtS F 0 [(0, .ref (F.2.1.1 10))] [] s := by
  unfold B_Md_operand_e at h
  exact r_sub [0] rfl h
theorem L_Md_operand (l : Launch) (G : GE) (A : Nat → Prop) (hD : ∀ σ, va_D A (GW G σ)) {s : SS} {Q : Int → SS → Prop} (h : Sp_Md_operand  s Q) : Met l y_Md_operand (Cond.code y_Md_operand prog_12_method_52_code 3 (some .boolean) :: lw_ok) ({ frames := 2, cells := 0, slots := 0, locals := 42 } : Room) (va_Pc [.ref (G.1 10)] (gB G s)) (va_Qi (fun (r : Int32) (s2 : SS) => ∃ x : Int, r = iI x ∧ Q x s2) (fun s2 t => gB G s2 t) A) 0 0 A := by
  refine met_z hD (by decide) ⟨rfl, rfl⟩ (Nat.le_of_ble_eq_true rfl) (lv := [(0, .ref (G.1 10))]) rfl (fun F h1 h2 h3 hm ok hQ => ?_)
  subst h1 h2 h3
  have hDF := hD
  exact K_Md_operand_e hDF hm ok hQ (h _ _ _ _ (fun _ hb => K_Md_operand_0 hDF hm ok hQ hb) (fun _ _ _ hb => K_Md_operand_41 hDF hm ok hQ hb) (fun _ hb => K_Md_operand_147 hDF hm ok hQ hb) (fun _ _ _ hb => K_Md_operand_197 hDF hm ok hQ hb))
theorem d_Md_when_0 : decode prog_12_method_53_code 0 = .ok (.aload_n 0, 1) := by decide +kernel
theorem d_Md_when_1 : decode prog_12_method_53_code 1 = .ok (.iconst 0, 1) := by decide +kernel
theorem d_Md_when_2 : decode prog_12_method_53_code 2 = .ok (.putfield 330, 3) := by decide +kernel
theorem d_Md_when_5 : decode prog_12_method_53_code 5 = .ok (.aload_n 0, 1) := by decide +kernel
theorem d_Md_when_6 : decode prog_12_method_53_code 6 = .ok (.iconst 0, 1) := by decide +kernel
theorem d_Md_when_7 : decode prog_12_method_53_code 7 = .ok (.putfield 339, 3) := by decide +kernel
theorem d_Md_when_10 : decode prog_12_method_53_code 10 = .ok (.aload_n 0, 1) := by decide +kernel
theorem d_Md_when_11 : decode prog_12_method_53_code 11 = .ok (.invokevirtual 351, 3) := by decide +kernel
theorem d_Md_when_14 : decode prog_12_method_53_code 14 = .ok (.ifCond .ne 5, 3) := by decide +kernel
theorem d_Md_when_17 : decode prog_12_method_53_code 17 = .ok (.iconst 0, 1) := by decide +kernel
theorem d_Md_when_18 : decode prog_12_method_53_code 18 = .ok (.ireturn, 1) := by decide +kernel
theorem d_Md_when_19 : decode prog_12_method_53_code 19 = .ok (.aload_n 0, 1) := by decide +kernel
theorem d_Md_when_20 : decode prog_12_method_53_code 20 = .ok (.invokevirtual 336, 3) := by decide +kernel
theorem d_Md_when_23 : decode prog_12_method_53_code 23 = .ok (.bipush 41, 2) := by decide +kernel
theorem d_Md_when_25 : decode prog_12_method_53_code 25 = .ok (.if_icmp .ne 53, 3) := by decide +kernel
theorem d_Md_when_28 : decode prog_12_method_53_code 28 = .ok (.aload_n 0, 1) := by decide +kernel
theorem d_Md_when_29 : decode prog_12_method_53_code 29 = .ok (.getfield 339, 3) := by decide +kernel
theorem d_Md_when_32 : decode prog_12_method_53_code 32 = .ok (.ifCond .le 46, 3) := by decide +kernel
theorem d_Md_when_35 : decode prog_12_method_53_code 35 = .ok (.aload_n 0, 1) := by decide +kernel
theorem d_Md_when_36 : decode prog_12_method_53_code 36 = .ok (.dup, 1) := by decide +kernel
theorem d_Md_when_37 : decode prog_12_method_53_code 37 = .ok (.getfield 321, 3) := by decide +kernel
theorem d_Md_when_40 : decode prog_12_method_53_code 40 = .ok (.iconst 1, 1) := by decide +kernel
theorem d_Md_when_41 : decode prog_12_method_53_code 41 = .ok (.iadd, 1) := by decide +kernel
theorem d_Md_when_42 : decode prog_12_method_53_code 42 = .ok (.putfield 321, 3) := by decide +kernel
theorem d_Md_when_45 : decode prog_12_method_53_code 45 = .ok (.aload_n 0, 1) := by decide +kernel
theorem d_Md_when_46 : decode prog_12_method_53_code 46 = .ok (.dup, 1) := by decide +kernel
theorem d_Md_when_47 : decode prog_12_method_53_code 47 = .ok (.getfield 339, 3) := by decide +kernel
theorem d_Md_when_50 : decode prog_12_method_53_code 50 = .ok (.iconst 1, 1) := by decide +kernel
theorem d_Md_when_51 : decode prog_12_method_53_code 51 = .ok (.isub, 1) := by decide +kernel
theorem d_Md_when_52 : decode prog_12_method_53_code 52 = .ok (.putfield 339, 3) := by decide +kernel
theorem d_Md_when_55 : decode prog_12_method_53_code 55 = .ok (.aload_n 0, 1) := by decide +kernel
theorem d_Md_when_56 : decode prog_12_method_53_code 56 = .ok (.iconst 2, 1) := by decide +kernel
theorem d_Md_when_57 : decode prog_12_method_53_code 57 = .ok (.invokevirtual 348, 3) := by decide +kernel
theorem d_Md_when_60 : decode prog_12_method_53_code 60 = .ok (.aload_n 0, 1) := by decide +kernel
theorem d_Md_when_61 : decode prog_12_method_53_code 61 = .ok (.dup, 1) := by decide +kernel
theorem d_Md_when_62 : decode prog_12_method_53_code 62 = .ok (.getfield 330, 3) := by decide +kernel
theorem d_Md_when_65 : decode prog_12_method_53_code 65 = .ok (.iconst 1, 1) := by decide +kernel
theorem d_Md_when_66 : decode prog_12_method_53_code 66 = .ok (.isub, 1) := by decide +kernel
theorem d_Md_when_67 : decode prog_12_method_53_code 67 = .ok (.putfield 330, 3) := by decide +kernel
theorem d_Md_when_70 : decode prog_12_method_53_code 70 = .ok (.aload_n 0, 1) := by decide +kernel
theorem d_Md_when_71 : decode prog_12_method_53_code 71 = .ok (.iconst 0, 1) := by decide +kernel
theorem d_Md_when_72 : decode prog_12_method_53_code 72 = .ok (.invokevirtual 348, 3) := by decide +kernel
theorem d_Md_when_75 : decode prog_12_method_53_code 75 = .ok (.goto (-56), 3) := by decide +kernel
theorem d_Md_when_78 : decode prog_12_method_53_code 78 = .ok (.aload_n 0, 1) := by decide +kernel
theorem d_Md_when_79 : decode prog_12_method_53_code 79 = .ok (.invokevirtual 336, 3) := by decide +kernel
theorem d_Md_when_82 : decode prog_12_method_53_code 82 = .ok (.istore_n 1, 1) := by decide +kernel
theorem d_Md_when_83 : decode prog_12_method_53_code 83 = .ok (.iload_n 1, 1) := by decide +kernel
theorem d_Md_when_84 : decode prog_12_method_53_code 84 = .ok (.bipush 62, 2) := by decide +kernel
theorem d_Md_when_86 : decode prog_12_method_53_code 86 = .ok (.if_icmp .ne 17, 3) := by decide +kernel
theorem d_Md_when_89 : decode prog_12_method_53_code 89 = .ok (.aload_n 0, 1) := by decide +kernel
theorem d_Md_when_90 : decode prog_12_method_53_code 90 = .ok (.getfield 339, 3) := by decide +kernel
theorem d_Md_when_93 : decode prog_12_method_53_code 93 = .ok (.ifCond .ne 10, 3) := by decide +kernel
theorem d_Md_when_96 : decode prog_12_method_53_code 96 = .ok (.aload_n 0, 1) := by decide +kernel
theorem d_Md_when_97 : decode prog_12_method_53_code 97 = .ok (.iconst 2, 1) := by decide +kernel
theorem d_Md_when_98 : decode prog_12_method_53_code 98 = .ok (.invokevirtual 348, 3) := by decide +kernel
theorem d_Md_when_101 : decode prog_12_method_53_code 101 = .ok (.iconst 1, 1) := by decide +kernel
theorem d_Md_when_102 : decode prog_12_method_53_code 102 = .ok (.ireturn, 1) := by decide +kernel
theorem d_Md_when_103 : decode prog_12_method_53_code 103 = .ok (.iload_n 1, 1) := by decide +kernel
theorem d_Md_when_104 : decode prog_12_method_53_code 104 = .ok (.bipush 38, 2) := by decide +kernel
theorem d_Md_when_106 : decode prog_12_method_53_code 106 = .ok (.if_icmp .eq 11, 3) := by decide +kernel
theorem d_Md_when_109 : decode prog_12_method_53_code 109 = .ok (.iload_n 1, 1) := by decide +kernel
theorem d_Md_when_110 : decode prog_12_method_53_code 110 = .ok (.bipush 124, 2) := by decide +kernel
theorem d_Md_when_112 : decode prog_12_method_53_code 112 = .ok (.if_icmp .eq 5, 3) := by decide +kernel
theorem d_Md_when_115 : decode prog_12_method_53_code 115 = .ok (.iconst 0, 1) := by decide +kernel
theorem d_Md_when_116 : decode prog_12_method_53_code 116 = .ok (.ireturn, 1) := by decide +kernel
theorem d_Md_when_117 : decode prog_12_method_53_code 117 = .ok (.aload_n 0, 1) := by decide +kernel
theorem d_Md_when_118 : decode prog_12_method_53_code 118 = .ok (.dup, 1) := by decide +kernel
theorem d_Md_when_119 : decode prog_12_method_53_code 119 = .ok (.getfield 321, 3) := by decide +kernel
theorem d_Md_when_122 : decode prog_12_method_53_code 122 = .ok (.iconst 1, 1) := by decide +kernel
theorem d_Md_when_123 : decode prog_12_method_53_code 123 = .ok (.iadd, 1) := by decide +kernel
theorem d_Md_when_124 : decode prog_12_method_53_code 124 = .ok (.putfield 321, 3) := by decide +kernel
theorem d_Md_when_127 : decode prog_12_method_53_code 127 = .ok (.aload_n 0, 1) := by decide +kernel
theorem d_Md_when_128 : decode prog_12_method_53_code 128 = .ok (.iload_n 1, 1) := by decide +kernel
theorem d_Md_when_129 : decode prog_12_method_53_code 129 = .ok (.bipush 38, 2) := by decide +kernel
theorem d_Md_when_131 : decode prog_12_method_53_code 131 = .ok (.if_icmp .ne 7, 3) := by decide +kernel
theorem d_Md_when_134 : decode prog_12_method_53_code 134 = .ok (.iconst 1, 1) := by decide +kernel
theorem d_Md_when_135 : decode prog_12_method_53_code 135 = .ok (.goto 4, 3) := by decide +kernel
theorem d_Md_when_138 : decode prog_12_method_53_code 138 = .ok (.iconst 2, 1) := by decide +kernel
theorem d_Md_when_139 : decode prog_12_method_53_code 139 = .ok (.invokevirtual 348, 3) := by decide +kernel
theorem d_Md_when_142 : decode prog_12_method_53_code 142 = .ok (.aload_n 0, 1) := by decide +kernel
theorem d_Md_when_143 : decode prog_12_method_53_code 143 = .ok (.getfield 111, 3) := by decide +kernel
theorem d_Md_when_146 : decode prog_12_method_53_code 146 = .ok (.aload_n 0, 1) := by decide +kernel
theorem d_Md_when_147 : decode prog_12_method_53_code 147 = .ok (.getfield 330, 3) := by decide +kernel
theorem d_Md_when_150 : decode prog_12_method_53_code 150 = .ok (.iload_n 1, 1) := by decide +kernel
theorem d_Md_when_151 : decode prog_12_method_53_code 151 = .ok (.bipush 38, 2) := by decide +kernel
theorem d_Md_when_153 : decode prog_12_method_53_code 153 = .ok (.if_icmp .ne 7, 3) := by decide +kernel
theorem d_Md_when_156 : decode prog_12_method_53_code 156 = .ok (.iconst 1, 1) := by decide +kernel
theorem d_Md_when_157 : decode prog_12_method_53_code 157 = .ok (.goto 4, 3) := by decide +kernel
theorem d_Md_when_160 : decode prog_12_method_53_code 160 = .ok (.iconst 2, 1) := by decide +kernel
theorem d_Md_when_161 : decode prog_12_method_53_code 161 = .ok (.iastore, 1) := by decide +kernel
theorem d_Md_when_162 : decode prog_12_method_53_code 162 = .ok (.aload_n 0, 1) := by decide +kernel
theorem d_Md_when_163 : decode prog_12_method_53_code 163 = .ok (.dup, 1) := by decide +kernel
theorem d_Md_when_164 : decode prog_12_method_53_code 164 = .ok (.getfield 330, 3) := by decide +kernel
theorem d_Md_when_167 : decode prog_12_method_53_code 167 = .ok (.iconst 1, 1) := by decide +kernel
theorem d_Md_when_168 : decode prog_12_method_53_code 168 = .ok (.iadd, 1) := by decide +kernel
theorem d_Md_when_169 : decode prog_12_method_53_code 169 = .ok (.putfield 330, 3) := by decide +kernel
theorem d_Md_when_172 : decode prog_12_method_53_code 172 = .ok (.goto (-162), 3) := by decide +kernel
set_option maxHeartbeats 4000000 in
set_option maxRecDepth 100000 in
theorem K_Md_when_10 {F : FT} (hD : ∀ σ, va_D F.2.2.1 (GW F.2.1 σ)) (hm : F.2.2.2.2.2.2.2.2.2.2.2.2.2.2.1 = 2) (ok : OkF F prog_12_method_53_code "LastSeenModel" ({ frames := 3, cells := 0, slots := 0, locals := 64 } : Room)) {Q : Int → SS → Prop} (hQ : RetZ F Q) {s : SS} (h : B_Md_when_10 Q (fun s => AtS F 10 [(0, .ref (F.2.1.1 10))] [] s) (fun s => AtS F 19 [(0, .ref (F.2.1.1 10))] [] s) (fun s => AtS F 78 [(0, .ref (F.2.1.1 10))] [] s) (fun x1 s => AtS F 117 [(0, .ref (F.2.1.1 10)), (1, vI x1)] [] s) (fun x1 y0 s => AtS F 139 [(0, .ref (F.2.1.1 10)), (1, vI x1)] [vI y0, .ref (F.2.1.1 10)] s)  s) : AtS F 10 [(0, .ref (F.2.1.1 10))] [] s := by
  unfold B_Md_when_10 at h
  refine r_aload_n ok 0 d_Md_when_10 rfl rfl ?_
  refine r_callVi (As := []) (rest := []) ok 10 rfl rfl rfl wl_Md_351 wi_y_Md_operand ws_y_Md_operand wn_Md wc_y_Md_operand (by decide) (by decide) hh_Md_operand (Nat.le_of_ble_eq_true rfl) rfl d_Md_when_11 (L_Md_operand F.1 F.2.1 F.2.2.1 hD h) (fun r4 s3 h => ?_)
  refine r_if_ne ok 19 d_Md_when_14 (by decide) h.1 (fun c => ?_) (fun c => ?_)
  · replace h := h.2.1 c
    exact r_sub [0] rfl h
  · replace h := h.2.2 c
    refine r_iconst ok 0 d_Md_when_17 rfl ?_
    exact hQ _ _ _ _ _ (ok_code ok) d_Md_when_18 (by decide) h
set_option maxHeartbeats 4000000 in
set_option maxRecDepth 100000 in
theorem K_Md_when_19 {F : FT} (hD : ∀ σ, va_D F.2.2.1 (GW F.2.1 σ)) (hm : F.2.2.2.2.2.2.2.2.2.2.2.2.2.2.1 = 2) (ok : OkF F prog_12_method_53_code "LastSeenModel" ({ frames := 3, cells := 0, slots := 0, locals := 64 } : Room)) {Q : Int → SS → Prop} (hQ : RetZ F Q) {s : SS} (h : B_Md_when_19 Q (fun s => AtS F 10 [(0, .ref (F.2.1.1 10))] [] s) (fun s => AtS F 19 [(0, .ref (F.2.1.1 10))] [] s) (fun s => AtS F 78 [(0, .ref (F.2.1.1 10))] [] s) (fun x1 s => AtS F 117 [(0, .ref (F.2.1.1 10)), (1, vI x1)] [] s) (fun x1 y0 s => AtS F 139 [(0, .ref (F.2.1.1 10)), (1, vI x1)] [vI y0, .ref (F.2.1.1 10)] s)  s) : AtS F 19 [(0, .ref (F.2.1.1 10))] [] s := by
  unfold B_Md_when_19 at h
  refine r_aload_n ok 0 d_Md_when_19 rfl rfl ?_
  refine r_callVi (As := []) (rest := []) ok 10 rfl rfl rfl wl_Md_336 wi_y_Md_sign ws_y_Md_sign wn_Md wc_y_Md_sign (by decide) (by decide) hh_Md_sign (Nat.le_of_ble_eq_true rfl) rfl d_Md_when_20 (L_Md_sign F.1 F.2.1 F.2.2.1 hD h) (fun r6 s5 h => ?_)
  refine r_bipush ok 41 d_Md_when_23 (by decide) ?_
  refine r_icmp_ne ok 78 d_Md_when_25 (by decide) h.1 (by decide) (fun c => ?_) (fun c => ?_)
  · replace h := h.2.1 c
    exact r_sub [0] rfl h
  · replace h := h.2.2 c
    refine r_aload_n ok 0 d_Md_when_28 rfl rfl ?_
    refine g_Md_deep ok d_Md_when_29 ?_
    refine r_if_le ok 78 d_Md_when_32 (by decide) h.1 (fun c => ?_) (fun c => ?_)
    · replace h := h.2.1 c
      exact r_sub [0] rfl h
    · replace h := h.2.2 c
      refine r_aload_n ok 0 d_Md_when_35 rfl rfl ?_
      refine r_dup ok d_Md_when_36 rfl ?_
      refine g_Md_at ok d_Md_when_37 ?_
      refine r_iconst ok 1 d_Md_when_40 rfl ?_
      refine r_iadd ok d_Md_when_41 ?_
      refine p_Md_at ok d_Md_when_42 ?_
      replace h := h _ rfl
      generalize sF s5 40 ((s5.1 40) + 1) = s7 at h ⊢
      refine r_aload_n ok 0 d_Md_when_45 rfl rfl ?_
      refine r_dup ok d_Md_when_46 rfl ?_
      refine g_Md_deep ok d_Md_when_47 ?_
      refine r_iconst ok 1 d_Md_when_50 rfl ?_
      refine r_isub ok d_Md_when_51 ?_
      refine p_Md_deep ok d_Md_when_52 ?_
      replace h := h _ rfl
      generalize sF s7 42 ((s7.1 42) - 1) = s8 at h ⊢
      refine r_aload_n ok 0 d_Md_when_55 rfl rfl ?_
      refine r_iconst ok 2 d_Md_when_56 rfl ?_
      refine r_callVv (As := [vI 2]) (rest := []) ok 10 rfl rfl rfl wl_Md_348 wi_y_Md_unstacks ws_y_Md_unstacks wn_Md wc_y_Md_unstacks (by decide) (by decide) hh_Md_unstacks (Nat.le_of_ble_eq_true rfl) rfl d_Md_when_57 (L_Md_unstacks F.1 F.2.1 F.2.2.1 hD h) (fun s9 h => ?_)
      refine r_aload_n ok 0 d_Md_when_60 rfl rfl ?_
      refine r_dup ok d_Md_when_61 rfl ?_
      refine g_Md_top ok d_Md_when_62 ?_
      refine r_iconst ok 1 d_Md_when_65 rfl ?_
      refine r_isub ok d_Md_when_66 ?_
      refine p_Md_top ok d_Md_when_67 ?_
      replace h := h _ rfl
      generalize sF s9 43 ((s9.1 43) - 1) = s10 at h ⊢
      refine r_aload_n ok 0 d_Md_when_70 rfl rfl ?_
      refine r_iconst ok 0 d_Md_when_71 rfl ?_
      refine r_callVv (As := [vI 0]) (rest := []) ok 10 rfl rfl rfl wl_Md_348 wi_y_Md_unstacks ws_y_Md_unstacks wn_Md wc_y_Md_unstacks (by decide) (by decide) hh_Md_unstacks (Nat.le_of_ble_eq_true rfl) rfl d_Md_when_72 (L_Md_unstacks F.1 F.2.1 F.2.2.1 hD h) (fun s11 h => ?_)
      refine r_goto ok 19 d_Md_when_75 (by decide) ?_
      exact r_sub [0] rfl h
set_option maxHeartbeats 4000000 in
set_option maxRecDepth 100000 in
theorem K_Md_when_78 {F : FT} (hD : ∀ σ, va_D F.2.2.1 (GW F.2.1 σ)) (hm : F.2.2.2.2.2.2.2.2.2.2.2.2.2.2.1 = 2) (ok : OkF F prog_12_method_53_code "LastSeenModel" ({ frames := 3, cells := 0, slots := 0, locals := 64 } : Room)) {Q : Int → SS → Prop} (hQ : RetZ F Q) {s : SS} (h : B_Md_when_78 Q (fun s => AtS F 10 [(0, .ref (F.2.1.1 10))] [] s) (fun s => AtS F 19 [(0, .ref (F.2.1.1 10))] [] s) (fun s => AtS F 78 [(0, .ref (F.2.1.1 10))] [] s) (fun x1 s => AtS F 117 [(0, .ref (F.2.1.1 10)), (1, vI x1)] [] s) (fun x1 y0 s => AtS F 139 [(0, .ref (F.2.1.1 10)), (1, vI x1)] [vI y0, .ref (F.2.1.1 10)] s)  s) : AtS F 78 [(0, .ref (F.2.1.1 10))] [] s := by
  unfold B_Md_when_78 at h
  refine r_aload_n ok 0 d_Md_when_78 rfl rfl ?_
  refine r_callVi (As := []) (rest := []) ok 10 rfl rfl rfl wl_Md_336 wi_y_Md_sign ws_y_Md_sign wn_Md wc_y_Md_sign (by decide) (by decide) hh_Md_sign (Nat.le_of_ble_eq_true rfl) rfl d_Md_when_79 (L_Md_sign F.1 F.2.1 F.2.2.1 hD h) (fun r13 s12 h => ?_)
  refine r_istore_n ok [(1, vI r13), (0, .ref (F.2.1.1 10))] d_Md_when_82 rfl hm (by decide) rfl ?_
  refine r_iload_n ok 0 d_Md_when_83 rfl rfl ?_
  refine r_bipush ok 62 d_Md_when_84 (by decide) ?_
  refine r_icmp_ne ok 103 d_Md_when_86 (by decide) h.1 (by decide) (fun c => ?_) (fun c => ?_)
  · replace h := h.2.1 c
    refine r_iload_n ok 0 d_Md_when_103 rfl rfl ?_
    refine r_bipush ok 38 d_Md_when_104 (by decide) ?_
    refine r_icmp_eq ok 117 d_Md_when_106 (by decide) h.1 (by decide) (fun c => ?_) (fun c => ?_)
    · replace h := h.2.1 c
      exact r_sub [1, 0] rfl h
    · replace h := h.2.2 c
      refine r_iload_n ok 0 d_Md_when_109 rfl rfl ?_
      refine r_bipush ok 124 d_Md_when_110 (by decide) ?_
      refine r_icmp_eq ok 117 d_Md_when_112 (by decide) h.1 (by decide) (fun c => ?_) (fun c => ?_)
      · replace h := h.2.1 c
        exact r_sub [1, 0] rfl h
      · replace h := h.2.2 c
        refine r_iconst ok 0 d_Md_when_115 rfl ?_
        exact hQ _ _ _ _ _ (ok_code ok) d_Md_when_116 (by decide) h
  · replace h := h.2.2 c
    refine r_aload_n ok 1 d_Md_when_89 rfl rfl ?_
    refine g_Md_deep ok d_Md_when_90 ?_
    refine r_if_ne ok 103 d_Md_when_93 (by decide) h.1 (fun c => ?_) (fun c => ?_)
    · replace h := h.2.1 c
      refine r_iload_n ok 0 d_Md_when_103 rfl rfl ?_
      refine r_bipush ok 38 d_Md_when_104 (by decide) ?_
      refine r_icmp_eq ok 117 d_Md_when_106 (by decide) h.1 (by decide) (fun c => ?_) (fun c => ?_)
      · replace h := h.2.1 c
        exact r_sub [1, 0] rfl h
      · replace h := h.2.2 c
        refine r_iload_n ok 0 d_Md_when_109 rfl rfl ?_
        refine r_bipush ok 124 d_Md_when_110 (by decide) ?_
        refine r_icmp_eq ok 117 d_Md_when_112 (by decide) h.1 (by decide) (fun c => ?_) (fun c => ?_)
        · replace h := h.2.1 c
          exact r_sub [1, 0] rfl h
        · replace h := h.2.2 c
          refine r_iconst ok 0 d_Md_when_115 rfl ?_
          exact hQ _ _ _ _ _ (ok_code ok) d_Md_when_116 (by decide) h
    · replace h := h.2.2 c
      refine r_aload_n ok 1 d_Md_when_96 rfl rfl ?_
      refine r_iconst ok 2 d_Md_when_97 rfl ?_
      refine r_callVv (As := [vI 2]) (rest := []) ok 10 rfl rfl rfl wl_Md_348 wi_y_Md_unstacks ws_y_Md_unstacks wn_Md wc_y_Md_unstacks (by decide) (by decide) hh_Md_unstacks (Nat.le_of_ble_eq_true rfl) rfl d_Md_when_98 (L_Md_unstacks F.1 F.2.1 F.2.2.1 hD h) (fun s14 h => ?_)
      refine r_iconst ok 1 d_Md_when_101 rfl ?_
      exact hQ _ _ _ _ _ (ok_code ok) d_Md_when_102 (by decide) h
set_option maxHeartbeats 4000000 in
set_option maxRecDepth 100000 in
theorem K_Md_when_117 {F : FT} (hD : ∀ σ, va_D F.2.2.1 (GW F.2.1 σ)) (hm : F.2.2.2.2.2.2.2.2.2.2.2.2.2.2.1 = 2) (ok : OkF F prog_12_method_53_code "LastSeenModel" ({ frames := 3, cells := 0, slots := 0, locals := 64 } : Room)) {Q : Int → SS → Prop} (hQ : RetZ F Q) {x1 : Int} {s : SS} (h : B_Md_when_117 Q (fun s => AtS F 10 [(0, .ref (F.2.1.1 10))] [] s) (fun s => AtS F 19 [(0, .ref (F.2.1.1 10))] [] s) (fun s => AtS F 78 [(0, .ref (F.2.1.1 10))] [] s) (fun x1 s => AtS F 117 [(0, .ref (F.2.1.1 10)), (1, vI x1)] [] s) (fun x1 y0 s => AtS F 139 [(0, .ref (F.2.1.1 10)), (1, vI x1)] [vI y0, .ref (F.2.1.1 10)] s) x1 s) : AtS F 117 [(0, .ref (F.2.1.1 10)), (1, vI x1)] [] s := by
  unfold B_Md_when_117 at h
  refine r_aload_n ok 0 d_Md_when_117 rfl rfl ?_
  refine r_dup ok d_Md_when_118 rfl ?_
  refine g_Md_at ok d_Md_when_119 ?_
  refine r_iconst ok 1 d_Md_when_122 rfl ?_
  refine r_iadd ok d_Md_when_123 ?_
  refine p_Md_at ok d_Md_when_124 ?_
  replace h := h _ rfl
  generalize sF s 40 ((s.1 40) + 1) = s15 at h ⊢
  refine r_aload_n ok 0 d_Md_when_127 rfl rfl ?_
  refine r_iload_n ok 1 d_Md_when_128 rfl rfl ?_
  refine r_bipush ok 38 d_Md_when_129 (by decide) ?_
  refine r_icmp_ne ok 138 d_Md_when_131 (by decide) h.1 (by decide) (fun c => ?_) (fun c => ?_)
  · replace h := h.2.1 c
    refine r_iconst ok 2 d_Md_when_138 rfl ?_
    exact r_sub [0, 1] rfl h
  · replace h := h.2.2 c
    refine r_iconst ok 1 d_Md_when_134 rfl ?_
    refine r_goto ok 139 d_Md_when_135 (by decide) ?_
    exact r_sub [0, 1] rfl h
set_option maxHeartbeats 4000000 in
set_option maxRecDepth 100000 in
theorem K_Md_when_139 {F : FT} (hD : ∀ σ, va_D F.2.2.1 (GW F.2.1 σ)) (hm : F.2.2.2.2.2.2.2.2.2.2.2.2.2.2.1 = 2) (ok : OkF F prog_12_method_53_code "LastSeenModel" ({ frames := 3, cells := 0, slots := 0, locals := 64 } : Room)) {Q : Int → SS → Prop} (hQ : RetZ F Q) {x1 y0 : Int} {s : SS} (h : B_Md_when_139 Q (fun s => AtS F 10 [(0, .ref (F.2.1.1 10))] [] s) (fun s => AtS F 19 [(0, .ref (F.2.1.1 10))] [] s) (fun s => AtS F 78 [(0, .ref (F.2.1.1 10))] [] s) (fun x1 s => AtS F 117 [(0, .ref (F.2.1.1 10)), (1, vI x1)] [] s) (fun x1 y0 s => AtS F 139 [(0, .ref (F.2.1.1 10)), (1, vI x1)] [vI y0, .ref (F.2.1.1 10)] s) x1 y0 s) : AtS F 139 [(0, .ref (F.2.1.1 10)), (1, vI x1)] [vI y0, .ref (F.2.1.1 10)] s := by
  unfold B_Md_when_139 at h
  refine r_callVv (As := [vI y0]) (rest := []) ok 10 rfl rfl rfl wl_Md_348 wi_y_Md_unstacks ws_y_Md_unstacks wn_Md wc_y_Md_unstacks (by decide) (by decide) hh_Md_unstacks (Nat.le_of_ble_eq_true rfl) rfl d_Md_when_139 (L_Md_unstacks F.1 F.2.1 F.2.2.1 hD h) (fun s16 h => ?_)
  refine r_aload_n ok 0 d_Md_when_142 rfl rfl ?_
  refine g_Md_stack ok d_Md_when_143 ?_
  refine r_aload_n ok 0 d_Md_when_146 rfl rfl ?_
  refine g_Md_top ok d_Md_when_147 ?_
  refine r_iload_n ok 1 d_Md_when_150 rfl rfl ?_
  refine r_bipush ok 38 d_Md_when_151 (by decide) ?_
  refine r_icmp_ne ok 160 d_Md_when_153 (by decide) h.1 (by decide) (fun c => ?_) (fun c => ?_)
  · replace h := h.2.1 c
    refine r_iconst ok 2 d_Md_when_160 rfl ?_
    refine r_iast ok 92 d_Md_when_161 (by decide) rfl h.1 ?_
    replace h := h.2 _ rfl
    generalize sA s16 92 (s16.1 43) 2 = s17 at h ⊢
    refine r_aload_n ok 0 d_Md_when_162 rfl rfl ?_
    refine r_dup ok d_Md_when_163 rfl ?_
    refine g_Md_top ok d_Md_when_164 ?_
    refine r_iconst ok 1 d_Md_when_167 rfl ?_
    refine r_iadd ok d_Md_when_168 ?_
    refine p_Md_top ok d_Md_when_169 ?_
    replace h := h _ rfl
    generalize sF s17 43 ((s17.1 43) + 1) = s18 at h ⊢
    refine r_goto ok 10 d_Md_when_172 (by decide) ?_
    exact r_sub [0] rfl h
  · replace h := h.2.2 c
    refine r_iconst ok 1 d_Md_when_156 rfl ?_
    refine r_goto ok 161 d_Md_when_157 (by decide) ?_
    refine r_iast ok 92 d_Md_when_161 (by decide) rfl h.1 ?_
    replace h := h.2 _ rfl
    generalize sA s16 92 (s16.1 43) 1 = s19 at h ⊢
    refine r_aload_n ok 0 d_Md_when_162 rfl rfl ?_
    refine r_dup ok d_Md_when_163 rfl ?_
    refine g_Md_top ok d_Md_when_164 ?_
    refine r_iconst ok 1 d_Md_when_167 rfl ?_
    refine r_iadd ok d_Md_when_168 ?_
    refine p_Md_top ok d_Md_when_169 ?_
    replace h := h _ rfl
    generalize sF s19 43 ((s19.1 43) + 1) = s20 at h ⊢
    refine r_goto ok 10 d_Md_when_172 (by decide) ?_
    exact r_sub [0] rfl h
set_option maxHeartbeats 4000000 in
set_option maxRecDepth 100000 in
theorem K_Md_when_e {F : FT} (hD : ∀ σ, va_D F.2.2.1 (GW F.2.1 σ)) (hm : F.2.2.2.2.2.2.2.2.2.2.2.2.2.2.1 = 2) (ok : OkF F prog_12_method_53_code "LastSeenModel" ({ frames := 3, cells := 0, slots := 0, locals := 64 } : Room)) {Q : Int → SS → Prop} (hQ : RetZ F Q) {s : SS} (h : B_Md_when_e Q (fun s => AtS F 10 [(0, .ref (F.2.1.1 10))] [] s) (fun s => AtS F 19 [(0, .ref (F.2.1.1 10))] [] s) (fun s => AtS F 78 [(0, .ref (F.2.1.1 10))] [] s) (fun x1 s => AtS F 117 [(0, .ref (F.2.1.1 10)), (1, vI x1)] [] s) (fun x1 y0 s => AtS F 139 [(0, .ref (F.2.1.1 10)), (1, vI x1)] [vI y0, .ref (F.2.1.1 10)] s)  s) : AtS F 0 [(0, .ref (F.2.1.1 10))] [] s := by
  unfold B_Md_when_e at h
  refine r_aload_n ok 0 d_Md_when_0 rfl rfl ?_
  refine r_iconst ok 0 d_Md_when_1 rfl ?_
  refine p_Md_top ok d_Md_when_2 ?_
  replace h := h _ rfl
  generalize sF s 43 0 = s1 at h ⊢
  refine r_aload_n ok 0 d_Md_when_5 rfl rfl ?_
  refine r_iconst ok 0 d_Md_when_6 rfl ?_
  refine p_Md_deep ok d_Md_when_7 ?_
  replace h := h _ rfl
  generalize sF s1 42 0 = s2 at h ⊢
  exact r_sub [0] rfl h
theorem L_Md_when (l : Launch) (G : GE) (A : Nat → Prop) (hD : ∀ σ, va_D A (GW G σ)) {s : SS} {Q : Int → SS → Prop} (h : Sp_Md_when  s Q) : Met l y_Md_when (Cond.code y_Md_when prog_12_method_53_code 2 (some .boolean) :: lw_ok) ({ frames := 3, cells := 0, slots := 0, locals := 64 } : Room) (va_Pc [.ref (G.1 10)] (gB G s)) (va_Qi (fun (r : Int32) (s2 : SS) => ∃ x : Int, r = iI x ∧ Q x s2) (fun s2 t => gB G s2 t) A) 0 0 A := by
  refine met_z hD (by decide) ⟨rfl, rfl⟩ (Nat.le_of_ble_eq_true rfl) (lv := [(0, .ref (G.1 10))]) rfl (fun F h1 h2 h3 hm ok hQ => ?_)
  subst h1 h2 h3
  have hDF := hD
  exact K_Md_when_e hDF hm ok hQ (h _ _ _ _ _ (fun _ hb => K_Md_when_10 hDF hm ok hQ hb) (fun _ hb => K_Md_when_19 hDF hm ok hQ hb) (fun _ hb => K_Md_when_78 hDF hm ok hQ hb) (fun _ _ hb => K_Md_when_117 hDF hm ok hQ hb) (fun _ _ _ hb => K_Md_when_139 hDF hm ok hQ hb))
theorem d_Md_takes_0 : decode prog_12_method_54_code 0 = .ok (.aload_n 0, 1) := by decide +kernel
theorem d_Md_takes_1 : decode prog_12_method_54_code 1 = .ok (.invokevirtual 336, 3) := by decide +kernel
theorem d_Md_takes_4 : decode prog_12_method_54_code 4 = .ok (.iload_n 1, 1) := by decide +kernel
theorem d_Md_takes_5 : decode prog_12_method_54_code 5 = .ok (.if_icmp .eq 5, 3) := by decide +kernel
theorem d_Md_takes_8 : decode prog_12_method_54_code 8 = .ok (.iconst 0, 1) := by decide +kernel
theorem d_Md_takes_9 : decode prog_12_method_54_code 9 = .ok (.ireturn, 1) := by decide +kernel
theorem d_Md_takes_10 : decode prog_12_method_54_code 10 = .ok (.aload_n 0, 1) := by decide +kernel
theorem d_Md_takes_11 : decode prog_12_method_54_code 11 = .ok (.dup, 1) := by decide +kernel
theorem d_Md_takes_12 : decode prog_12_method_54_code 12 = .ok (.getfield 321, 3) := by decide +kernel
theorem d_Md_takes_15 : decode prog_12_method_54_code 15 = .ok (.iconst 1, 1) := by decide +kernel
theorem d_Md_takes_16 : decode prog_12_method_54_code 16 = .ok (.iadd, 1) := by decide +kernel
theorem d_Md_takes_17 : decode prog_12_method_54_code 17 = .ok (.putfield 321, 3) := by decide +kernel
theorem d_Md_takes_20 : decode prog_12_method_54_code 20 = .ok (.iconst 1, 1) := by decide +kernel
theorem d_Md_takes_21 : decode prog_12_method_54_code 21 = .ok (.ireturn, 1) := by decide +kernel
set_option maxHeartbeats 4000000 in
set_option maxRecDepth 100000 in
theorem K_Md_takes_e {F : FT} (hD : ∀ σ, va_D F.2.2.1 (GW F.2.1 σ)) (hm : F.2.2.2.2.2.2.2.2.2.2.2.2.2.2.1 = 2) (ok : OkF F prog_12_method_54_code "LastSeenModel" ({ frames := 1, cells := 0, slots := 0, locals := 20 } : Room)) {Q : Int → SS → Prop} (hQ : RetZ F Q) {x1 : Int} {s : SS} (h : Sp_Md_takes x1 s Q) : AtS F 0 [(0, .ref (F.2.1.1 10)), (1, vI x1)] [] s := by
  unfold Sp_Md_takes at h
  refine r_aload_n ok 0 d_Md_takes_0 rfl rfl ?_
  refine r_callVi (As := []) (rest := []) ok 10 rfl rfl rfl wl_Md_336 wi_y_Md_sign ws_y_Md_sign wn_Md wc_y_Md_sign (by decide) (by decide) hh_Md_sign (Nat.le_of_ble_eq_true rfl) rfl d_Md_takes_1 (L_Md_sign F.1 F.2.1 F.2.2.1 hD h) (fun r2 s1 h => ?_)
  refine r_iload_n ok 1 d_Md_takes_4 rfl rfl ?_
  refine r_icmp_eq ok 10 d_Md_takes_5 (by decide) h.1 h.2.1 (fun c => ?_) (fun c => ?_)
  · replace h := h.2.2.1 c
    refine r_aload_n ok 0 d_Md_takes_10 rfl rfl ?_
    refine r_dup ok d_Md_takes_11 rfl ?_
    refine g_Md_at ok d_Md_takes_12 ?_
    refine r_iconst ok 1 d_Md_takes_15 rfl ?_
    refine r_iadd ok d_Md_takes_16 ?_
    refine p_Md_at ok d_Md_takes_17 ?_
    replace h := h _ rfl
    generalize sF s1 40 ((s1.1 40) + 1) = s3 at h ⊢
    refine r_iconst ok 1 d_Md_takes_20 rfl ?_
    exact hQ _ _ _ _ _ (ok_code ok) d_Md_takes_21 (by decide) h
  · replace h := h.2.2.2 c
    refine r_iconst ok 0 d_Md_takes_8 rfl ?_
    exact hQ _ _ _ _ _ (ok_code ok) d_Md_takes_9 (by decide) h
theorem L_Md_takes (l : Launch) (G : GE) (A : Nat → Prop) (hD : ∀ σ, va_D A (GW G σ)) {x1 : Int} {s : SS} {Q : Int → SS → Prop} (h : Sp_Md_takes x1 s Q) : Met l y_Md_takes (Cond.code y_Md_takes prog_12_method_54_code 2 (some .boolean) :: lw_ok) ({ frames := 1, cells := 0, slots := 0, locals := 20 } : Room) (va_Pc [.ref (G.1 10), vI x1] (gB G s)) (va_Qi (fun (r : Int32) (s2 : SS) => ∃ x : Int, r = iI x ∧ Q x s2) (fun s2 t => gB G s2 t) A) 0 0 A := by
  refine met_z hD (by decide) ⟨rfl, rfl⟩ (Nat.le_of_ble_eq_true rfl) (lv := [(0, .ref (G.1 10)), (1, vI x1)]) rfl (fun F h1 h2 h3 hm ok hQ => ?_)
  subst h1 h2 h3
  have hDF := hD
  exact K_Md_takes_e hDF hm ok hQ h
theorem d_Md_isElse_0 : decode prog_12_method_55_code 0 = .ok (.aload_n 0, 1) := by decide +kernel
theorem d_Md_isElse_1 : decode prog_12_method_55_code 1 = .ok (.invokevirtual 336, 3) := by decide +kernel
theorem d_Md_isElse_4 : decode prog_12_method_55_code 4 = .ok (.bipush 101, 2) := by decide +kernel
theorem d_Md_isElse_6 : decode prog_12_method_55_code 6 = .ok (.if_icmp .eq 5, 3) := by decide +kernel
theorem d_Md_isElse_9 : decode prog_12_method_55_code 9 = .ok (.iconst 0, 1) := by decide +kernel
theorem d_Md_isElse_10 : decode prog_12_method_55_code 10 = .ok (.ireturn, 1) := by decide +kernel
theorem d_Md_isElse_11 : decode prog_12_method_55_code 11 = .ok (.iload_n 1, 1) := by decide +kernel
theorem d_Md_isElse_12 : decode prog_12_method_55_code 12 = .ok (.bipush 8, 2) := by decide +kernel
theorem d_Md_isElse_14 : decode prog_12_method_55_code 14 = .ok (.if_icmp .eq 32, 3) := by decide +kernel
theorem d_Md_isElse_17 : decode prog_12_method_55_code 17 = .ok (.aload_n 0, 1) := by decide +kernel
theorem d_Md_isElse_18 : decode prog_12_method_55_code 18 = .ok (.getfield 321, 3) := by decide +kernel
theorem d_Md_isElse_21 : decode prog_12_method_55_code 21 = .ok (.iconst 1, 1) := by decide +kernel
theorem d_Md_isElse_22 : decode prog_12_method_55_code 22 = .ok (.iadd, 1) := by decide +kernel
theorem d_Md_isElse_23 : decode prog_12_method_55_code 23 = .ok (.aload_n 0, 1) := by decide +kernel
theorem d_Md_isElse_24 : decode prog_12_method_55_code 24 = .ok (.getfield 205, 3) := by decide +kernel
theorem d_Md_isElse_27 : decode prog_12_method_55_code 27 = .ok (.if_icmp .ge 23, 3) := by decide +kernel
theorem d_Md_isElse_30 : decode prog_12_method_55_code 30 = .ok (.aload_n 0, 1) := by decide +kernel
theorem d_Md_isElse_31 : decode prog_12_method_55_code 31 = .ok (.getfield 22, 3) := by decide +kernel
theorem d_Md_isElse_34 : decode prog_12_method_55_code 34 = .ok (.aload_n 0, 1) := by decide +kernel
theorem d_Md_isElse_35 : decode prog_12_method_55_code 35 = .ok (.getfield 321, 3) := by decide +kernel
theorem d_Md_isElse_38 : decode prog_12_method_55_code 38 = .ok (.iconst 1, 1) := by decide +kernel
theorem d_Md_isElse_39 : decode prog_12_method_55_code 39 = .ok (.iadd, 1) := by decide +kernel
theorem d_Md_isElse_40 : decode prog_12_method_55_code 40 = .ok (.iaload, 1) := by decide +kernel
theorem d_Md_isElse_41 : decode prog_12_method_55_code 41 = .ok (.bipush 108, 2) := by decide +kernel
theorem d_Md_isElse_43 : decode prog_12_method_55_code 43 = .ok (.if_icmp .ne 7, 3) := by decide +kernel
theorem d_Md_isElse_46 : decode prog_12_method_55_code 46 = .ok (.iconst 1, 1) := by decide +kernel
theorem d_Md_isElse_47 : decode prog_12_method_55_code 47 = .ok (.goto 4, 3) := by decide +kernel
theorem d_Md_isElse_50 : decode prog_12_method_55_code 50 = .ok (.iconst 0, 1) := by decide +kernel
theorem d_Md_isElse_51 : decode prog_12_method_55_code 51 = .ok (.ireturn, 1) := by decide +kernel
set_option maxHeartbeats 4000000 in
set_option maxRecDepth 100000 in
theorem K_Md_isElse_e {F : FT} (hD : ∀ σ, va_D F.2.2.1 (GW F.2.1 σ)) (hm : F.2.2.2.2.2.2.2.2.2.2.2.2.2.2.1 = 2) (ok : OkF F prog_12_method_55_code "LastSeenModel" ({ frames := 1, cells := 0, slots := 0, locals := 20 } : Room)) {Q : Int → SS → Prop} (hQ : RetZ F Q) {x1 : Int} {s : SS} (h : Sp_Md_isElse x1 s Q) : AtS F 0 [(0, .ref (F.2.1.1 10)), (1, vI x1)] [] s := by
  unfold Sp_Md_isElse at h
  refine r_aload_n ok 0 d_Md_isElse_0 rfl rfl ?_
  refine r_callVi (As := []) (rest := []) ok 10 rfl rfl rfl wl_Md_336 wi_y_Md_sign ws_y_Md_sign wn_Md wc_y_Md_sign (by decide) (by decide) hh_Md_sign (Nat.le_of_ble_eq_true rfl) rfl d_Md_isElse_1 (L_Md_sign F.1 F.2.1 F.2.2.1 hD h) (fun r2 s1 h => ?_)
  refine r_bipush ok 101 d_Md_isElse_4 (by decide) ?_
  refine r_icmp_eq ok 11 d_Md_isElse_6 (by decide) h.1 (by decide) (fun c => ?_) (fun c => ?_)
  · replace h := h.2.1 c
    refine r_iload_n ok 1 d_Md_isElse_11 rfl rfl ?_
    refine r_bipush ok 8 d_Md_isElse_12 (by decide) ?_
    refine r_icmp_eq ok 46 d_Md_isElse_14 (by decide) h.1 (by decide) (fun c => ?_) (fun c => ?_)
    · replace h := h.2.1 c
      refine r_iconst ok 1 d_Md_isElse_46 rfl ?_
      refine r_goto ok 51 d_Md_isElse_47 (by decide) ?_
      exact hQ _ _ _ _ _ (ok_code ok) d_Md_isElse_51 (by decide) h
    · replace h := h.2.2 c
      refine r_aload_n ok 0 d_Md_isElse_17 rfl rfl ?_
      refine g_Md_at ok d_Md_isElse_18 ?_
      refine r_iconst ok 1 d_Md_isElse_21 rfl ?_
      refine r_iadd ok d_Md_isElse_22 ?_
      refine r_aload_n ok 0 d_Md_isElse_23 rfl rfl ?_
      refine g_Md_taped ok d_Md_isElse_24 ?_
      refine r_icmp_ge ok 50 d_Md_isElse_27 (by decide) h.1 h.2.1 (fun c => ?_) (fun c => ?_)
      · replace h := h.2.2.1 c
        refine r_iconst ok 0 d_Md_isElse_50 rfl ?_
        exact hQ _ _ _ _ _ (ok_code ok) d_Md_isElse_51 (by decide) h
      · replace h := h.2.2.2 c
        refine r_aload_n ok 0 d_Md_isElse_30 rfl rfl ?_
        refine g_Md_tape ok d_Md_isElse_31 ?_
        refine r_aload_n ok 0 d_Md_isElse_34 rfl rfl ?_
        refine g_Md_at ok d_Md_isElse_35 ?_
        refine r_iconst ok 1 d_Md_isElse_38 rfl ?_
        refine r_iadd ok d_Md_isElse_39 ?_
        refine r_iald ok 63 d_Md_isElse_40 (by decide) rfl h.1 ?_
        replace h := h.2
        refine r_bipush ok 108 d_Md_isElse_41 (by decide) ?_
        refine r_icmp_ne ok 50 d_Md_isElse_43 (by decide) h.1 (by decide) (fun c => ?_) (fun c => ?_)
        · replace h := h.2.1 c
          refine r_iconst ok 0 d_Md_isElse_50 rfl ?_
          exact hQ _ _ _ _ _ (ok_code ok) d_Md_isElse_51 (by decide) h
        · replace h := h.2.2 c
          refine r_iconst ok 1 d_Md_isElse_46 rfl ?_
          refine r_goto ok 51 d_Md_isElse_47 (by decide) ?_
          exact hQ _ _ _ _ _ (ok_code ok) d_Md_isElse_51 (by decide) h
  · replace h := h.2.2 c
    refine r_iconst ok 0 d_Md_isElse_9 rfl ?_
    exact hQ _ _ _ _ _ (ok_code ok) d_Md_isElse_10 (by decide) h
theorem L_Md_isElse (l : Launch) (G : GE) (A : Nat → Prop) (hD : ∀ σ, va_D A (GW G σ)) {x1 : Int} {s : SS} {Q : Int → SS → Prop} (h : Sp_Md_isElse x1 s Q) : Met l y_Md_isElse (Cond.code y_Md_isElse prog_12_method_55_code 2 (some .boolean) :: lw_ok) ({ frames := 1, cells := 0, slots := 0, locals := 20 } : Room) (va_Pc [.ref (G.1 10), vI x1] (gB G s)) (va_Qi (fun (r : Int32) (s2 : SS) => ∃ x : Int, r = iI x ∧ Q x s2) (fun s2 t => gB G s2 t) A) 0 0 A := by
  refine met_z hD (by decide) ⟨rfl, rfl⟩ (Nat.le_of_ble_eq_true rfl) (lv := [(0, .ref (G.1 10)), (1, vI x1)]) rfl (fun F h1 h2 h3 hm ok hQ => ?_)
  subst h1 h2 h3
  have hDF := hD
  exact K_Md_isElse_e hDF hm ok hQ h
theorem d_Md_parses_0 : decode prog_12_method_56_code 0 = .ok (.aload_n 0, 1) := by decide +kernel
theorem d_Md_parses_1 : decode prog_12_method_56_code 1 = .ok (.iconst 0, 1) := by decide +kernel
theorem d_Md_parses_2 : decode prog_12_method_56_code 2 = .ok (.putfield 321, 3) := by decide +kernel
theorem d_Md_parses_5 : decode prog_12_method_56_code 5 = .ok (.aload_n 0, 1) := by decide +kernel
theorem d_Md_parses_6 : decode prog_12_method_56_code 6 = .ok (.iconst 0, 1) := by decide +kernel
theorem d_Md_parses_7 : decode prog_12_method_56_code 7 = .ok (.putfield 327, 3) := by decide +kernel
theorem d_Md_parses_10 : decode prog_12_method_56_code 10 = .ok (.iconst 0, 1) := by decide +kernel
theorem d_Md_parses_11 : decode prog_12_method_56_code 11 = .ok (.istore_n 1, 1) := by decide +kernel
theorem d_Md_parses_12 : decode prog_12_method_56_code 12 = .ok (.aload_n 0, 1) := by decide +kernel
theorem d_Md_parses_13 : decode prog_12_method_56_code 13 = .ok (.iload_n 1, 1) := by decide +kernel
theorem d_Md_parses_14 : decode prog_12_method_56_code 14 = .ok (.invokevirtual 354, 3) := by decide +kernel
theorem d_Md_parses_17 : decode prog_12_method_56_code 17 = .ok (.ifCond .ne 100, 3) := by decide +kernel
theorem d_Md_parses_20 : decode prog_12_method_56_code 20 = .ok (.iload_n 1, 1) := by decide +kernel
theorem d_Md_parses_21 : decode prog_12_method_56_code 21 = .ok (.bipush 8, 2) := by decide +kernel
theorem d_Md_parses_23 : decode prog_12_method_56_code 23 = .ok (.if_icmp .eq 29, 3) := by decide +kernel
theorem d_Md_parses_26 : decode prog_12_method_56_code 26 = .ok (.aload_n 0, 1) := by decide +kernel
theorem d_Md_parses_27 : decode prog_12_method_56_code 27 = .ok (.invokevirtual 357, 3) := by decide +kernel
theorem d_Md_parses_30 : decode prog_12_method_56_code 30 = .ok (.ifCond .eq 22, 3) := by decide +kernel
theorem d_Md_parses_33 : decode prog_12_method_56_code 33 = .ok (.aload_n 0, 1) := by decide +kernel
theorem d_Md_parses_34 : decode prog_12_method_56_code 34 = .ok (.bipush 62, 2) := by decide +kernel
theorem d_Md_parses_36 : decode prog_12_method_56_code 36 = .ok (.invokevirtual 360, 3) := by decide +kernel
theorem d_Md_parses_39 : decode prog_12_method_56_code 39 = .ok (.ifCond .eq 13, 3) := by decide +kernel
theorem d_Md_parses_42 : decode prog_12_method_56_code 42 = .ok (.aload_n 0, 1) := by decide +kernel
theorem d_Md_parses_43 : decode prog_12_method_56_code 43 = .ok (.invokevirtual 336, 3) := by decide +kernel
theorem d_Md_parses_46 : decode prog_12_method_56_code 46 = .ok (.invokestatic 345, 3) := by decide +kernel
theorem d_Md_parses_49 : decode prog_12_method_56_code 49 = .ok (.ifCond .ne 5, 3) := by decide +kernel
theorem d_Md_parses_52 : decode prog_12_method_56_code 52 = .ok (.iconst 0, 1) := by decide +kernel
theorem d_Md_parses_53 : decode prog_12_method_56_code 53 = .ok (.ireturn, 1) := by decide +kernel
theorem d_Md_parses_54 : decode prog_12_method_56_code 54 = .ok (.aload_n 0, 1) := by decide +kernel
theorem d_Md_parses_55 : decode prog_12_method_56_code 55 = .ok (.getfield 102, 3) := by decide +kernel
theorem d_Md_parses_58 : decode prog_12_method_56_code 58 = .ok (.bipush 8, 2) := by decide +kernel
theorem d_Md_parses_60 : decode prog_12_method_56_code 60 = .ok (.aload_n 0, 1) := by decide +kernel
theorem d_Md_parses_61 : decode prog_12_method_56_code 61 = .ok (.getfield 324, 3) := by decide +kernel
theorem d_Md_parses_64 : decode prog_12_method_56_code 64 = .ok (.imul, 1) := by decide +kernel
theorem d_Md_parses_65 : decode prog_12_method_56_code 65 = .ok (.iload_n 1, 1) := by decide +kernel
theorem d_Md_parses_66 : decode prog_12_method_56_code 66 = .ok (.iadd, 1) := by decide +kernel
theorem d_Md_parses_67 : decode prog_12_method_56_code 67 = .ok (.aload_n 0, 1) := by decide +kernel
theorem d_Md_parses_68 : decode prog_12_method_56_code 68 = .ok (.invokevirtual 336, 3) := by decide +kernel
theorem d_Md_parses_71 : decode prog_12_method_56_code 71 = .ok (.bipush 48, 2) := by decide +kernel
theorem d_Md_parses_73 : decode prog_12_method_56_code 73 = .ok (.isub, 1) := by decide +kernel
theorem d_Md_parses_74 : decode prog_12_method_56_code 74 = .ok (.iastore, 1) := by decide +kernel
theorem d_Md_parses_75 : decode prog_12_method_56_code 75 = .ok (.aload_n 0, 1) := by decide +kernel
theorem d_Md_parses_76 : decode prog_12_method_56_code 76 = .ok (.getfield 99, 3) := by decide +kernel
theorem d_Md_parses_79 : decode prog_12_method_56_code 79 = .ok (.bipush 8, 2) := by decide +kernel
theorem d_Md_parses_81 : decode prog_12_method_56_code 81 = .ok (.aload_n 0, 1) := by decide +kernel
theorem d_Md_parses_82 : decode prog_12_method_56_code 82 = .ok (.getfield 324, 3) := by decide +kernel
theorem d_Md_parses_85 : decode prog_12_method_56_code 85 = .ok (.imul, 1) := by decide +kernel
theorem d_Md_parses_86 : decode prog_12_method_56_code 86 = .ok (.iload_n 1, 1) := by decide +kernel
theorem d_Md_parses_87 : decode prog_12_method_56_code 87 = .ok (.iadd, 1) := by decide +kernel
theorem d_Md_parses_88 : decode prog_12_method_56_code 88 = .ok (.aload_n 0, 1) := by decide +kernel
theorem d_Md_parses_89 : decode prog_12_method_56_code 89 = .ok (.getfield 327, 3) := by decide +kernel
theorem d_Md_parses_92 : decode prog_12_method_56_code 92 = .ok (.iastore, 1) := by decide +kernel
theorem d_Md_parses_93 : decode prog_12_method_56_code 93 = .ok (.iinc 1 1, 3) := by decide +kernel
theorem d_Md_parses_96 : decode prog_12_method_56_code 96 = .ok (.aload_n 0, 1) := by decide +kernel
theorem d_Md_parses_97 : decode prog_12_method_56_code 97 = .ok (.dup, 1) := by decide +kernel
theorem d_Md_parses_98 : decode prog_12_method_56_code 98 = .ok (.getfield 321, 3) := by decide +kernel
theorem d_Md_parses_101 : decode prog_12_method_56_code 101 = .ok (.iconst 1, 1) := by decide +kernel
theorem d_Md_parses_102 : decode prog_12_method_56_code 102 = .ok (.iadd, 1) := by decide +kernel
theorem d_Md_parses_103 : decode prog_12_method_56_code 103 = .ok (.putfield 321, 3) := by decide +kernel
theorem d_Md_parses_106 : decode prog_12_method_56_code 106 = .ok (.aload_n 0, 1) := by decide +kernel
theorem d_Md_parses_107 : decode prog_12_method_56_code 107 = .ok (.bipush 59, 2) := by decide +kernel
theorem d_Md_parses_109 : decode prog_12_method_56_code 109 = .ok (.invokevirtual 360, 3) := by decide +kernel
theorem d_Md_parses_112 : decode prog_12_method_56_code 112 = .ok (.ifCond .ne (-100), 3) := by decide +kernel
theorem d_Md_parses_115 : decode prog_12_method_56_code 115 = .ok (.iconst 0, 1) := by decide +kernel
theorem d_Md_parses_116 : decode prog_12_method_56_code 116 = .ok (.ireturn, 1) := by decide +kernel
theorem d_Md_parses_117 : decode prog_12_method_56_code 117 = .ok (.aload_n 0, 1) := by decide +kernel
theorem d_Md_parses_118 : decode prog_12_method_56_code 118 = .ok (.bipush 101, 2) := by decide +kernel
theorem d_Md_parses_120 : decode prog_12_method_56_code 120 = .ok (.invokevirtual 360, 3) := by decide +kernel
theorem d_Md_parses_123 : decode prog_12_method_56_code 123 = .ok (.ifCond .eq 49, 3) := by decide +kernel
theorem d_Md_parses_126 : decode prog_12_method_56_code 126 = .ok (.aload_n 0, 1) := by decide +kernel
theorem d_Md_parses_127 : decode prog_12_method_56_code 127 = .ok (.bipush 108, 2) := by decide +kernel
theorem d_Md_parses_129 : decode prog_12_method_56_code 129 = .ok (.invokevirtual 360, 3) := by decide +kernel
theorem d_Md_parses_132 : decode prog_12_method_56_code 132 = .ok (.ifCond .eq 40, 3) := by decide +kernel
theorem d_Md_parses_135 : decode prog_12_method_56_code 135 = .ok (.aload_n 0, 1) := by decide +kernel
theorem d_Md_parses_136 : decode prog_12_method_56_code 136 = .ok (.bipush 115, 2) := by decide +kernel
theorem d_Md_parses_138 : decode prog_12_method_56_code 138 = .ok (.invokevirtual 360, 3) := by decide +kernel
theorem d_Md_parses_141 : decode prog_12_method_56_code 141 = .ok (.ifCond .eq 31, 3) := by decide +kernel
theorem d_Md_parses_144 : decode prog_12_method_56_code 144 = .ok (.aload_n 0, 1) := by decide +kernel
theorem d_Md_parses_145 : decode prog_12_method_56_code 145 = .ok (.bipush 101, 2) := by decide +kernel
theorem d_Md_parses_147 : decode prog_12_method_56_code 147 = .ok (.invokevirtual 360, 3) := by decide +kernel
theorem d_Md_parses_150 : decode prog_12_method_56_code 150 = .ok (.ifCond .eq 22, 3) := by decide +kernel
theorem d_Md_parses_153 : decode prog_12_method_56_code 153 = .ok (.aload_n 0, 1) := by decide +kernel
theorem d_Md_parses_154 : decode prog_12_method_56_code 154 = .ok (.bipush 62, 2) := by decide +kernel
theorem d_Md_parses_156 : decode prog_12_method_56_code 156 = .ok (.invokevirtual 360, 3) := by decide +kernel
theorem d_Md_parses_159 : decode prog_12_method_56_code 159 = .ok (.ifCond .eq 13, 3) := by decide +kernel
theorem d_Md_parses_162 : decode prog_12_method_56_code 162 = .ok (.aload_n 0, 1) := by decide +kernel
theorem d_Md_parses_163 : decode prog_12_method_56_code 163 = .ok (.invokevirtual 336, 3) := by decide +kernel
theorem d_Md_parses_166 : decode prog_12_method_56_code 166 = .ok (.invokestatic 345, 3) := by decide +kernel
theorem d_Md_parses_169 : decode prog_12_method_56_code 169 = .ok (.ifCond .ne 5, 3) := by decide +kernel
theorem d_Md_parses_172 : decode prog_12_method_56_code 172 = .ok (.iconst 0, 1) := by decide +kernel
theorem d_Md_parses_173 : decode prog_12_method_56_code 173 = .ok (.ireturn, 1) := by decide +kernel
theorem d_Md_parses_174 : decode prog_12_method_56_code 174 = .ok (.aload_n 0, 1) := by decide +kernel
theorem d_Md_parses_175 : decode prog_12_method_56_code 175 = .ok (.getfield 108, 3) := by decide +kernel
theorem d_Md_parses_178 : decode prog_12_method_56_code 178 = .ok (.aload_n 0, 1) := by decide +kernel
theorem d_Md_parses_179 : decode prog_12_method_56_code 179 = .ok (.getfield 324, 3) := by decide +kernel
theorem d_Md_parses_182 : decode prog_12_method_56_code 182 = .ok (.aload_n 0, 1) := by decide +kernel
theorem d_Md_parses_183 : decode prog_12_method_56_code 183 = .ok (.invokevirtual 336, 3) := by decide +kernel
theorem d_Md_parses_186 : decode prog_12_method_56_code 186 = .ok (.bipush 48, 2) := by decide +kernel
theorem d_Md_parses_188 : decode prog_12_method_56_code 188 = .ok (.isub, 1) := by decide +kernel
theorem d_Md_parses_189 : decode prog_12_method_56_code 189 = .ok (.iastore, 1) := by decide +kernel
theorem d_Md_parses_190 : decode prog_12_method_56_code 190 = .ok (.aload_n 0, 1) := by decide +kernel
theorem d_Md_parses_191 : decode prog_12_method_56_code 191 = .ok (.dup, 1) := by decide +kernel
theorem d_Md_parses_192 : decode prog_12_method_56_code 192 = .ok (.getfield 321, 3) := by decide +kernel
theorem d_Md_parses_195 : decode prog_12_method_56_code 195 = .ok (.iconst 1, 1) := by decide +kernel
theorem d_Md_parses_196 : decode prog_12_method_56_code 196 = .ok (.iadd, 1) := by decide +kernel
theorem d_Md_parses_197 : decode prog_12_method_56_code 197 = .ok (.putfield 321, 3) := by decide +kernel
theorem d_Md_parses_200 : decode prog_12_method_56_code 200 = .ok (.aload_n 0, 1) := by decide +kernel
theorem d_Md_parses_201 : decode prog_12_method_56_code 201 = .ok (.getfield 105, 3) := by decide +kernel
theorem d_Md_parses_204 : decode prog_12_method_56_code 204 = .ok (.aload_n 0, 1) := by decide +kernel
theorem d_Md_parses_205 : decode prog_12_method_56_code 205 = .ok (.getfield 324, 3) := by decide +kernel
theorem d_Md_parses_208 : decode prog_12_method_56_code 208 = .ok (.iload_n 1, 1) := by decide +kernel
theorem d_Md_parses_209 : decode prog_12_method_56_code 209 = .ok (.iastore, 1) := by decide +kernel
theorem d_Md_parses_210 : decode prog_12_method_56_code 210 = .ok (.aload_n 0, 1) := by decide +kernel
theorem d_Md_parses_211 : decode prog_12_method_56_code 211 = .ok (.getfield 321, 3) := by decide +kernel
theorem d_Md_parses_214 : decode prog_12_method_56_code 214 = .ok (.aload_n 0, 1) := by decide +kernel
theorem d_Md_parses_215 : decode prog_12_method_56_code 215 = .ok (.getfield 205, 3) := by decide +kernel
theorem d_Md_parses_218 : decode prog_12_method_56_code 218 = .ok (.if_icmp .ne 7, 3) := by decide +kernel
theorem d_Md_parses_221 : decode prog_12_method_56_code 221 = .ok (.iconst 1, 1) := by decide +kernel
theorem d_Md_parses_222 : decode prog_12_method_56_code 222 = .ok (.goto 4, 3) := by decide +kernel
theorem d_Md_parses_225 : decode prog_12_method_56_code 225 = .ok (.iconst 0, 1) := by decide +kernel
theorem d_Md_parses_226 : decode prog_12_method_56_code 226 = .ok (.ireturn, 1) := by decide +kernel
set_option maxHeartbeats 4000000 in
set_option maxRecDepth 100000 in
theorem K_Md_parses_12 {F : FT} (hD : ∀ σ, va_D F.2.2.1 (GW F.2.1 σ)) (hm : F.2.2.2.2.2.2.2.2.2.2.2.2.2.2.1 = 2) (ok : OkF F prog_12_method_56_code "LastSeenModel" ({ frames := 4, cells := 0, slots := 0, locals := 85 } : Room)) {Q : Int → SS → Prop} (hQ : RetZ F Q) {x1 : Int} {s : SS} (h : B_Md_parses_12 Q (fun x1 s => AtS F 12 [(0, .ref (F.2.1.1 10)), (1, vI x1)] [] s) x1 s) : AtS F 12 [(0, .ref (F.2.1.1 10)), (1, vI x1)] [] s := by
  unfold B_Md_parses_12 at h
  refine r_aload_n ok 0 d_Md_parses_12 rfl rfl ?_
  refine r_iload_n ok 1 d_Md_parses_13 rfl rfl ?_
  refine r_callVi (As := [vI x1]) (rest := []) ok 10 rfl rfl rfl wl_Md_354 wi_y_Md_isElse ws_y_Md_isElse wn_Md wc_y_Md_isElse (by decide) (by decide) hh_Md_isElse (Nat.le_of_ble_eq_true rfl) rfl d_Md_parses_14 (L_Md_isElse F.1 F.2.1 F.2.2.1 hD h) (fun r4 s3 h => ?_)
  refine r_if_ne ok 117 d_Md_parses_17 (by decide) h.1 (fun c => ?_) (fun c => ?_)
  · replace h := h.2.1 c
    refine r_aload_n ok 0 d_Md_parses_117 rfl rfl ?_
    refine r_bipush ok 101 d_Md_parses_118 (by decide) ?_
    refine r_callVi (As := [vI 101]) (rest := []) ok 10 rfl rfl rfl wl_Md_360 wi_y_Md_takes ws_y_Md_takes wn_Md wc_y_Md_takes (by decide) (by decide) hh_Md_takes (Nat.le_of_ble_eq_true rfl) rfl d_Md_parses_120 (L_Md_takes F.1 F.2.1 F.2.2.1 hD h) (fun r6 s5 h => ?_)
    refine r_if_eq ok 172 d_Md_parses_123 (by decide) h.1 (fun c => ?_) (fun c => ?_)
    · replace h := h.2.1 c
      refine r_iconst ok 0 d_Md_parses_172 rfl ?_
      exact hQ _ _ _ _ _ (ok_code ok) d_Md_parses_173 (by decide) h
    · replace h := h.2.2 c
      refine r_aload_n ok 0 d_Md_parses_126 rfl rfl ?_
      refine r_bipush ok 108 d_Md_parses_127 (by decide) ?_
      refine r_callVi (As := [vI 108]) (rest := []) ok 10 rfl rfl rfl wl_Md_360 wi_y_Md_takes ws_y_Md_takes wn_Md wc_y_Md_takes (by decide) (by decide) hh_Md_takes (Nat.le_of_ble_eq_true rfl) rfl d_Md_parses_129 (L_Md_takes F.1 F.2.1 F.2.2.1 hD h) (fun r8 s7 h => ?_)
      refine r_if_eq ok 172 d_Md_parses_132 (by decide) h.1 (fun c => ?_) (fun c => ?_)
      · replace h := h.2.1 c
        refine r_iconst ok 0 d_Md_parses_172 rfl ?_
        exact hQ _ _ _ _ _ (ok_code ok) d_Md_parses_173 (by decide) h
      · replace h := h.2.2 c
        refine r_aload_n ok 0 d_Md_parses_135 rfl rfl ?_
        refine r_bipush ok 115 d_Md_parses_136 (by decide) ?_
        refine r_callVi (As := [vI 115]) (rest := []) ok 10 rfl rfl rfl wl_Md_360 wi_y_Md_takes ws_y_Md_takes wn_Md wc_y_Md_takes (by decide) (by decide) hh_Md_takes (Nat.le_of_ble_eq_true rfl) rfl d_Md_parses_138 (L_Md_takes F.1 F.2.1 F.2.2.1 hD h) (fun r10 s9 h => ?_)
        refine r_if_eq ok 172 d_Md_parses_141 (by decide) h.1 (fun c => ?_) (fun c => ?_)
        · replace h := h.2.1 c
          refine r_iconst ok 0 d_Md_parses_172 rfl ?_
          exact hQ _ _ _ _ _ (ok_code ok) d_Md_parses_173 (by decide) h
        · replace h := h.2.2 c
          refine r_aload_n ok 0 d_Md_parses_144 rfl rfl ?_
          refine r_bipush ok 101 d_Md_parses_145 (by decide) ?_
          refine r_callVi (As := [vI 101]) (rest := []) ok 10 rfl rfl rfl wl_Md_360 wi_y_Md_takes ws_y_Md_takes wn_Md wc_y_Md_takes (by decide) (by decide) hh_Md_takes (Nat.le_of_ble_eq_true rfl) rfl d_Md_parses_147 (L_Md_takes F.1 F.2.1 F.2.2.1 hD h) (fun r12 s11 h => ?_)
          refine r_if_eq ok 172 d_Md_parses_150 (by decide) h.1 (fun c => ?_) (fun c => ?_)
          · replace h := h.2.1 c
            refine r_iconst ok 0 d_Md_parses_172 rfl ?_
            exact hQ _ _ _ _ _ (ok_code ok) d_Md_parses_173 (by decide) h
          · replace h := h.2.2 c
            refine r_aload_n ok 0 d_Md_parses_153 rfl rfl ?_
            refine r_bipush ok 62 d_Md_parses_154 (by decide) ?_
            refine r_callVi (As := [vI 62]) (rest := []) ok 10 rfl rfl rfl wl_Md_360 wi_y_Md_takes ws_y_Md_takes wn_Md wc_y_Md_takes (by decide) (by decide) hh_Md_takes (Nat.le_of_ble_eq_true rfl) rfl d_Md_parses_156 (L_Md_takes F.1 F.2.1 F.2.2.1 hD h) (fun r14 s13 h => ?_)
            refine r_if_eq ok 172 d_Md_parses_159 (by decide) h.1 (fun c => ?_) (fun c => ?_)
            · replace h := h.2.1 c
              refine r_iconst ok 0 d_Md_parses_172 rfl ?_
              exact hQ _ _ _ _ _ (ok_code ok) d_Md_parses_173 (by decide) h
            · replace h := h.2.2 c
              refine r_aload_n ok 0 d_Md_parses_162 rfl rfl ?_
              refine r_callVi (As := []) (rest := []) ok 10 rfl rfl rfl wl_Md_336 wi_y_Md_sign ws_y_Md_sign wn_Md wc_y_Md_sign (by decide) (by decide) hh_Md_sign (Nat.le_of_ble_eq_true rfl) rfl d_Md_parses_163 (L_Md_sign F.1 F.2.1 F.2.2.1 hD h) (fun r16 s15 h => ?_)
              refine r_callSi (As := [vI r16]) (rest := []) ok wl_Md_345 wt_y_Md_isDigit wn_Md wc_y_Md_isDigit (by decide) (by decide) hh_Md_isDigit (Nat.le_of_ble_eq_true rfl) rfl d_Md_parses_166 (L_Md_isDigit F.1 F.2.1 F.2.2.1 hD h) (fun r18 s17 h => ?_)
              refine r_if_ne ok 174 d_Md_parses_169 (by decide) h.1 (fun c => ?_) (fun c => ?_)
              · replace h := h.2.1 c
                refine r_aload_n ok 0 d_Md_parses_174 rfl rfl ?_
                refine g_Md_elseDigit ok d_Md_parses_175 ?_
                refine r_aload_n ok 0 d_Md_parses_178 rfl rfl ?_
                refine g_Md_rules ok d_Md_parses_179 ?_
                refine r_aload_n ok 0 d_Md_parses_182 rfl rfl ?_
                refine r_callVi (As := []) (rest := [vI (s17.1 39), .ref (F.2.1.1 102)]) ok 10 rfl rfl rfl wl_Md_336 wi_y_Md_sign ws_y_Md_sign wn_Md wc_y_Md_sign (by decide) (by decide) hh_Md_sign (Nat.le_of_ble_eq_true rfl) rfl d_Md_parses_183 (L_Md_sign F.1 F.2.1 F.2.2.1 hD h) (fun r20 s19 h => ?_)
                refine r_bipush ok 48 d_Md_parses_186 (by decide) ?_
                refine r_isub ok d_Md_parses_188 ?_
                refine r_iast ok 91 d_Md_parses_189 (by decide) rfl h.1 ?_
                replace h := h.2 _ rfl
                generalize sA s19 91 (s17.1 39) (r20 - 48) = s21 at h ⊢
                refine r_aload_n ok 0 d_Md_parses_190 rfl rfl ?_
                refine r_dup ok d_Md_parses_191 rfl ?_
                refine g_Md_at ok d_Md_parses_192 ?_
                refine r_iconst ok 1 d_Md_parses_195 rfl ?_
                refine r_iadd ok d_Md_parses_196 ?_
                refine p_Md_at ok d_Md_parses_197 ?_
                replace h := h _ rfl
                generalize sF s21 40 ((s21.1 40) + 1) = s22 at h ⊢
                refine r_aload_n ok 0 d_Md_parses_200 rfl rfl ?_
                refine g_Md_clauses ok d_Md_parses_201 ?_
                refine r_aload_n ok 0 d_Md_parses_204 rfl rfl ?_
                refine g_Md_rules ok d_Md_parses_205 ?_
                refine r_iload_n ok 1 d_Md_parses_208 rfl rfl ?_
                refine r_iast ok 90 d_Md_parses_209 (by decide) rfl h.1 ?_
                replace h := h.2 _ rfl
                generalize sA s22 90 (s22.1 39) x1 = s23 at h ⊢
                refine r_aload_n ok 0 d_Md_parses_210 rfl rfl ?_
                refine g_Md_at ok d_Md_parses_211 ?_
                refine r_aload_n ok 0 d_Md_parses_214 rfl rfl ?_
                refine g_Md_taped ok d_Md_parses_215 ?_
                refine r_icmp_ne ok 225 d_Md_parses_218 (by decide) h.1 h.2.1 (fun c => ?_) (fun c => ?_)
                · replace h := h.2.2.1 c
                  refine r_iconst ok 0 d_Md_parses_225 rfl ?_
                  exact hQ _ _ _ _ _ (ok_code ok) d_Md_parses_226 (by decide) h
                · replace h := h.2.2.2 c
                  refine r_iconst ok 1 d_Md_parses_221 rfl ?_
                  refine r_goto ok 226 d_Md_parses_222 (by decide) ?_
                  exact hQ _ _ _ _ _ (ok_code ok) d_Md_parses_226 (by decide) h
              · replace h := h.2.2 c
                refine r_iconst ok 0 d_Md_parses_172 rfl ?_
                exact hQ _ _ _ _ _ (ok_code ok) d_Md_parses_173 (by decide) h
  · replace h := h.2.2 c
    refine r_iload_n ok 1 d_Md_parses_20 rfl rfl ?_
    refine r_bipush ok 8 d_Md_parses_21 (by decide) ?_
    refine r_icmp_eq ok 52 d_Md_parses_23 (by decide) h.1 (by decide) (fun c => ?_) (fun c => ?_)
    · replace h := h.2.1 c
      refine r_iconst ok 0 d_Md_parses_52 rfl ?_
      exact hQ _ _ _ _ _ (ok_code ok) d_Md_parses_53 (by decide) h
    · replace h := h.2.2 c
      refine r_aload_n ok 0 d_Md_parses_26 rfl rfl ?_
      refine r_callVi (As := []) (rest := []) ok 10 rfl rfl rfl wl_Md_357 wi_y_Md_when ws_y_Md_when wn_Md wc_y_Md_when (by decide) (by decide) hh_Md_when (Nat.le_of_ble_eq_true rfl) rfl d_Md_parses_27 (L_Md_when F.1 F.2.1 F.2.2.1 hD h) (fun r25 s24 h => ?_)
      refine r_if_eq ok 52 d_Md_parses_30 (by decide) h.1 (fun c => ?_) (fun c => ?_)
      · replace h := h.2.1 c
        refine r_iconst ok 0 d_Md_parses_52 rfl ?_
        exact hQ _ _ _ _ _ (ok_code ok) d_Md_parses_53 (by decide) h
      · replace h := h.2.2 c
        refine r_aload_n ok 0 d_Md_parses_33 rfl rfl ?_
        refine r_bipush ok 62 d_Md_parses_34 (by decide) ?_
        refine r_callVi (As := [vI 62]) (rest := []) ok 10 rfl rfl rfl wl_Md_360 wi_y_Md_takes ws_y_Md_takes wn_Md wc_y_Md_takes (by decide) (by decide) hh_Md_takes (Nat.le_of_ble_eq_true rfl) rfl d_Md_parses_36 (L_Md_takes F.1 F.2.1 F.2.2.1 hD h) (fun r27 s26 h => ?_)
        refine r_if_eq ok 52 d_Md_parses_39 (by decide) h.1 (fun c => ?_) (fun c => ?_)
        · replace h := h.2.1 c
          refine r_iconst ok 0 d_Md_parses_52 rfl ?_
          exact hQ _ _ _ _ _ (ok_code ok) d_Md_parses_53 (by decide) h
        · replace h := h.2.2 c
          refine r_aload_n ok 0 d_Md_parses_42 rfl rfl ?_
          refine r_callVi (As := []) (rest := []) ok 10 rfl rfl rfl wl_Md_336 wi_y_Md_sign ws_y_Md_sign wn_Md wc_y_Md_sign (by decide) (by decide) hh_Md_sign (Nat.le_of_ble_eq_true rfl) rfl d_Md_parses_43 (L_Md_sign F.1 F.2.1 F.2.2.1 hD h) (fun r29 s28 h => ?_)
          refine r_callSi (As := [vI r29]) (rest := []) ok wl_Md_345 wt_y_Md_isDigit wn_Md wc_y_Md_isDigit (by decide) (by decide) hh_Md_isDigit (Nat.le_of_ble_eq_true rfl) rfl d_Md_parses_46 (L_Md_isDigit F.1 F.2.1 F.2.2.1 hD h) (fun r31 s30 h => ?_)
          refine r_if_ne ok 54 d_Md_parses_49 (by decide) h.1 (fun c => ?_) (fun c => ?_)
          · replace h := h.2.1 c
            refine r_aload_n ok 0 d_Md_parses_54 rfl rfl ?_
            refine g_Md_clauseDigit ok d_Md_parses_55 ?_
            refine r_bipush ok 8 d_Md_parses_58 (by decide) ?_
            refine r_aload_n ok 0 d_Md_parses_60 rfl rfl ?_
            refine g_Md_rules ok d_Md_parses_61 ?_
            refine r_imul ok d_Md_parses_64 ?_
            refine r_iload_n ok 1 d_Md_parses_65 rfl rfl ?_
            refine r_iadd ok d_Md_parses_66 ?_
            refine r_aload_n ok 0 d_Md_parses_67 rfl rfl ?_
            refine r_callVi (As := []) (rest := [vI ((8 * (s30.1 39)) + x1), .ref (F.2.1.1 100)]) ok 10 rfl rfl rfl wl_Md_336 wi_y_Md_sign ws_y_Md_sign wn_Md wc_y_Md_sign (by decide) (by decide) hh_Md_sign (Nat.le_of_ble_eq_true rfl) rfl d_Md_parses_68 (L_Md_sign F.1 F.2.1 F.2.2.1 hD h) (fun r33 s32 h => ?_)
            refine r_bipush ok 48 d_Md_parses_71 (by decide) ?_
            refine r_isub ok d_Md_parses_73 ?_
            refine r_iast ok 89 d_Md_parses_74 (by decide) rfl h.1 ?_
            replace h := h.2 _ rfl
            generalize sA s32 89 ((8 * (s30.1 39)) + x1) (r33 - 48) = s34 at h ⊢
            refine r_aload_n ok 0 d_Md_parses_75 rfl rfl ?_
            refine g_Md_clauseEnd ok d_Md_parses_76 ?_
            refine r_bipush ok 8 d_Md_parses_79 (by decide) ?_
            refine r_aload_n ok 0 d_Md_parses_81 rfl rfl ?_
            refine g_Md_rules ok d_Md_parses_82 ?_
            refine r_imul ok d_Md_parses_85 ?_
            refine r_iload_n ok 1 d_Md_parses_86 rfl rfl ?_
            refine r_iadd ok d_Md_parses_87 ?_
            refine r_aload_n ok 0 d_Md_parses_88 rfl rfl ?_
            refine g_Md_written ok d_Md_parses_89 ?_
            refine r_iast ok 88 d_Md_parses_92 (by decide) rfl h.1 ?_
            replace h := h.2 _ rfl
            generalize sA s34 88 ((8 * (s34.1 39)) + x1) (s34.1 41) = s35 at h ⊢
            refine r_iinc ok 1 (x1 + 1) [(1, vI (x1 + 1)), (0, .ref (F.2.1.1 10))] d_Md_parses_93 rfl rfl hm (by decide) rfl ?_
            refine r_aload_n ok 1 d_Md_parses_96 rfl rfl ?_
            refine r_dup ok d_Md_parses_97 rfl ?_
            refine g_Md_at ok d_Md_parses_98 ?_
            refine r_iconst ok 1 d_Md_parses_101 rfl ?_
            refine r_iadd ok d_Md_parses_102 ?_
            refine p_Md_at ok d_Md_parses_103 ?_
            replace h := h _ rfl
            generalize sF s35 40 ((s35.1 40) + 1) = s36 at h ⊢
            refine r_aload_n ok 1 d_Md_parses_106 rfl rfl ?_
            refine r_bipush ok 59 d_Md_parses_107 (by decide) ?_
            refine r_callVi (As := [vI 59]) (rest := []) ok 10 rfl rfl rfl wl_Md_360 wi_y_Md_takes ws_y_Md_takes wn_Md wc_y_Md_takes (by decide) (by decide) hh_Md_takes (Nat.le_of_ble_eq_true rfl) rfl d_Md_parses_109 (L_Md_takes F.1 F.2.1 F.2.2.1 hD h) (fun r38 s37 h => ?_)
            refine r_if_ne ok 12 d_Md_parses_112 (by decide) h.1 (fun c => ?_) (fun c => ?_)
            · replace h := h.2.1 c
              exact r_sub [1, 0] rfl h
            · replace h := h.2.2 c
              refine r_iconst ok 0 d_Md_parses_115 rfl ?_
              exact hQ _ _ _ _ _ (ok_code ok) d_Md_parses_116 (by decide) h
          · replace h := h.2.2 c
            refine r_iconst ok 0 d_Md_parses_52 rfl ?_
            exact hQ _ _ _ _ _ (ok_code ok) d_Md_parses_53 (by decide) h
set_option maxHeartbeats 4000000 in
set_option maxRecDepth 100000 in
theorem K_Md_parses_e {F : FT} (hD : ∀ σ, va_D F.2.2.1 (GW F.2.1 σ)) (hm : F.2.2.2.2.2.2.2.2.2.2.2.2.2.2.1 = 2) (ok : OkF F prog_12_method_56_code "LastSeenModel" ({ frames := 4, cells := 0, slots := 0, locals := 85 } : Room)) {Q : Int → SS → Prop} (hQ : RetZ F Q) {s : SS} (h : B_Md_parses_e Q (fun x1 s => AtS F 12 [(0, .ref (F.2.1.1 10)), (1, vI x1)] [] s)  s) : AtS F 0 [(0, .ref (F.2.1.1 10))] [] s := by
  unfold B_Md_parses_e at h
  refine r_aload_n ok 0 d_Md_parses_0 rfl rfl ?_
  refine r_iconst ok 0 d_Md_parses_1 rfl ?_
  refine p_Md_at ok d_Md_parses_2 ?_
  replace h := h _ rfl
  generalize sF s 40 0 = s1 at h ⊢
  refine r_aload_n ok 0 d_Md_parses_5 rfl rfl ?_
  refine r_iconst ok 0 d_Md_parses_6 rfl ?_
  refine p_Md_written ok d_Md_parses_7 ?_
  replace h := h _ rfl
  generalize sF s1 41 0 = s2 at h ⊢
  refine r_iconst ok 0 d_Md_parses_10 rfl ?_
  refine r_istore_n ok [(1, vI 0), (0, .ref (F.2.1.1 10))] d_Md_parses_11 rfl hm (by decide) rfl ?_
  exact r_sub [1, 0] rfl h
theorem L_Md_parses (l : Launch) (G : GE) (A : Nat → Prop) (hD : ∀ σ, va_D A (GW G σ)) {s : SS} {Q : Int → SS → Prop} (h : Sp_Md_parses  s Q) : Met l y_Md_parses (Cond.code y_Md_parses prog_12_method_56_code 2 (some .boolean) :: lw_ok) ({ frames := 4, cells := 0, slots := 0, locals := 85 } : Room) (va_Pc [.ref (G.1 10)] (gB G s)) (va_Qi (fun (r : Int32) (s2 : SS) => ∃ x : Int, r = iI x ∧ Q x s2) (fun s2 t => gB G s2 t) A) 0 0 A := by
  refine met_z hD (by decide) ⟨rfl, rfl⟩ (Nat.le_of_ble_eq_true rfl) (lv := [(0, .ref (G.1 10))]) rfl (fun F h1 h2 h3 hm ok hQ => ?_)
  subst h1 h2 h3
  have hDF := hD
  exact K_Md_parses_e hDF hm ok hQ (h _ (fun _ _ hb => K_Md_parses_12 hDF hm ok hQ hb))
theorem d_Md_rule_0 : decode prog_12_method_57_code 0 = .ok (.aload_n 0, 1) := by decide +kernel
theorem d_Md_rule_1 : decode prog_12_method_57_code 1 = .ok (.getfield 324, 3) := by decide +kernel
theorem d_Md_rule_4 : decode prog_12_method_57_code 4 = .ok (.bipush 20, 2) := by decide +kernel
theorem d_Md_rule_6 : decode prog_12_method_57_code 6 = .ok (.if_icmp .eq 13, 3) := by decide +kernel
theorem d_Md_rule_9 : decode prog_12_method_57_code 9 = .ok (.aload_n 0, 1) := by decide +kernel
theorem d_Md_rule_10 : decode prog_12_method_57_code 10 = .ok (.getfield 198, 3) := by decide +kernel
theorem d_Md_rule_13 : decode prog_12_method_57_code 13 = .ok (.sipush 200, 3) := by decide +kernel
theorem d_Md_rule_16 : decode prog_12_method_57_code 16 = .ok (.if_icmp .ne 6, 3) := by decide +kernel
theorem d_Md_rule_19 : decode prog_12_method_57_code 19 = .ok (.bipush (-4), 2) := by decide +kernel
theorem d_Md_rule_21 : decode prog_12_method_57_code 21 = .ok (.ireturn, 1) := by decide +kernel
theorem d_Md_rule_22 : decode prog_12_method_57_code 22 = .ok (.aload_n 0, 1) := by decide +kernel
theorem d_Md_rule_23 : decode prog_12_method_57_code 23 = .ok (.invokevirtual 363, 3) := by decide +kernel
theorem d_Md_rule_26 : decode prog_12_method_57_code 26 = .ok (.istore_n 1, 1) := by decide +kernel
theorem d_Md_rule_27 : decode prog_12_method_57_code 27 = .ok (.aload_n 0, 1) := by decide +kernel
theorem d_Md_rule_28 : decode prog_12_method_57_code 28 = .ok (.iconst 0, 1) := by decide +kernel
theorem d_Md_rule_29 : decode prog_12_method_57_code 29 = .ok (.putfield 205, 3) := by decide +kernel
theorem d_Md_rule_32 : decode prog_12_method_57_code 32 = .ok (.iload_n 1, 1) := by decide +kernel
theorem d_Md_rule_33 : decode prog_12_method_57_code 33 = .ok (.ifCond .ne 11, 3) := by decide +kernel
theorem d_Md_rule_36 : decode prog_12_method_57_code 36 = .ok (.bipush (-10), 2) := by decide +kernel
theorem d_Md_rule_38 : decode prog_12_method_57_code 38 = .ok (.aload_n 0, 1) := by decide +kernel
theorem d_Md_rule_39 : decode prog_12_method_57_code 39 = .ok (.getfield 321, 3) := by decide +kernel
theorem d_Md_rule_42 : decode prog_12_method_57_code 42 = .ok (.isub, 1) := by decide +kernel
theorem d_Md_rule_43 : decode prog_12_method_57_code 43 = .ok (.ireturn, 1) := by decide +kernel
theorem d_Md_rule_44 : decode prog_12_method_57_code 44 = .ok (.aload_n 0, 1) := by decide +kernel
theorem d_Md_rule_45 : decode prog_12_method_57_code 45 = .ok (.bipush 6, 2) := by decide +kernel
theorem d_Md_rule_47 : decode prog_12_method_57_code 47 = .ok (.aload_n 0, 1) := by decide +kernel
theorem d_Md_rule_48 : decode prog_12_method_57_code 48 = .ok (.getfield 324, 3) := by decide +kernel
theorem d_Md_rule_51 : decode prog_12_method_57_code 51 = .ok (.iconst 0, 1) := by decide +kernel
theorem d_Md_rule_52 : decode prog_12_method_57_code 52 = .ok (.invokevirtual 233, 3) := by decide +kernel
theorem d_Md_rule_55 : decode prog_12_method_57_code 55 = .ok (.aload_n 0, 1) := by decide +kernel
theorem d_Md_rule_56 : decode prog_12_method_57_code 56 = .ok (.dup, 1) := by decide +kernel
theorem d_Md_rule_57 : decode prog_12_method_57_code 57 = .ok (.getfield 324, 3) := by decide +kernel
theorem d_Md_rule_60 : decode prog_12_method_57_code 60 = .ok (.iconst 1, 1) := by decide +kernel
theorem d_Md_rule_61 : decode prog_12_method_57_code 61 = .ok (.iadd, 1) := by decide +kernel
theorem d_Md_rule_62 : decode prog_12_method_57_code 62 = .ok (.putfield 324, 3) := by decide +kernel
theorem d_Md_rule_65 : decode prog_12_method_57_code 65 = .ok (.aload_n 0, 1) := by decide +kernel
theorem d_Md_rule_66 : decode prog_12_method_57_code 66 = .ok (.getfield 105, 3) := by decide +kernel
theorem d_Md_rule_69 : decode prog_12_method_57_code 69 = .ok (.aload_n 0, 1) := by decide +kernel
theorem d_Md_rule_70 : decode prog_12_method_57_code 70 = .ok (.getfield 324, 3) := by decide +kernel
theorem d_Md_rule_73 : decode prog_12_method_57_code 73 = .ok (.iconst 1, 1) := by decide +kernel
theorem d_Md_rule_74 : decode prog_12_method_57_code 74 = .ok (.isub, 1) := by decide +kernel
theorem d_Md_rule_75 : decode prog_12_method_57_code 75 = .ok (.iaload, 1) := by decide +kernel
theorem d_Md_rule_76 : decode prog_12_method_57_code 76 = .ok (.iconst 1, 1) := by decide +kernel
theorem d_Md_rule_77 : decode prog_12_method_57_code 77 = .ok (.iadd, 1) := by decide +kernel
theorem d_Md_rule_78 : decode prog_12_method_57_code 78 = .ok (.ireturn, 1) := by decide +kernel
set_option maxHeartbeats 4000000 in
set_option maxRecDepth 100000 in
theorem K_Md_rule_e {F : FT} (hD : ∀ σ, va_D F.2.2.1 (GW F.2.1 σ)) (hm : F.2.2.2.2.2.2.2.2.2.2.2.2.2.2.1 = 2) (ok : OkF F prog_12_method_57_code "LastSeenModel" ({ frames := 5, cells := 0, slots := 0, locals := 106 } : Room)) {Q : Int → SS → Prop} (hQ : RetI F Q) {s : SS} (h : Sp_Md_rule  s Q) : AtS F 0 [(0, .ref (F.2.1.1 10))] [] s := by
  unfold Sp_Md_rule at h
  refine r_aload_n ok 0 d_Md_rule_0 rfl rfl ?_
  refine g_Md_rules ok d_Md_rule_1 ?_
  refine r_bipush ok 20 d_Md_rule_4 (by decide) ?_
  refine r_icmp_eq ok 19 d_Md_rule_6 (by decide) h.1 (by decide) (fun c => ?_) (fun c => ?_)
  · replace h := h.2.1 c
    refine r_bipush ok (-4) d_Md_rule_19 (by decide) ?_
    exact hQ _ _ _ _ _ (ok_code ok) d_Md_rule_21 h
  · replace h := h.2.2 c
    refine r_aload_n ok 0 d_Md_rule_9 rfl rfl ?_
    refine g_Md_entries ok d_Md_rule_10 ?_
    refine r_sipush ok 200 d_Md_rule_13 (by decide) ?_
    refine r_icmp_ne ok 22 d_Md_rule_16 (by decide) h.1 (by decide) (fun c => ?_) (fun c => ?_)
    · replace h := h.2.1 c
      refine r_aload_n ok 0 d_Md_rule_22 rfl rfl ?_
      refine r_callVi (As := []) (rest := []) ok 10 rfl rfl rfl wl_Md_363 wi_y_Md_parses ws_y_Md_parses wn_Md wc_y_Md_parses (by decide) (by decide) hh_Md_parses (Nat.le_of_ble_eq_true rfl) rfl d_Md_rule_23 (L_Md_parses F.1 F.2.1 F.2.2.1 hD h) (fun r2 s1 h => ?_)
      refine r_istore_n ok [(1, vI r2), (0, .ref (F.2.1.1 10))] d_Md_rule_26 rfl hm (by decide) rfl ?_
      refine r_aload_n ok 1 d_Md_rule_27 rfl rfl ?_
      refine r_iconst ok 0 d_Md_rule_28 rfl ?_
      refine p_Md_taped ok d_Md_rule_29 ?_
      replace h := h _ rfl
      generalize sF s1 30 0 = s3 at h ⊢
      refine r_iload_n ok 0 d_Md_rule_32 rfl rfl ?_
      refine r_if_ne ok 44 d_Md_rule_33 (by decide) h.1 (fun c => ?_) (fun c => ?_)
      · replace h := h.2.1 c
        refine r_aload_n ok 1 d_Md_rule_44 rfl rfl ?_
        refine r_bipush ok 6 d_Md_rule_45 (by decide) ?_
        refine r_aload_n ok 1 d_Md_rule_47 rfl rfl ?_
        refine g_Md_rules ok d_Md_rule_48 ?_
        refine r_iconst ok 0 d_Md_rule_51 rfl ?_
        refine r_callVv (As := [vI 6, vI (s3.1 39), vI 0]) (rest := []) ok 10 rfl rfl rfl wl_Md_233 wi_y_Md_enters ws_y_Md_enters wn_Md wc_y_Md_enters (by decide) (by decide) hh_Md_enters (Nat.le_of_ble_eq_true rfl) rfl d_Md_rule_52 (L_Md_enters F.1 F.2.1 F.2.2.1 hD h) (fun s4 h => ?_)
        refine r_aload_n ok 1 d_Md_rule_55 rfl rfl ?_
        refine r_dup ok d_Md_rule_56 rfl ?_
        refine g_Md_rules ok d_Md_rule_57 ?_
        refine r_iconst ok 1 d_Md_rule_60 rfl ?_
        refine r_iadd ok d_Md_rule_61 ?_
        refine p_Md_rules ok d_Md_rule_62 ?_
        replace h := h _ rfl
        generalize sF s4 39 ((s4.1 39) + 1) = s5 at h ⊢
        refine r_aload_n ok 1 d_Md_rule_65 rfl rfl ?_
        refine g_Md_clauses ok d_Md_rule_66 ?_
        refine r_aload_n ok 1 d_Md_rule_69 rfl rfl ?_
        refine g_Md_rules ok d_Md_rule_70 ?_
        refine r_iconst ok 1 d_Md_rule_73 rfl ?_
        refine r_isub ok d_Md_rule_74 ?_
        refine r_iald ok 90 d_Md_rule_75 (by decide) rfl h.1 ?_
        replace h := h.2
        refine r_iconst ok 1 d_Md_rule_76 rfl ?_
        refine r_iadd ok d_Md_rule_77 ?_
        exact hQ _ _ _ _ _ (ok_code ok) d_Md_rule_78 h
      · replace h := h.2.2 c
        refine r_bipush ok (-10) d_Md_rule_36 (by decide) ?_
        refine r_aload_n ok 1 d_Md_rule_38 rfl rfl ?_
        refine g_Md_at ok d_Md_rule_39 ?_
        refine r_isub ok d_Md_rule_42 ?_
        exact hQ _ _ _ _ _ (ok_code ok) d_Md_rule_43 h
    · replace h := h.2.2 c
      refine r_bipush ok (-4) d_Md_rule_19 (by decide) ?_
      exact hQ _ _ _ _ _ (ok_code ok) d_Md_rule_21 h
theorem L_Md_rule (l : Launch) (G : GE) (A : Nat → Prop) (hD : ∀ σ, va_D A (GW G σ)) {s : SS} {Q : Int → SS → Prop} (h : Sp_Md_rule  s Q) : Met l y_Md_rule (Cond.code y_Md_rule prog_12_method_57_code 2 (some .int) :: lw_ok) ({ frames := 5, cells := 0, slots := 0, locals := 106 } : Room) (va_Pc [.ref (G.1 10)] (gB G s)) (va_Qi (fun (r : Int32) (s2 : SS) => ∃ x : Int, r = iI x ∧ Q x s2) (fun s2 t => gB G s2 t) A) 0 0 A := by
  refine met_i hD (by decide) ⟨rfl, rfl⟩ (Nat.le_of_ble_eq_true rfl) (lv := [(0, .ref (G.1 10))]) rfl (fun F h1 h2 h3 hm ok hQ => ?_)
  subst h1 h2 h3
  have hDF := hD
  exact K_Md_rule_e hDF hm ok hQ h
theorem d_Md_namesOf_0 : decode prog_12_method_58_code 0 = .ok (.iconst 0, 1) := by decide +kernel
theorem d_Md_namesOf_1 : decode prog_12_method_58_code 1 = .ok (.istore_n 2, 1) := by decide +kernel
theorem d_Md_namesOf_2 : decode prog_12_method_58_code 2 = .ok (.iconst 0, 1) := by decide +kernel
theorem d_Md_namesOf_3 : decode prog_12_method_58_code 3 = .ok (.istore_n 3, 1) := by decide +kernel
theorem d_Md_namesOf_4 : decode prog_12_method_58_code 4 = .ok (.iload_n 3, 1) := by decide +kernel
theorem d_Md_namesOf_5 : decode prog_12_method_58_code 5 = .ok (.aload_n 0, 1) := by decide +kernel
theorem d_Md_namesOf_6 : decode prog_12_method_58_code 6 = .ok (.getfield 244, 3) := by decide +kernel
theorem d_Md_namesOf_9 : decode prog_12_method_58_code 9 = .ok (.if_icmp .ge 27, 3) := by decide +kernel
theorem d_Md_namesOf_12 : decode prog_12_method_58_code 12 = .ok (.iload_n 2, 1) := by decide +kernel
theorem d_Md_namesOf_13 : decode prog_12_method_58_code 13 = .ok (.aload_n 0, 1) := by decide +kernel
theorem d_Md_namesOf_14 : decode prog_12_method_58_code 14 = .ok (.getfield 50, 3) := by decide +kernel
theorem d_Md_namesOf_17 : decode prog_12_method_58_code 17 = .ok (.iload_n 3, 1) := by decide +kernel
theorem d_Md_namesOf_18 : decode prog_12_method_58_code 18 = .ok (.iaload, 1) := by decide +kernel
theorem d_Md_namesOf_19 : decode prog_12_method_58_code 19 = .ok (.iload_n 1, 1) := by decide +kernel
theorem d_Md_namesOf_20 : decode prog_12_method_58_code 20 = .ok (.if_icmp .ne 7, 3) := by decide +kernel
theorem d_Md_namesOf_23 : decode prog_12_method_58_code 23 = .ok (.iconst 1, 1) := by decide +kernel
theorem d_Md_namesOf_24 : decode prog_12_method_58_code 24 = .ok (.goto 4, 3) := by decide +kernel
theorem d_Md_namesOf_27 : decode prog_12_method_58_code 27 = .ok (.iconst 0, 1) := by decide +kernel
theorem d_Md_namesOf_28 : decode prog_12_method_58_code 28 = .ok (.iadd, 1) := by decide +kernel
theorem d_Md_namesOf_29 : decode prog_12_method_58_code 29 = .ok (.istore_n 2, 1) := by decide +kernel
theorem d_Md_namesOf_30 : decode prog_12_method_58_code 30 = .ok (.iinc 3 1, 3) := by decide +kernel
theorem d_Md_namesOf_33 : decode prog_12_method_58_code 33 = .ok (.goto (-29), 3) := by decide +kernel
theorem d_Md_namesOf_36 : decode prog_12_method_58_code 36 = .ok (.iload_n 2, 1) := by decide +kernel
theorem d_Md_namesOf_37 : decode prog_12_method_58_code 37 = .ok (.ireturn, 1) := by decide +kernel
set_option maxHeartbeats 4000000 in
set_option maxRecDepth 100000 in
theorem K_Md_namesOf_4 {F : FT} (hD : ∀ σ, va_D F.2.2.1 (GW F.2.1 σ)) (hm : F.2.2.2.2.2.2.2.2.2.2.2.2.2.2.1 = 4) (ok : OkF F prog_12_method_58_code "LastSeenModel" ({ frames := 0, cells := 0, slots := 0, locals := 0 } : Room)) {Q : Int → SS → Prop} (hQ : RetI F Q) {x1 x2 x3 : Int} {s : SS} (h : B_Md_namesOf_4 Q (fun x1 x2 x3 s => AtS F 4 [(0, .ref (F.2.1.1 10)), (1, vI x1), (2, vI x2), (3, vI x3)] [] s) x1 x2 x3 s) : AtS F 4 [(0, .ref (F.2.1.1 10)), (1, vI x1), (2, vI x2), (3, vI x3)] [] s := by
  unfold B_Md_namesOf_4 at h
  refine r_iload_n ok 3 d_Md_namesOf_4 rfl rfl ?_
  refine r_aload_n ok 0 d_Md_namesOf_5 rfl rfl ?_
  refine g_Md_seenNames ok d_Md_namesOf_6 ?_
  refine r_icmp_ge ok 36 d_Md_namesOf_9 (by decide) h.1 h.2.1 (fun c => ?_) (fun c => ?_)
  · replace h := h.2.2.1 c
    refine r_iload_n ok 2 d_Md_namesOf_36 rfl rfl ?_
    exact hQ _ _ _ _ _ (ok_code ok) d_Md_namesOf_37 h
  · replace h := h.2.2.2 c
    refine r_iload_n ok 2 d_Md_namesOf_12 rfl rfl ?_
    refine r_aload_n ok 0 d_Md_namesOf_13 rfl rfl ?_
    refine g_Md_person ok d_Md_namesOf_14 ?_
    refine r_iload_n ok 3 d_Md_namesOf_17 rfl rfl ?_
    refine r_iald ok 72 d_Md_namesOf_18 (by decide) rfl h.1 ?_
    replace h := h.2
    refine r_iload_n ok 1 d_Md_namesOf_19 rfl rfl ?_
    refine r_icmp_ne ok 27 d_Md_namesOf_20 (by decide) h.1 h.2.1 (fun c => ?_) (fun c => ?_)
    · replace h := h.2.2.1 c
      refine r_iconst ok 0 d_Md_namesOf_27 rfl ?_
      refine r_iadd ok d_Md_namesOf_28 ?_
      refine r_istore_n ok [(2, vI (x2 + 0)), (0, .ref (F.2.1.1 10)), (1, vI x1), (3, vI x3)] d_Md_namesOf_29 rfl hm (by decide) rfl ?_
      refine r_iinc ok 3 (x3 + 1) [(3, vI (x3 + 1)), (2, vI (x2 + 0)), (0, .ref (F.2.1.1 10)), (1, vI x1)] d_Md_namesOf_30 rfl rfl hm (by decide) rfl ?_
      refine r_goto ok 4 d_Md_namesOf_33 (by decide) ?_
      exact r_sub [2, 3, 1, 0] rfl h
    · replace h := h.2.2.2 c
      refine r_iconst ok 1 d_Md_namesOf_23 rfl ?_
      refine r_goto ok 28 d_Md_namesOf_24 (by decide) ?_
      refine r_iadd ok d_Md_namesOf_28 ?_
      refine r_istore_n ok [(2, vI (x2 + 1)), (0, .ref (F.2.1.1 10)), (1, vI x1), (3, vI x3)] d_Md_namesOf_29 rfl hm (by decide) rfl ?_
      refine r_iinc ok 3 (x3 + 1) [(3, vI (x3 + 1)), (2, vI (x2 + 1)), (0, .ref (F.2.1.1 10)), (1, vI x1)] d_Md_namesOf_30 rfl rfl hm (by decide) rfl ?_
      refine r_goto ok 4 d_Md_namesOf_33 (by decide) ?_
      exact r_sub [2, 3, 1, 0] rfl h
set_option maxHeartbeats 4000000 in
set_option maxRecDepth 100000 in
theorem K_Md_namesOf_e {F : FT} (hD : ∀ σ, va_D F.2.2.1 (GW F.2.1 σ)) (hm : F.2.2.2.2.2.2.2.2.2.2.2.2.2.2.1 = 4) (ok : OkF F prog_12_method_58_code "LastSeenModel" ({ frames := 0, cells := 0, slots := 0, locals := 0 } : Room)) {Q : Int → SS → Prop} (hQ : RetI F Q) {x1 : Int} {s : SS} (h : B_Md_namesOf_e Q (fun x1 x2 x3 s => AtS F 4 [(0, .ref (F.2.1.1 10)), (1, vI x1), (2, vI x2), (3, vI x3)] [] s) x1 s) : AtS F 0 [(0, .ref (F.2.1.1 10)), (1, vI x1)] [] s := by
  unfold B_Md_namesOf_e at h
  refine r_iconst ok 0 d_Md_namesOf_0 rfl ?_
  refine r_istore_n ok [(2, vI 0), (0, .ref (F.2.1.1 10)), (1, vI x1)] d_Md_namesOf_1 rfl hm (by decide) rfl ?_
  refine r_iconst ok 0 d_Md_namesOf_2 rfl ?_
  refine r_istore_n ok [(3, vI 0), (2, vI 0), (0, .ref (F.2.1.1 10)), (1, vI x1)] d_Md_namesOf_3 rfl hm (by decide) rfl ?_
  exact r_sub [2, 3, 1, 0] rfl h
theorem L_Md_namesOf (l : Launch) (G : GE) (A : Nat → Prop) (hD : ∀ σ, va_D A (GW G σ)) {x1 : Int} {s : SS} {Q : Int → SS → Prop} (h : Sp_Md_namesOf x1 s Q) : Met l y_Md_namesOf (Cond.code y_Md_namesOf prog_12_method_58_code 4 (some .int) :: lw_ok) ({ frames := 0, cells := 0, slots := 0, locals := 0 } : Room) (va_Pc [.ref (G.1 10), vI x1] (gB G s)) (va_Qi (fun (r : Int32) (s2 : SS) => ∃ x : Int, r = iI x ∧ Q x s2) (fun s2 t => gB G s2 t) A) 0 0 A := by
  refine met_i hD (by decide) ⟨rfl, rfl⟩ (Nat.le_of_ble_eq_true rfl) (lv := [(0, .ref (G.1 10)), (1, vI x1)]) rfl (fun F h1 h2 h3 hm ok hQ => ?_)
  subst h1 h2 h3
  have hDF := hD
  exact K_Md_namesOf_e hDF hm ok hQ (h _ (fun _ _ _ _ hb => K_Md_namesOf_4 hDF hm ok hQ hb))
theorem d_Md_heardBy_0 : decode prog_12_method_59_code 0 = .ok (.iconst 0, 1) := by decide +kernel
theorem d_Md_heardBy_1 : decode prog_12_method_59_code 1 = .ok (.istore_n 2, 1) := by decide +kernel
theorem d_Md_heardBy_2 : decode prog_12_method_59_code 2 = .ok (.iconst 0, 1) := by decide +kernel
theorem d_Md_heardBy_3 : decode prog_12_method_59_code 3 = .ok (.istore_n 3, 1) := by decide +kernel
theorem d_Md_heardBy_4 : decode prog_12_method_59_code 4 = .ok (.iload_n 3, 1) := by decide +kernel
theorem d_Md_heardBy_5 : decode prog_12_method_59_code 5 = .ok (.aload_n 0, 1) := by decide +kernel
theorem d_Md_heardBy_6 : decode prog_12_method_59_code 6 = .ok (.getfield 247, 3) := by decide +kernel
theorem d_Md_heardBy_9 : decode prog_12_method_59_code 9 = .ok (.if_icmp .ge 50, 3) := by decide +kernel
theorem d_Md_heardBy_12 : decode prog_12_method_59_code 12 = .ok (.iload_n 2, 1) := by decide +kernel
theorem d_Md_heardBy_13 : decode prog_12_method_59_code 13 = .ok (.aload_n 0, 1) := by decide +kernel
theorem d_Md_heardBy_14 : decode prog_12_method_59_code 14 = .ok (.getfield 44, 3) := by decide +kernel
theorem d_Md_heardBy_17 : decode prog_12_method_59_code 17 = .ok (.iload_n 3, 1) := by decide +kernel
theorem d_Md_heardBy_18 : decode prog_12_method_59_code 18 = .ok (.baload, 1) := by decide +kernel
theorem d_Md_heardBy_19 : decode prog_12_method_59_code 19 = .ok (.ifCond .eq 31, 3) := by decide +kernel
theorem d_Md_heardBy_22 : decode prog_12_method_59_code 22 = .ok (.aload_n 0, 1) := by decide +kernel
theorem d_Md_heardBy_23 : decode prog_12_method_59_code 23 = .ok (.getfield 74, 3) := by decide +kernel
theorem d_Md_heardBy_26 : decode prog_12_method_59_code 26 = .ok (.iload_n 3, 1) := by decide +kernel
theorem d_Md_heardBy_27 : decode prog_12_method_59_code 27 = .ok (.iaload, 1) := by decide +kernel
theorem d_Md_heardBy_28 : decode prog_12_method_59_code 28 = .ok (.ifCond .lt 22, 3) := by decide +kernel
theorem d_Md_heardBy_31 : decode prog_12_method_59_code 31 = .ok (.aload_n 0, 1) := by decide +kernel
theorem d_Md_heardBy_32 : decode prog_12_method_59_code 32 = .ok (.getfield 50, 3) := by decide +kernel
theorem d_Md_heardBy_35 : decode prog_12_method_59_code 35 = .ok (.aload_n 0, 1) := by decide +kernel
theorem d_Md_heardBy_36 : decode prog_12_method_59_code 36 = .ok (.getfield 62, 3) := by decide +kernel
theorem d_Md_heardBy_39 : decode prog_12_method_59_code 39 = .ok (.iload_n 3, 1) := by decide +kernel
theorem d_Md_heardBy_40 : decode prog_12_method_59_code 40 = .ok (.iaload, 1) := by decide +kernel
theorem d_Md_heardBy_41 : decode prog_12_method_59_code 41 = .ok (.iaload, 1) := by decide +kernel
theorem d_Md_heardBy_42 : decode prog_12_method_59_code 42 = .ok (.iload_n 1, 1) := by decide +kernel
theorem d_Md_heardBy_43 : decode prog_12_method_59_code 43 = .ok (.if_icmp .ne 7, 3) := by decide +kernel
theorem d_Md_heardBy_46 : decode prog_12_method_59_code 46 = .ok (.iconst 1, 1) := by decide +kernel
theorem d_Md_heardBy_47 : decode prog_12_method_59_code 47 = .ok (.goto 4, 3) := by decide +kernel
theorem d_Md_heardBy_50 : decode prog_12_method_59_code 50 = .ok (.iconst 0, 1) := by decide +kernel
theorem d_Md_heardBy_51 : decode prog_12_method_59_code 51 = .ok (.iadd, 1) := by decide +kernel
theorem d_Md_heardBy_52 : decode prog_12_method_59_code 52 = .ok (.istore_n 2, 1) := by decide +kernel
theorem d_Md_heardBy_53 : decode prog_12_method_59_code 53 = .ok (.iinc 3 1, 3) := by decide +kernel
theorem d_Md_heardBy_56 : decode prog_12_method_59_code 56 = .ok (.goto (-52), 3) := by decide +kernel
theorem d_Md_heardBy_59 : decode prog_12_method_59_code 59 = .ok (.iload_n 2, 1) := by decide +kernel
theorem d_Md_heardBy_60 : decode prog_12_method_59_code 60 = .ok (.ireturn, 1) := by decide +kernel
set_option maxHeartbeats 4000000 in
set_option maxRecDepth 100000 in
theorem K_Md_heardBy_4 {F : FT} (hD : ∀ σ, va_D F.2.2.1 (GW F.2.1 σ)) (hm : F.2.2.2.2.2.2.2.2.2.2.2.2.2.2.1 = 4) (ok : OkF F prog_12_method_59_code "LastSeenModel" ({ frames := 0, cells := 0, slots := 0, locals := 0 } : Room)) {Q : Int → SS → Prop} (hQ : RetI F Q) {x1 x2 x3 : Int} {s : SS} (h : B_Md_heardBy_4 Q (fun x1 x2 x3 s => AtS F 4 [(0, .ref (F.2.1.1 10)), (1, vI x1), (2, vI x2), (3, vI x3)] [] s) x1 x2 x3 s) : AtS F 4 [(0, .ref (F.2.1.1 10)), (1, vI x1), (2, vI x2), (3, vI x3)] [] s := by
  unfold B_Md_heardBy_4 at h
  refine r_iload_n ok 3 d_Md_heardBy_4 rfl rfl ?_
  refine r_aload_n ok 0 d_Md_heardBy_5 rfl rfl ?_
  refine g_Md_seenWords ok d_Md_heardBy_6 ?_
  refine r_icmp_ge ok 59 d_Md_heardBy_9 (by decide) h.1 h.2.1 (fun c => ?_) (fun c => ?_)
  · replace h := h.2.2.1 c
    refine r_iload_n ok 2 d_Md_heardBy_59 rfl rfl ?_
    exact hQ _ _ _ _ _ (ok_code ok) d_Md_heardBy_60 h
  · replace h := h.2.2.2 c
    refine r_iload_n ok 2 d_Md_heardBy_12 rfl rfl ?_
    refine r_aload_n ok 0 d_Md_heardBy_13 rfl rfl ?_
    refine g_Md_stands ok d_Md_heardBy_14 ?_
    refine r_iload_n ok 3 d_Md_heardBy_17 rfl rfl ?_
    refine r_zald ok 70 d_Md_heardBy_18 (by decide) rfl h.1 ?_
    replace h := h.2
    refine r_if_eq ok 50 d_Md_heardBy_19 (by decide) h.1 (fun c => ?_) (fun c => ?_)
    · replace h := h.2.1 c
      refine r_iconst ok 0 d_Md_heardBy_50 rfl ?_
      refine r_iadd ok d_Md_heardBy_51 ?_
      refine r_istore_n ok [(2, vI (x2 + 0)), (0, .ref (F.2.1.1 10)), (1, vI x1), (3, vI x3)] d_Md_heardBy_52 rfl hm (by decide) rfl ?_
      refine r_iinc ok 3 (x3 + 1) [(3, vI (x3 + 1)), (2, vI (x2 + 0)), (0, .ref (F.2.1.1 10)), (1, vI x1)] d_Md_heardBy_53 rfl rfl hm (by decide) rfl ?_
      refine r_goto ok 4 d_Md_heardBy_56 (by decide) ?_
      exact r_sub [2, 3, 1, 0] rfl h
    · replace h := h.2.2 c
      refine r_aload_n ok 0 d_Md_heardBy_22 rfl rfl ?_
      refine g_Md_heardOf ok d_Md_heardBy_23 ?_
      refine r_iload_n ok 3 d_Md_heardBy_26 rfl rfl ?_
      refine r_iald ok 80 d_Md_heardBy_27 (by decide) rfl h.1 ?_
      replace h := h.2
      refine r_if_lt ok 50 d_Md_heardBy_28 (by decide) h.1 (fun c => ?_) (fun c => ?_)
      · replace h := h.2.1 c
        refine r_iconst ok 0 d_Md_heardBy_50 rfl ?_
        refine r_iadd ok d_Md_heardBy_51 ?_
        refine r_istore_n ok [(2, vI (x2 + 0)), (0, .ref (F.2.1.1 10)), (1, vI x1), (3, vI x3)] d_Md_heardBy_52 rfl hm (by decide) rfl ?_
        refine r_iinc ok 3 (x3 + 1) [(3, vI (x3 + 1)), (2, vI (x2 + 0)), (0, .ref (F.2.1.1 10)), (1, vI x1)] d_Md_heardBy_53 rfl rfl hm (by decide) rfl ?_
        refine r_goto ok 4 d_Md_heardBy_56 (by decide) ?_
        exact r_sub [2, 3, 1, 0] rfl h
      · replace h := h.2.2 c
        refine r_aload_n ok 0 d_Md_heardBy_31 rfl rfl ?_
        refine g_Md_person ok d_Md_heardBy_32 ?_
        refine r_aload_n ok 0 d_Md_heardBy_35 rfl rfl ?_
        refine g_Md_ofName ok d_Md_heardBy_36 ?_
        refine r_iload_n ok 3 d_Md_heardBy_39 rfl rfl ?_
        refine r_iald ok 76 d_Md_heardBy_40 (by decide) rfl h.1 ?_
        replace h := h.2
        refine r_iald ok 72 d_Md_heardBy_41 (by decide) rfl h.1 ?_
        replace h := h.2
        refine r_iload_n ok 1 d_Md_heardBy_42 rfl rfl ?_
        refine r_icmp_ne ok 50 d_Md_heardBy_43 (by decide) h.1 h.2.1 (fun c => ?_) (fun c => ?_)
        · replace h := h.2.2.1 c
          refine r_iconst ok 0 d_Md_heardBy_50 rfl ?_
          refine r_iadd ok d_Md_heardBy_51 ?_
          refine r_istore_n ok [(2, vI (x2 + 0)), (0, .ref (F.2.1.1 10)), (1, vI x1), (3, vI x3)] d_Md_heardBy_52 rfl hm (by decide) rfl ?_
          refine r_iinc ok 3 (x3 + 1) [(3, vI (x3 + 1)), (2, vI (x2 + 0)), (0, .ref (F.2.1.1 10)), (1, vI x1)] d_Md_heardBy_53 rfl rfl hm (by decide) rfl ?_
          refine r_goto ok 4 d_Md_heardBy_56 (by decide) ?_
          exact r_sub [2, 3, 1, 0] rfl h
        · replace h := h.2.2.2 c
          refine r_iconst ok 1 d_Md_heardBy_46 rfl ?_
          refine r_goto ok 51 d_Md_heardBy_47 (by decide) ?_
          refine r_iadd ok d_Md_heardBy_51 ?_
          refine r_istore_n ok [(2, vI (x2 + 1)), (0, .ref (F.2.1.1 10)), (1, vI x1), (3, vI x3)] d_Md_heardBy_52 rfl hm (by decide) rfl ?_
          refine r_iinc ok 3 (x3 + 1) [(3, vI (x3 + 1)), (2, vI (x2 + 1)), (0, .ref (F.2.1.1 10)), (1, vI x1)] d_Md_heardBy_53 rfl rfl hm (by decide) rfl ?_
          refine r_goto ok 4 d_Md_heardBy_56 (by decide) ?_
          exact r_sub [2, 3, 1, 0] rfl h
set_option maxHeartbeats 4000000 in
set_option maxRecDepth 100000 in
theorem K_Md_heardBy_e {F : FT} (hD : ∀ σ, va_D F.2.2.1 (GW F.2.1 σ)) (hm : F.2.2.2.2.2.2.2.2.2.2.2.2.2.2.1 = 4) (ok : OkF F prog_12_method_59_code "LastSeenModel" ({ frames := 0, cells := 0, slots := 0, locals := 0 } : Room)) {Q : Int → SS → Prop} (hQ : RetI F Q) {x1 : Int} {s : SS} (h : B_Md_heardBy_e Q (fun x1 x2 x3 s => AtS F 4 [(0, .ref (F.2.1.1 10)), (1, vI x1), (2, vI x2), (3, vI x3)] [] s) x1 s) : AtS F 0 [(0, .ref (F.2.1.1 10)), (1, vI x1)] [] s := by
  unfold B_Md_heardBy_e at h
  refine r_iconst ok 0 d_Md_heardBy_0 rfl ?_
  refine r_istore_n ok [(2, vI 0), (0, .ref (F.2.1.1 10)), (1, vI x1)] d_Md_heardBy_1 rfl hm (by decide) rfl ?_
  refine r_iconst ok 0 d_Md_heardBy_2 rfl ?_
  refine r_istore_n ok [(3, vI 0), (2, vI 0), (0, .ref (F.2.1.1 10)), (1, vI x1)] d_Md_heardBy_3 rfl hm (by decide) rfl ?_
  exact r_sub [2, 3, 1, 0] rfl h
theorem L_Md_heardBy (l : Launch) (G : GE) (A : Nat → Prop) (hD : ∀ σ, va_D A (GW G σ)) {x1 : Int} {s : SS} {Q : Int → SS → Prop} (h : Sp_Md_heardBy x1 s Q) : Met l y_Md_heardBy (Cond.code y_Md_heardBy prog_12_method_59_code 4 (some .int) :: lw_ok) ({ frames := 0, cells := 0, slots := 0, locals := 0 } : Room) (va_Pc [.ref (G.1 10), vI x1] (gB G s)) (va_Qi (fun (r : Int32) (s2 : SS) => ∃ x : Int, r = iI x ∧ Q x s2) (fun s2 t => gB G s2 t) A) 0 0 A := by
  refine met_i hD (by decide) ⟨rfl, rfl⟩ (Nat.le_of_ble_eq_true rfl) (lv := [(0, .ref (G.1 10)), (1, vI x1)]) rfl (fun F h1 h2 h3 hm ok hQ => ?_)
  subst h1 h2 h3
  have hDF := hD
  exact K_Md_heardBy_e hDF hm ok hQ (h _ (fun _ _ _ _ hb => K_Md_heardBy_4 hDF hm ok hQ hb))
theorem d_Md_findFacts_0 : decode prog_12_method_60_code 0 = .ok (.aload_n 0, 1) := by decide +kernel
theorem d_Md_findFacts_1 : decode prog_12_method_60_code 1 = .ok (.iload_n 1, 1) := by decide +kernel
theorem d_Md_findFacts_2 : decode prog_12_method_60_code 2 = .ok (.invokevirtual 290, 3) := by decide +kernel
theorem d_Md_findFacts_5 : decode prog_12_method_60_code 5 = .ok (.aload_n 0, 1) := by decide +kernel
theorem d_Md_findFacts_6 : decode prog_12_method_60_code 6 = .ok (.invokevirtual 318, 3) := by decide +kernel
theorem d_Md_findFacts_9 : decode prog_12_method_60_code 9 = .ok (.istore_n 2, 1) := by decide +kernel
theorem d_Md_findFacts_10 : decode prog_12_method_60_code 10 = .ok (.aload_n 0, 1) := by decide +kernel
theorem d_Md_findFacts_11 : decode prog_12_method_60_code 11 = .ok (.getfield 114, 3) := by decide +kernel
theorem d_Md_findFacts_14 : decode prog_12_method_60_code 14 = .ok (.bipush 114, 2) := by decide +kernel
theorem d_Md_findFacts_16 : decode prog_12_method_60_code 16 = .ok (.aload_n 0, 1) := by decide +kernel
theorem d_Md_findFacts_17 : decode prog_12_method_60_code 17 = .ok (.getfield 287, 3) := by decide +kernel
theorem d_Md_findFacts_20 : decode prog_12_method_60_code 20 = .ok (.iastore, 1) := by decide +kernel
theorem d_Md_findFacts_21 : decode prog_12_method_60_code 21 = .ok (.aload_n 0, 1) := by decide +kernel
theorem d_Md_findFacts_22 : decode prog_12_method_60_code 22 = .ok (.getfield 114, 3) := by decide +kernel
theorem d_Md_findFacts_25 : decode prog_12_method_60_code 25 = .ok (.bipush 101, 2) := by decide +kernel
theorem d_Md_findFacts_27 : decode prog_12_method_60_code 27 = .ok (.aload_n 0, 1) := by decide +kernel
theorem d_Md_findFacts_28 : decode prog_12_method_60_code 28 = .ok (.invokevirtual 296, 3) := by decide +kernel
theorem d_Md_findFacts_31 : decode prog_12_method_60_code 31 = .ok (.iastore, 1) := by decide +kernel
theorem d_Md_findFacts_32 : decode prog_12_method_60_code 32 = .ok (.aload_n 0, 1) := by decide +kernel
theorem d_Md_findFacts_33 : decode prog_12_method_60_code 33 = .ok (.getfield 114, 3) := by decide +kernel
theorem d_Md_findFacts_36 : decode prog_12_method_60_code 36 = .ok (.bipush 104, 2) := by decide +kernel
theorem d_Md_findFacts_38 : decode prog_12_method_60_code 38 = .ok (.aload_n 0, 1) := by decide +kernel
theorem d_Md_findFacts_39 : decode prog_12_method_60_code 39 = .ok (.iload_n 1, 1) := by decide +kernel
theorem d_Md_findFacts_40 : decode prog_12_method_60_code 40 = .ok (.invokevirtual 366, 3) := by decide +kernel
theorem d_Md_findFacts_43 : decode prog_12_method_60_code 43 = .ok (.iastore, 1) := by decide +kernel
theorem d_Md_findFacts_44 : decode prog_12_method_60_code 44 = .ok (.aload_n 0, 1) := by decide +kernel
theorem d_Md_findFacts_45 : decode prog_12_method_60_code 45 = .ok (.getfield 114, 3) := by decide +kernel
theorem d_Md_findFacts_48 : decode prog_12_method_60_code 48 = .ok (.bipush 99, 2) := by decide +kernel
theorem d_Md_findFacts_50 : decode prog_12_method_60_code 50 = .ok (.aload_n 0, 1) := by decide +kernel
theorem d_Md_findFacts_51 : decode prog_12_method_60_code 51 = .ok (.invokevirtual 314, 3) := by decide +kernel
theorem d_Md_findFacts_54 : decode prog_12_method_60_code 54 = .ok (.ifCond .eq 7, 3) := by decide +kernel
theorem d_Md_findFacts_57 : decode prog_12_method_60_code 57 = .ok (.iconst 1, 1) := by decide +kernel
theorem d_Md_findFacts_58 : decode prog_12_method_60_code 58 = .ok (.goto 4, 3) := by decide +kernel
theorem d_Md_findFacts_61 : decode prog_12_method_60_code 61 = .ok (.iconst 0, 1) := by decide +kernel
theorem d_Md_findFacts_62 : decode prog_12_method_60_code 62 = .ok (.iastore, 1) := by decide +kernel
theorem d_Md_findFacts_63 : decode prog_12_method_60_code 63 = .ok (.aload_n 0, 1) := by decide +kernel
theorem d_Md_findFacts_64 : decode prog_12_method_60_code 64 = .ok (.getfield 114, 3) := by decide +kernel
theorem d_Md_findFacts_67 : decode prog_12_method_60_code 67 = .ok (.bipush 110, 2) := by decide +kernel
theorem d_Md_findFacts_69 : decode prog_12_method_60_code 69 = .ok (.aload_n 0, 1) := by decide +kernel
theorem d_Md_findFacts_70 : decode prog_12_method_60_code 70 = .ok (.iload_n 1, 1) := by decide +kernel
theorem d_Md_findFacts_71 : decode prog_12_method_60_code 71 = .ok (.invokevirtual 369, 3) := by decide +kernel
theorem d_Md_findFacts_74 : decode prog_12_method_60_code 74 = .ok (.iastore, 1) := by decide +kernel
theorem d_Md_findFacts_75 : decode prog_12_method_60_code 75 = .ok (.aload_n 0, 1) := by decide +kernel
theorem d_Md_findFacts_76 : decode prog_12_method_60_code 76 = .ok (.getfield 114, 3) := by decide +kernel
theorem d_Md_findFacts_79 : decode prog_12_method_60_code 79 = .ok (.bipush 108, 2) := by decide +kernel
theorem d_Md_findFacts_81 : decode prog_12_method_60_code 81 = .ok (.iload_n 2, 1) := by decide +kernel
theorem d_Md_findFacts_82 : decode prog_12_method_60_code 82 = .ok (.ifCond .ge 7, 3) := by decide +kernel
theorem d_Md_findFacts_85 : decode prog_12_method_60_code 85 = .ok (.iconst 0, 1) := by decide +kernel
theorem d_Md_findFacts_86 : decode prog_12_method_60_code 86 = .ok (.goto 9, 3) := by decide +kernel
theorem d_Md_findFacts_89 : decode prog_12_method_60_code 89 = .ok (.aload_n 0, 1) := by decide +kernel
theorem d_Md_findFacts_90 : decode prog_12_method_60_code 90 = .ok (.getfield 71, 3) := by decide +kernel
theorem d_Md_findFacts_93 : decode prog_12_method_60_code 93 = .ok (.iload_n 2, 1) := by decide +kernel
theorem d_Md_findFacts_94 : decode prog_12_method_60_code 94 = .ok (.iaload, 1) := by decide +kernel
theorem d_Md_findFacts_95 : decode prog_12_method_60_code 95 = .ok (.iastore, 1) := by decide +kernel
theorem d_Md_findFacts_96 : decode prog_12_method_60_code 96 = .ok (.aload_n 0, 1) := by decide +kernel
theorem d_Md_findFacts_97 : decode prog_12_method_60_code 97 = .ok (.getfield 114, 3) := by decide +kernel
theorem d_Md_findFacts_100 : decode prog_12_method_60_code 100 = .ok (.bipush 107, 2) := by decide +kernel
theorem d_Md_findFacts_102 : decode prog_12_method_60_code 102 = .ok (.iload_n 2, 1) := by decide +kernel
theorem d_Md_findFacts_103 : decode prog_12_method_60_code 103 = .ok (.ifCond .ge 7, 3) := by decide +kernel
theorem d_Md_findFacts_106 : decode prog_12_method_60_code 106 = .ok (.iconst 0, 1) := by decide +kernel
theorem d_Md_findFacts_107 : decode prog_12_method_60_code 107 = .ok (.goto 12, 3) := by decide +kernel
theorem d_Md_findFacts_110 : decode prog_12_method_60_code 110 = .ok (.aload_n 0, 1) := by decide +kernel
theorem d_Md_findFacts_111 : decode prog_12_method_60_code 111 = .ok (.getfield 65, 3) := by decide +kernel
theorem d_Md_findFacts_114 : decode prog_12_method_60_code 114 = .ok (.iload_n 2, 1) := by decide +kernel
theorem d_Md_findFacts_115 : decode prog_12_method_60_code 115 = .ok (.iaload, 1) := by decide +kernel
theorem d_Md_findFacts_116 : decode prog_12_method_60_code 116 = .ok (.invokestatic 293, 3) := by decide +kernel
theorem d_Md_findFacts_119 : decode prog_12_method_60_code 119 = .ok (.iastore, 1) := by decide +kernel
theorem d_Md_findFacts_120 : decode prog_12_method_60_code 120 = .ok (.return_, 1) := by decide +kernel
set_option maxHeartbeats 4000000 in
set_option maxRecDepth 100000 in
theorem K_Md_findFacts_62 {F : FT} (hD : ∀ σ, va_D F.2.2.1 (GW F.2.1 σ)) (hm : F.2.2.2.2.2.2.2.2.2.2.2.2.2.2.1 = 3) (ok : OkF F prog_12_method_60_code "LastSeenModel" ({ frames := 3, cells := 0, slots := 0, locals := 71 } : Room)) {Q : SS → Prop} (hQ : RetV F Q) {x1 x2 y0 y1 : Int} {s : SS} (h : B_Md_findFacts_62 Q (fun x1 x2 y0 y1 s => AtS F 62 [(0, .ref (F.2.1.1 10)), (1, vI x1), (2, vI x2)] [vI y0, vI y1, .ref (F.2.1.1 104)] s) (fun x2 y0 y1 s => AtS F 95 [(0, .ref (F.2.1.1 10)), (2, vI x2)] [vI y0, vI y1, .ref (F.2.1.1 104)] s) x1 x2 y0 y1 s) : AtS F 62 [(0, .ref (F.2.1.1 10)), (1, vI x1), (2, vI x2)] [vI y0, vI y1, .ref (F.2.1.1 104)] s := by
  unfold B_Md_findFacts_62 at h
  refine r_iast ok 93 d_Md_findFacts_62 (by decide) rfl h.1 ?_
  replace h := h.2 _ rfl
  generalize sA s 93 y1 y0 = s13 at h ⊢
  refine r_aload_n ok 0 d_Md_findFacts_63 rfl rfl ?_
  refine g_Md_fact ok d_Md_findFacts_64 ?_
  refine r_bipush ok 110 d_Md_findFacts_67 (by decide) ?_
  refine r_aload_n ok 0 d_Md_findFacts_69 rfl rfl ?_
  refine r_iload_n ok 1 d_Md_findFacts_70 rfl rfl ?_
  refine r_callVi (As := [vI x1]) (rest := [vI 110, .ref (F.2.1.1 104)]) ok 10 rfl rfl rfl wl_Md_369 wi_y_Md_namesOf ws_y_Md_namesOf wn_Md wc_y_Md_namesOf (by decide) (by decide) hh_Md_namesOf (Nat.le_of_ble_eq_true rfl) rfl d_Md_findFacts_71 (L_Md_namesOf F.1 F.2.1 F.2.2.1 hD h) (fun r15 s14 h => ?_)
  refine r_iast ok 93 d_Md_findFacts_74 (by decide) rfl (by decide) ?_
  replace h := h _ rfl
  generalize sA s14 93 110 r15 = s16 at h ⊢
  refine r_aload_n ok 0 d_Md_findFacts_75 rfl rfl ?_
  refine g_Md_fact ok d_Md_findFacts_76 ?_
  refine r_bipush ok 108 d_Md_findFacts_79 (by decide) ?_
  refine r_iload_n ok 2 d_Md_findFacts_81 rfl rfl ?_
  refine r_if_ge ok 89 d_Md_findFacts_82 (by decide) h.1 (fun c => ?_) (fun c => ?_)
  · replace h := h.2.1 c
    refine r_aload_n ok 0 d_Md_findFacts_89 rfl rfl ?_
    refine g_Md_last ok d_Md_findFacts_90 ?_
    refine r_iload_n ok 2 d_Md_findFacts_93 rfl rfl ?_
    refine r_iald ok 79 d_Md_findFacts_94 (by decide) rfl h.1 ?_
    replace h := h.2
    exact r_sub [0, 2] rfl h
  · replace h := h.2.2 c
    refine r_iconst ok 0 d_Md_findFacts_85 rfl ?_
    refine r_goto ok 95 d_Md_findFacts_86 (by decide) ?_
    exact r_sub [0, 2] rfl h
set_option maxHeartbeats 4000000 in
set_option maxRecDepth 100000 in
theorem K_Md_findFacts_95 {F : FT} (hD : ∀ σ, va_D F.2.2.1 (GW F.2.1 σ)) (hm : F.2.2.2.2.2.2.2.2.2.2.2.2.2.2.1 = 3) (ok : OkF F prog_12_method_60_code "LastSeenModel" ({ frames := 3, cells := 0, slots := 0, locals := 71 } : Room)) {Q : SS → Prop} (hQ : RetV F Q) {x2 y0 y1 : Int} {s : SS} (h : B_Md_findFacts_95 Q (fun x1 x2 y0 y1 s => AtS F 62 [(0, .ref (F.2.1.1 10)), (1, vI x1), (2, vI x2)] [vI y0, vI y1, .ref (F.2.1.1 104)] s) (fun x2 y0 y1 s => AtS F 95 [(0, .ref (F.2.1.1 10)), (2, vI x2)] [vI y0, vI y1, .ref (F.2.1.1 104)] s) x2 y0 y1 s) : AtS F 95 [(0, .ref (F.2.1.1 10)), (2, vI x2)] [vI y0, vI y1, .ref (F.2.1.1 104)] s := by
  unfold B_Md_findFacts_95 at h
  refine r_iast ok 93 d_Md_findFacts_95 (by decide) rfl h.1 ?_
  replace h := h.2 _ rfl
  generalize sA s 93 y1 y0 = s17 at h ⊢
  refine r_aload_n ok 0 d_Md_findFacts_96 rfl rfl ?_
  refine g_Md_fact ok d_Md_findFacts_97 ?_
  refine r_bipush ok 107 d_Md_findFacts_100 (by decide) ?_
  refine r_iload_n ok 1 d_Md_findFacts_102 rfl rfl ?_
  refine r_if_ge ok 110 d_Md_findFacts_103 (by decide) h.1 (fun c => ?_) (fun c => ?_)
  · replace h := h.2.1 c
    refine r_aload_n ok 0 d_Md_findFacts_110 rfl rfl ?_
    refine g_Md_places ok d_Md_findFacts_111 ?_
    refine r_iload_n ok 1 d_Md_findFacts_114 rfl rfl ?_
    refine r_iald ok 77 d_Md_findFacts_115 (by decide) rfl h.1 ?_
    replace h := h.2
    refine r_callSi (As := [vI (s17.2 77 x2)]) (rest := [vI 107, .ref (F.2.1.1 104)]) ok wl_Md_293 wt_y_Md_bits wn_Md wc_y_Md_bits (by decide) (by decide) hh_Md_bits (Nat.le_of_ble_eq_true rfl) rfl d_Md_findFacts_116 (L_Md_bits F.1 F.2.1 F.2.2.1 hD h) (fun r19 s18 h => ?_)
    refine r_iast ok 93 d_Md_findFacts_119 (by decide) rfl (by decide) ?_
    replace h := h _ rfl
    generalize sA s18 93 107 r19 = s20 at h ⊢
    exact hQ _ _ _ _ (ok_code ok) d_Md_findFacts_120 h
  · replace h := h.2.2 c
    refine r_iconst ok 0 d_Md_findFacts_106 rfl ?_
    refine r_goto ok 119 d_Md_findFacts_107 (by decide) ?_
    refine r_iast ok 93 d_Md_findFacts_119 (by decide) rfl (by decide) ?_
    replace h := h _ rfl
    generalize sA s17 93 107 0 = s21 at h ⊢
    exact hQ _ _ _ _ (ok_code ok) d_Md_findFacts_120 h
set_option maxHeartbeats 4000000 in
set_option maxRecDepth 100000 in
theorem K_Md_findFacts_e {F : FT} (hD : ∀ σ, va_D F.2.2.1 (GW F.2.1 σ)) (hm : F.2.2.2.2.2.2.2.2.2.2.2.2.2.2.1 = 3) (ok : OkF F prog_12_method_60_code "LastSeenModel" ({ frames := 3, cells := 0, slots := 0, locals := 71 } : Room)) {Q : SS → Prop} (hQ : RetV F Q) {x1 : Int} {s : SS} (h : B_Md_findFacts_e Q (fun x1 x2 y0 y1 s => AtS F 62 [(0, .ref (F.2.1.1 10)), (1, vI x1), (2, vI x2)] [vI y0, vI y1, .ref (F.2.1.1 104)] s) (fun x2 y0 y1 s => AtS F 95 [(0, .ref (F.2.1.1 10)), (2, vI x2)] [vI y0, vI y1, .ref (F.2.1.1 104)] s) x1 s) : AtS F 0 [(0, .ref (F.2.1.1 10)), (1, vI x1)] [] s := by
  unfold B_Md_findFacts_e at h
  refine r_aload_n ok 0 d_Md_findFacts_0 rfl rfl ?_
  refine r_iload_n ok 1 d_Md_findFacts_1 rfl rfl ?_
  refine r_callVv (As := [vI x1]) (rest := []) ok 10 rfl rfl rfl wl_Md_290 wi_y_Md_findRoots ws_y_Md_findRoots wn_Md wc_y_Md_findRoots (by decide) (by decide) hh_Md_findRoots (Nat.le_of_ble_eq_true rfl) rfl d_Md_findFacts_2 (L_Md_findRoots F.1 F.2.1 F.2.2.1 hD h) (fun s1 h => ?_)
  refine r_aload_n ok 0 d_Md_findFacts_5 rfl rfl ?_
  refine r_callVi (As := []) (rest := []) ok 10 rfl rfl rfl wl_Md_318 wi_y_Md_lastRoot ws_y_Md_lastRoot wn_Md wc_y_Md_lastRoot (by decide) (by decide) hh_Md_lastRoot (Nat.le_of_ble_eq_true rfl) rfl d_Md_findFacts_6 (L_Md_lastRoot F.1 F.2.1 F.2.2.1 hD h) (fun r3 s2 h => ?_)
  refine r_istore_n ok [(2, vI r3), (0, .ref (F.2.1.1 10)), (1, vI x1)] d_Md_findFacts_9 rfl hm (by decide) rfl ?_
  refine r_aload_n ok 1 d_Md_findFacts_10 rfl rfl ?_
  refine g_Md_fact ok d_Md_findFacts_11 ?_
  refine r_bipush ok 114 d_Md_findFacts_14 (by decide) ?_
  refine r_aload_n ok 1 d_Md_findFacts_16 rfl rfl ?_
  refine g_Md_roots ok d_Md_findFacts_17 ?_
  refine r_iast ok 93 d_Md_findFacts_20 (by decide) rfl (by decide) ?_
  replace h := h _ rfl
  generalize sA s2 93 114 (s2.1 37) = s4 at h ⊢
  refine r_aload_n ok 1 d_Md_findFacts_21 rfl rfl ?_
  refine g_Md_fact ok d_Md_findFacts_22 ?_
  refine r_bipush ok 101 d_Md_findFacts_25 (by decide) ?_
  refine r_aload_n ok 1 d_Md_findFacts_27 rfl rfl ?_
  refine r_callVi (As := []) (rest := [vI 101, .ref (F.2.1.1 104)]) ok 10 rfl rfl rfl wl_Md_296 wi_y_Md_eyesOf ws_y_Md_eyesOf wn_Md wc_y_Md_eyesOf (by decide) (by decide) hh_Md_eyesOf (Nat.le_of_ble_eq_true rfl) rfl d_Md_findFacts_28 (L_Md_eyesOf F.1 F.2.1 F.2.2.1 hD h) (fun r6 s5 h => ?_)
  refine r_iast ok 93 d_Md_findFacts_31 (by decide) rfl (by decide) ?_
  replace h := h _ rfl
  generalize sA s5 93 101 r6 = s7 at h ⊢
  refine r_aload_n ok 1 d_Md_findFacts_32 rfl rfl ?_
  refine g_Md_fact ok d_Md_findFacts_33 ?_
  refine r_bipush ok 104 d_Md_findFacts_36 (by decide) ?_
  refine r_aload_n ok 1 d_Md_findFacts_38 rfl rfl ?_
  refine r_iload_n ok 2 d_Md_findFacts_39 rfl rfl ?_
  refine r_callVi (As := [vI x1]) (rest := [vI 104, .ref (F.2.1.1 104)]) ok 10 rfl rfl rfl wl_Md_366 wi_y_Md_heardBy ws_y_Md_heardBy wn_Md wc_y_Md_heardBy (by decide) (by decide) hh_Md_heardBy (Nat.le_of_ble_eq_true rfl) rfl d_Md_findFacts_40 (L_Md_heardBy F.1 F.2.1 F.2.2.1 hD h) (fun r9 s8 h => ?_)
  refine r_iast ok 93 d_Md_findFacts_43 (by decide) rfl (by decide) ?_
  replace h := h _ rfl
  generalize sA s8 93 104 r9 = s10 at h ⊢
  refine r_aload_n ok 1 d_Md_findFacts_44 rfl rfl ?_
  refine g_Md_fact ok d_Md_findFacts_45 ?_
  refine r_bipush ok 99 d_Md_findFacts_48 (by decide) ?_
  refine r_aload_n ok 1 d_Md_findFacts_50 rfl rfl ?_
  refine r_callVi (As := []) (rest := [vI 99, .ref (F.2.1.1 104)]) ok 10 rfl rfl rfl wl_Md_314 wi_y_Md_canAll ws_y_Md_canAll wn_Md wc_y_Md_canAll (by decide) (by decide) hh_Md_canAll (Nat.le_of_ble_eq_true rfl) rfl d_Md_findFacts_51 (L_Md_canAll F.1 F.2.1 F.2.2.1 hD h) (fun r12 s11 h => ?_)
  refine r_if_eq ok 61 d_Md_findFacts_54 (by decide) h.1 (fun c => ?_) (fun c => ?_)
  · replace h := h.2.1 c
    refine r_iconst ok 0 d_Md_findFacts_61 rfl ?_
    exact r_sub [1, 2, 0] rfl h
  · replace h := h.2.2 c
    refine r_iconst ok 1 d_Md_findFacts_57 rfl ?_
    refine r_goto ok 62 d_Md_findFacts_58 (by decide) ?_
    exact r_sub [1, 2, 0] rfl h
theorem L_Md_findFacts (l : Launch) (G : GE) (A : Nat → Prop) (hD : ∀ σ, va_D A (GW G σ)) {x1 : Int} {s : SS} {Q : SS → Prop} (h : Sp_Md_findFacts x1 s Q) : Met l y_Md_findFacts (Cond.code y_Md_findFacts prog_12_method_60_code 3 (none) :: lw_ok) ({ frames := 3, cells := 0, slots := 0, locals := 71 } : Room) (va_Pc [.ref (G.1 10), vI x1] (gB G s)) (va_Qv (fun (s2 : SS) => Q s2) (fun s2 t => gB G s2 t) A) 0 0 A := by
  refine met_v hD (by decide) ⟨rfl, rfl⟩ (Nat.le_of_ble_eq_true rfl) (lv := [(0, .ref (G.1 10)), (1, vI x1)]) rfl (fun F h1 h2 h3 hm ok hQ => ?_)
  subst h1 h2 h3
  have hDF := hD
  exact K_Md_findFacts_e hDF hm ok hQ (h _ _ (fun _ _ _ _ _ hb => K_Md_findFacts_62 hDF hm ok hQ hb) (fun _ _ _ _ hb => K_Md_findFacts_95 hDF hm ok hQ hb))
theorem d_Md_isSo_0 : decode prog_12_method_61_code 0 = .ok (.iconst 0, 1) := by decide +kernel
theorem d_Md_isSo_1 : decode prog_12_method_61_code 1 = .ok (.istore 4, 2) := by decide +kernel
theorem d_Md_isSo_3 : decode prog_12_method_61_code 3 = .ok (.iload_n 2, 1) := by decide +kernel
theorem d_Md_isSo_4 : decode prog_12_method_61_code 4 = .ok (.istore 5, 2) := by decide +kernel
theorem d_Md_isSo_6 : decode prog_12_method_61_code 6 = .ok (.iload 5, 2) := by decide +kernel
theorem d_Md_isSo_8 : decode prog_12_method_61_code 8 = .ok (.iload_n 3, 1) := by decide +kernel
theorem d_Md_isSo_9 : decode prog_12_method_61_code 9 = .ok (.if_icmp .ge 227, 3) := by decide +kernel
theorem d_Md_isSo_12 : decode prog_12_method_61_code 12 = .ok (.aload_n 0, 1) := by decide +kernel
theorem d_Md_isSo_13 : decode prog_12_method_61_code 13 = .ok (.getfield 96, 3) := by decide +kernel
theorem d_Md_isSo_16 : decode prog_12_method_61_code 16 = .ok (.sipush 600, 3) := by decide +kernel
theorem d_Md_isSo_19 : decode prog_12_method_61_code 19 = .ok (.iload_n 1, 1) := by decide +kernel
theorem d_Md_isSo_20 : decode prog_12_method_61_code 20 = .ok (.imul, 1) := by decide +kernel
theorem d_Md_isSo_21 : decode prog_12_method_61_code 21 = .ok (.iload 5, 2) := by decide +kernel
theorem d_Md_isSo_23 : decode prog_12_method_61_code 23 = .ok (.iadd, 1) := by decide +kernel
theorem d_Md_isSo_24 : decode prog_12_method_61_code 24 = .ok (.iaload, 1) := by decide +kernel
theorem d_Md_isSo_25 : decode prog_12_method_61_code 25 = .ok (.istore 6, 2) := by decide +kernel
theorem d_Md_isSo_27 : decode prog_12_method_61_code 27 = .ok (.iload 6, 2) := by decide +kernel
theorem d_Md_isSo_29 : decode prog_12_method_61_code 29 = .ok (.ifCond .ne 29, 3) := by decide +kernel
theorem d_Md_isSo_32 : decode prog_12_method_61_code 32 = .ok (.aload_n 0, 1) := by decide +kernel
theorem d_Md_isSo_33 : decode prog_12_method_61_code 33 = .ok (.getfield 111, 3) := by decide +kernel
theorem d_Md_isSo_36 : decode prog_12_method_61_code 36 = .ok (.iload 4, 2) := by decide +kernel
theorem d_Md_isSo_38 : decode prog_12_method_61_code 38 = .ok (.iconst 1, 1) := by decide +kernel
theorem d_Md_isSo_39 : decode prog_12_method_61_code 39 = .ok (.isub, 1) := by decide +kernel
theorem d_Md_isSo_40 : decode prog_12_method_61_code 40 = .ok (.iconst 1, 1) := by decide +kernel
theorem d_Md_isSo_41 : decode prog_12_method_61_code 41 = .ok (.aload_n 0, 1) := by decide +kernel
theorem d_Md_isSo_42 : decode prog_12_method_61_code 42 = .ok (.getfield 111, 3) := by decide +kernel
theorem d_Md_isSo_45 : decode prog_12_method_61_code 45 = .ok (.iload 4, 2) := by decide +kernel
theorem d_Md_isSo_47 : decode prog_12_method_61_code 47 = .ok (.iconst 1, 1) := by decide +kernel
theorem d_Md_isSo_48 : decode prog_12_method_61_code 48 = .ok (.isub, 1) := by decide +kernel
theorem d_Md_isSo_49 : decode prog_12_method_61_code 49 = .ok (.iaload, 1) := by decide +kernel
theorem d_Md_isSo_50 : decode prog_12_method_61_code 50 = .ok (.isub, 1) := by decide +kernel
theorem d_Md_isSo_51 : decode prog_12_method_61_code 51 = .ok (.iastore, 1) := by decide +kernel
theorem d_Md_isSo_52 : decode prog_12_method_61_code 52 = .ok (.iinc 5 1, 3) := by decide +kernel
theorem d_Md_isSo_55 : decode prog_12_method_61_code 55 = .ok (.goto 178, 3) := by decide +kernel
theorem d_Md_isSo_58 : decode prog_12_method_61_code 58 = .ok (.iload 6, 2) := by decide +kernel
theorem d_Md_isSo_60 : decode prog_12_method_61_code 60 = .ok (.iconst 3, 1) := by decide +kernel
theorem d_Md_isSo_61 : decode prog_12_method_61_code 61 = .ok (.if_icmp .ge 64, 3) := by decide +kernel
theorem d_Md_isSo_64 : decode prog_12_method_61_code 64 = .ok (.iinc 4 (-1), 3) := by decide +kernel
theorem d_Md_isSo_67 : decode prog_12_method_61_code 67 = .ok (.aload_n 0, 1) := by decide +kernel
theorem d_Md_isSo_68 : decode prog_12_method_61_code 68 = .ok (.getfield 111, 3) := by decide +kernel
theorem d_Md_isSo_71 : decode prog_12_method_61_code 71 = .ok (.iload 4, 2) := by decide +kernel
theorem d_Md_isSo_73 : decode prog_12_method_61_code 73 = .ok (.iconst 1, 1) := by decide +kernel
theorem d_Md_isSo_74 : decode prog_12_method_61_code 74 = .ok (.isub, 1) := by decide +kernel
theorem d_Md_isSo_75 : decode prog_12_method_61_code 75 = .ok (.iload 6, 2) := by decide +kernel
theorem d_Md_isSo_77 : decode prog_12_method_61_code 77 = .ok (.iconst 1, 1) := by decide +kernel
theorem d_Md_isSo_78 : decode prog_12_method_61_code 78 = .ok (.if_icmp .ne 23, 3) := by decide +kernel
theorem d_Md_isSo_81 : decode prog_12_method_61_code 81 = .ok (.aload_n 0, 1) := by decide +kernel
theorem d_Md_isSo_82 : decode prog_12_method_61_code 82 = .ok (.getfield 111, 3) := by decide +kernel
theorem d_Md_isSo_85 : decode prog_12_method_61_code 85 = .ok (.iload 4, 2) := by decide +kernel
theorem d_Md_isSo_87 : decode prog_12_method_61_code 87 = .ok (.iconst 1, 1) := by decide +kernel
theorem d_Md_isSo_88 : decode prog_12_method_61_code 88 = .ok (.isub, 1) := by decide +kernel
theorem d_Md_isSo_89 : decode prog_12_method_61_code 89 = .ok (.iaload, 1) := by decide +kernel
theorem d_Md_isSo_90 : decode prog_12_method_61_code 90 = .ok (.aload_n 0, 1) := by decide +kernel
theorem d_Md_isSo_91 : decode prog_12_method_61_code 91 = .ok (.getfield 111, 3) := by decide +kernel
theorem d_Md_isSo_94 : decode prog_12_method_61_code 94 = .ok (.iload 4, 2) := by decide +kernel
theorem d_Md_isSo_96 : decode prog_12_method_61_code 96 = .ok (.iaload, 1) := by decide +kernel
theorem d_Md_isSo_97 : decode prog_12_method_61_code 97 = .ok (.iand, 1) := by decide +kernel
theorem d_Md_isSo_98 : decode prog_12_method_61_code 98 = .ok (.goto 20, 3) := by decide +kernel
theorem d_Md_isSo_101 : decode prog_12_method_61_code 101 = .ok (.aload_n 0, 1) := by decide +kernel
theorem d_Md_isSo_102 : decode prog_12_method_61_code 102 = .ok (.getfield 111, 3) := by decide +kernel
theorem d_Md_isSo_105 : decode prog_12_method_61_code 105 = .ok (.iload 4, 2) := by decide +kernel
theorem d_Md_isSo_107 : decode prog_12_method_61_code 107 = .ok (.iconst 1, 1) := by decide +kernel
theorem d_Md_isSo_108 : decode prog_12_method_61_code 108 = .ok (.isub, 1) := by decide +kernel
theorem d_Md_isSo_109 : decode prog_12_method_61_code 109 = .ok (.iaload, 1) := by decide +kernel
theorem d_Md_isSo_110 : decode prog_12_method_61_code 110 = .ok (.aload_n 0, 1) := by decide +kernel
theorem d_Md_isSo_111 : decode prog_12_method_61_code 111 = .ok (.getfield 111, 3) := by decide +kernel
theorem d_Md_isSo_114 : decode prog_12_method_61_code 114 = .ok (.iload 4, 2) := by decide +kernel
theorem d_Md_isSo_116 : decode prog_12_method_61_code 116 = .ok (.iaload, 1) := by decide +kernel
theorem d_Md_isSo_117 : decode prog_12_method_61_code 117 = .ok (.ior, 1) := by decide +kernel
theorem d_Md_isSo_118 : decode prog_12_method_61_code 118 = .ok (.iastore, 1) := by decide +kernel
theorem d_Md_isSo_119 : decode prog_12_method_61_code 119 = .ok (.iinc 5 1, 3) := by decide +kernel
theorem d_Md_isSo_122 : decode prog_12_method_61_code 122 = .ok (.goto 111, 3) := by decide +kernel
theorem d_Md_isSo_125 : decode prog_12_method_61_code 125 = .ok (.aload_n 0, 1) := by decide +kernel
theorem d_Md_isSo_126 : decode prog_12_method_61_code 126 = .ok (.getfield 96, 3) := by decide +kernel
theorem d_Md_isSo_129 : decode prog_12_method_61_code 129 = .ok (.sipush 600, 3) := by decide +kernel
theorem d_Md_isSo_132 : decode prog_12_method_61_code 132 = .ok (.iload_n 1, 1) := by decide +kernel
theorem d_Md_isSo_133 : decode prog_12_method_61_code 133 = .ok (.imul, 1) := by decide +kernel
theorem d_Md_isSo_134 : decode prog_12_method_61_code 134 = .ok (.iload 5, 2) := by decide +kernel
theorem d_Md_isSo_136 : decode prog_12_method_61_code 136 = .ok (.iadd, 1) := by decide +kernel
theorem d_Md_isSo_137 : decode prog_12_method_61_code 137 = .ok (.iconst 1, 1) := by decide +kernel
theorem d_Md_isSo_138 : decode prog_12_method_61_code 138 = .ok (.iadd, 1) := by decide +kernel
theorem d_Md_isSo_139 : decode prog_12_method_61_code 139 = .ok (.iaload, 1) := by decide +kernel
theorem d_Md_isSo_140 : decode prog_12_method_61_code 140 = .ok (.istore 7, 2) := by decide +kernel
theorem d_Md_isSo_142 : decode prog_12_method_61_code 142 = .ok (.aload_n 0, 1) := by decide +kernel
theorem d_Md_isSo_143 : decode prog_12_method_61_code 143 = .ok (.getfield 96, 3) := by decide +kernel
theorem d_Md_isSo_146 : decode prog_12_method_61_code 146 = .ok (.sipush 600, 3) := by decide +kernel
theorem d_Md_isSo_149 : decode prog_12_method_61_code 149 = .ok (.iload_n 1, 1) := by decide +kernel
theorem d_Md_isSo_150 : decode prog_12_method_61_code 150 = .ok (.imul, 1) := by decide +kernel
theorem d_Md_isSo_151 : decode prog_12_method_61_code 151 = .ok (.iload 5, 2) := by decide +kernel
theorem d_Md_isSo_153 : decode prog_12_method_61_code 153 = .ok (.iadd, 1) := by decide +kernel
theorem d_Md_isSo_154 : decode prog_12_method_61_code 154 = .ok (.iconst 2, 1) := by decide +kernel
theorem d_Md_isSo_155 : decode prog_12_method_61_code 155 = .ok (.iadd, 1) := by decide +kernel
theorem d_Md_isSo_156 : decode prog_12_method_61_code 156 = .ok (.iaload, 1) := by decide +kernel
theorem d_Md_isSo_157 : decode prog_12_method_61_code 157 = .ok (.istore 8, 2) := by decide +kernel
theorem d_Md_isSo_159 : decode prog_12_method_61_code 159 = .ok (.aload_n 0, 1) := by decide +kernel
theorem d_Md_isSo_160 : decode prog_12_method_61_code 160 = .ok (.getfield 111, 3) := by decide +kernel
theorem d_Md_isSo_163 : decode prog_12_method_61_code 163 = .ok (.iload 4, 2) := by decide +kernel
theorem d_Md_isSo_165 : decode prog_12_method_61_code 165 = .ok (.iload 7, 2) := by decide +kernel
theorem d_Md_isSo_167 : decode prog_12_method_61_code 167 = .ok (.bipush 60, 2) := by decide +kernel
theorem d_Md_isSo_169 : decode prog_12_method_61_code 169 = .ok (.if_icmp .ne 18, 3) := by decide +kernel
theorem d_Md_isSo_172 : decode prog_12_method_61_code 172 = .ok (.aload_n 0, 1) := by decide +kernel
theorem d_Md_isSo_173 : decode prog_12_method_61_code 173 = .ok (.getfield 114, 3) := by decide +kernel
theorem d_Md_isSo_176 : decode prog_12_method_61_code 176 = .ok (.iload 6, 2) := by decide +kernel
theorem d_Md_isSo_178 : decode prog_12_method_61_code 178 = .ok (.iaload, 1) := by decide +kernel
theorem d_Md_isSo_179 : decode prog_12_method_61_code 179 = .ok (.iload 8, 2) := by decide +kernel
theorem d_Md_isSo_181 : decode prog_12_method_61_code 181 = .ok (.if_icmp .ge 44, 3) := by decide +kernel
theorem d_Md_isSo_184 : decode prog_12_method_61_code 184 = .ok (.goto 37, 3) := by decide +kernel
theorem d_Md_isSo_187 : decode prog_12_method_61_code 187 = .ok (.iload 7, 2) := by decide +kernel
theorem d_Md_isSo_189 : decode prog_12_method_61_code 189 = .ok (.bipush 61, 2) := by decide +kernel
theorem d_Md_isSo_191 : decode prog_12_method_61_code 191 = .ok (.if_icmp .ne 18, 3) := by decide +kernel
theorem d_Md_isSo_194 : decode prog_12_method_61_code 194 = .ok (.aload_n 0, 1) := by decide +kernel
theorem d_Md_isSo_195 : decode prog_12_method_61_code 195 = .ok (.getfield 114, 3) := by decide +kernel
theorem d_Md_isSo_198 : decode prog_12_method_61_code 198 = .ok (.iload 6, 2) := by decide +kernel
theorem d_Md_isSo_200 : decode prog_12_method_61_code 200 = .ok (.iaload, 1) := by decide +kernel
theorem d_Md_isSo_201 : decode prog_12_method_61_code 201 = .ok (.iload 8, 2) := by decide +kernel
theorem d_Md_isSo_203 : decode prog_12_method_61_code 203 = .ok (.if_icmp .ne 22, 3) := by decide +kernel
theorem d_Md_isSo_206 : decode prog_12_method_61_code 206 = .ok (.goto 15, 3) := by decide +kernel
theorem d_Md_isSo_209 : decode prog_12_method_61_code 209 = .ok (.aload_n 0, 1) := by decide +kernel
theorem d_Md_isSo_210 : decode prog_12_method_61_code 210 = .ok (.getfield 114, 3) := by decide +kernel
theorem d_Md_isSo_213 : decode prog_12_method_61_code 213 = .ok (.iload 6, 2) := by decide +kernel
theorem d_Md_isSo_215 : decode prog_12_method_61_code 215 = .ok (.iaload, 1) := by decide +kernel
theorem d_Md_isSo_216 : decode prog_12_method_61_code 216 = .ok (.iload 8, 2) := by decide +kernel
theorem d_Md_isSo_218 : decode prog_12_method_61_code 218 = .ok (.if_icmp .le 7, 3) := by decide +kernel
theorem d_Md_isSo_221 : decode prog_12_method_61_code 221 = .ok (.iconst 1, 1) := by decide +kernel
theorem d_Md_isSo_222 : decode prog_12_method_61_code 222 = .ok (.goto 4, 3) := by decide +kernel
theorem d_Md_isSo_225 : decode prog_12_method_61_code 225 = .ok (.iconst 0, 1) := by decide +kernel
theorem d_Md_isSo_226 : decode prog_12_method_61_code 226 = .ok (.iastore, 1) := by decide +kernel
theorem d_Md_isSo_227 : decode prog_12_method_61_code 227 = .ok (.iinc 4 1, 3) := by decide +kernel
theorem d_Md_isSo_230 : decode prog_12_method_61_code 230 = .ok (.iinc 5 3, 3) := by decide +kernel
theorem d_Md_isSo_233 : decode prog_12_method_61_code 233 = .ok (.goto (-227), 3) := by decide +kernel
theorem d_Md_isSo_236 : decode prog_12_method_61_code 236 = .ok (.aload_n 0, 1) := by decide +kernel
theorem d_Md_isSo_237 : decode prog_12_method_61_code 237 = .ok (.getfield 111, 3) := by decide +kernel
theorem d_Md_isSo_240 : decode prog_12_method_61_code 240 = .ok (.iconst 0, 1) := by decide +kernel
theorem d_Md_isSo_241 : decode prog_12_method_61_code 241 = .ok (.iaload, 1) := by decide +kernel
theorem d_Md_isSo_242 : decode prog_12_method_61_code 242 = .ok (.iconst 1, 1) := by decide +kernel
theorem d_Md_isSo_243 : decode prog_12_method_61_code 243 = .ok (.if_icmp .ne 7, 3) := by decide +kernel
theorem d_Md_isSo_246 : decode prog_12_method_61_code 246 = .ok (.iconst 1, 1) := by decide +kernel
theorem d_Md_isSo_247 : decode prog_12_method_61_code 247 = .ok (.goto 4, 3) := by decide +kernel
theorem d_Md_isSo_250 : decode prog_12_method_61_code 250 = .ok (.iconst 0, 1) := by decide +kernel
theorem d_Md_isSo_251 : decode prog_12_method_61_code 251 = .ok (.ireturn, 1) := by decide +kernel
set_option maxHeartbeats 4000000 in
set_option maxRecDepth 100000 in
theorem K_Md_isSo_6 {F : FT} (hD : ∀ σ, va_D F.2.2.1 (GW F.2.1 σ)) (hm : F.2.2.2.2.2.2.2.2.2.2.2.2.2.2.1 = 9) (ok : OkF F prog_12_method_61_code "LastSeenModel" ({ frames := 0, cells := 0, slots := 0, locals := 0 } : Room)) {Q : Int → SS → Prop} (hQ : RetZ F Q) {x1 x3 x4 x5 : Int} {s : SS} (h : B_Md_isSo_6 Q (fun x1 x3 x4 x5 s => AtS F 6 [(0, .ref (F.2.1.1 10)), (1, vI x1), (3, vI x3), (4, vI x4), (5, vI x5)] [] s) x1 x3 x4 x5 s) : AtS F 6 [(0, .ref (F.2.1.1 10)), (1, vI x1), (3, vI x3), (4, vI x4), (5, vI x5)] [] s := by
  unfold B_Md_isSo_6 at h
  refine r_iload ok 4 d_Md_isSo_6 rfl ?_
  refine r_iload_n ok 2 d_Md_isSo_8 rfl rfl ?_
  refine r_icmp_ge ok 236 d_Md_isSo_9 (by decide) h.1 h.2.1 (fun c => ?_) (fun c => ?_)
  · replace h := h.2.2.1 c
    refine r_aload_n ok 0 d_Md_isSo_236 rfl rfl ?_
    refine g_Md_stack ok d_Md_isSo_237 ?_
    refine r_iconst ok 0 d_Md_isSo_240 rfl ?_
    refine r_iald ok 92 d_Md_isSo_241 (by decide) rfl (by decide) ?_
    refine r_iconst ok 1 d_Md_isSo_242 rfl ?_
    refine r_icmp_ne ok 250 d_Md_isSo_243 (by decide) h.1 (by decide) (fun c => ?_) (fun c => ?_)
    · replace h := h.2.1 c
      refine r_iconst ok 0 d_Md_isSo_250 rfl ?_
      exact hQ _ _ _ _ _ (ok_code ok) d_Md_isSo_251 (by decide) h
    · replace h := h.2.2 c
      refine r_iconst ok 1 d_Md_isSo_246 rfl ?_
      refine r_goto ok 251 d_Md_isSo_247 (by decide) ?_
      exact hQ _ _ _ _ _ (ok_code ok) d_Md_isSo_251 (by decide) h
  · replace h := h.2.2.2 c
    refine r_aload_n ok 0 d_Md_isSo_12 rfl rfl ?_
    refine g_Md_code ok d_Md_isSo_13 ?_
    refine r_sipush ok 600 d_Md_isSo_16 (by decide) ?_
    refine r_iload_n ok 1 d_Md_isSo_19 rfl rfl ?_
    refine r_imul ok d_Md_isSo_20 ?_
    refine r_iload ok 4 d_Md_isSo_21 rfl ?_
    refine r_iadd ok d_Md_isSo_23 ?_
    refine r_iald ok 87 d_Md_isSo_24 (by decide) rfl h.1 ?_
    replace h := h.2
    refine r_istore ok [(6, vI (s.2 87 ((600 * x1) + x5))), (0, .ref (F.2.1.1 10)), (1, vI x1), (3, vI x3), (4, vI x4), (5, vI x5)] d_Md_isSo_25 hm (by decide) rfl ?_
    refine r_iload ok 0 d_Md_isSo_27 rfl ?_
    refine r_if_ne ok 58 d_Md_isSo_29 (by decide) h.1 (fun c => ?_) (fun c => ?_)
    · replace h := h.2.1 c
      refine r_iload ok 0 d_Md_isSo_58 rfl ?_
      refine r_iconst ok 3 d_Md_isSo_60 rfl ?_
      refine r_icmp_ge ok 125 d_Md_isSo_61 (by decide) h.1 (by decide) (fun c => ?_) (fun c => ?_)
      · replace h := h.2.1 c
        refine r_aload_n ok 1 d_Md_isSo_125 rfl rfl ?_
        refine g_Md_code ok d_Md_isSo_126 ?_
        refine r_sipush ok 600 d_Md_isSo_129 (by decide) ?_
        refine r_iload_n ok 2 d_Md_isSo_132 rfl rfl ?_
        refine r_imul ok d_Md_isSo_133 ?_
        refine r_iload ok 5 d_Md_isSo_134 rfl ?_
        refine r_iadd ok d_Md_isSo_136 ?_
        refine r_iconst ok 1 d_Md_isSo_137 rfl ?_
        refine r_iadd ok d_Md_isSo_138 ?_
        refine r_iald ok 87 d_Md_isSo_139 (by decide) rfl h.1 ?_
        replace h := h.2
        refine r_istore ok [(7, vI (s.2 87 (((600 * x1) + x5) + 1))), (6, vI (s.2 87 ((600 * x1) + x5))), (0, .ref (F.2.1.1 10)), (1, vI x1), (3, vI x3), (4, vI x4), (5, vI x5)] d_Md_isSo_140 hm (by decide) rfl ?_
        refine r_aload_n ok 2 d_Md_isSo_142 rfl rfl ?_
        refine g_Md_code ok d_Md_isSo_143 ?_
        refine r_sipush ok 600 d_Md_isSo_146 (by decide) ?_
        refine r_iload_n ok 3 d_Md_isSo_149 rfl rfl ?_
        refine r_imul ok d_Md_isSo_150 ?_
        refine r_iload ok 6 d_Md_isSo_151 rfl ?_
        refine r_iadd ok d_Md_isSo_153 ?_
        refine r_iconst ok 2 d_Md_isSo_154 rfl ?_
        refine r_iadd ok d_Md_isSo_155 ?_
        refine r_iald ok 87 d_Md_isSo_156 (by decide) rfl h.1 ?_
        replace h := h.2
        refine r_istore ok [(8, vI (s.2 87 (((600 * x1) + x5) + 2))), (7, vI (s.2 87 (((600 * x1) + x5) + 1))), (6, vI (s.2 87 ((600 * x1) + x5))), (0, .ref (F.2.1.1 10)), (1, vI x1), (3, vI x3), (4, vI x4), (5, vI x5)] d_Md_isSo_157 hm (by decide) rfl ?_
        refine r_aload_n ok 3 d_Md_isSo_159 rfl rfl ?_
        refine g_Md_stack ok d_Md_isSo_160 ?_
        refine r_iload ok 6 d_Md_isSo_163 rfl ?_
        refine r_iload ok 1 d_Md_isSo_165 rfl ?_
        refine r_bipush ok 60 d_Md_isSo_167 (by decide) ?_
        refine r_icmp_ne ok 187 d_Md_isSo_169 (by decide) h.1 (by decide) (fun c => ?_) (fun c => ?_)
        · replace h := h.2.1 c
          refine r_iload ok 1 d_Md_isSo_187 rfl ?_
          refine r_bipush ok 61 d_Md_isSo_189 (by decide) ?_
          refine r_icmp_ne ok 209 d_Md_isSo_191 (by decide) h.1 (by decide) (fun c => ?_) (fun c => ?_)
          · replace h := h.2.1 c
            refine r_aload_n ok 3 d_Md_isSo_209 rfl rfl ?_
            refine g_Md_fact ok d_Md_isSo_210 ?_
            refine r_iload ok 2 d_Md_isSo_213 rfl ?_
            refine r_iald ok 93 d_Md_isSo_215 (by decide) rfl h.1 ?_
            replace h := h.2
            refine r_iload ok 0 d_Md_isSo_216 rfl ?_
            refine r_icmp_le ok 225 d_Md_isSo_218 (by decide) h.1 h.2.1 (fun c => ?_) (fun c => ?_)
            · replace h := h.2.2.1 c
              refine r_iconst ok 0 d_Md_isSo_225 rfl ?_
              refine r_iast ok 92 d_Md_isSo_226 (by decide) rfl h.1 ?_
              replace h := h.2 _ rfl
              generalize sA s 92 x4 0 = s1 at h ⊢
              refine r_iinc ok 6 (x4 + 1) [(4, vI (x4 + 1)), (8, vI (s.2 87 (((600 * x1) + x5) + 2))), (7, vI (s.2 87 (((600 * x1) + x5) + 1))), (6, vI (s.2 87 ((600 * x1) + x5))), (0, .ref (F.2.1.1 10)), (1, vI x1), (3, vI x3), (5, vI x5)] d_Md_isSo_227 rfl rfl hm (by decide) rfl ?_
              refine r_iinc ok 7 (x5 + 3) [(5, vI (x5 + 3)), (4, vI (x4 + 1)), (8, vI (s.2 87 (((600 * x1) + x5) + 2))), (7, vI (s.2 87 (((600 * x1) + x5) + 1))), (6, vI (s.2 87 ((600 * x1) + x5))), (0, .ref (F.2.1.1 10)), (1, vI x1), (3, vI x3)] d_Md_isSo_230 rfl rfl hm (by decide) rfl ?_
              refine r_goto ok 6 d_Md_isSo_233 (by decide) ?_
              exact r_sub [5, 6, 7, 1, 0] rfl h
            · replace h := h.2.2.2 c
              refine r_iconst ok 1 d_Md_isSo_221 rfl ?_
              refine r_goto ok 226 d_Md_isSo_222 (by decide) ?_
              refine r_iast ok 92 d_Md_isSo_226 (by decide) rfl h.1 ?_
              replace h := h.2 _ rfl
              generalize sA s 92 x4 1 = s2 at h ⊢
              refine r_iinc ok 6 (x4 + 1) [(4, vI (x4 + 1)), (8, vI (s.2 87 (((600 * x1) + x5) + 2))), (7, vI (s.2 87 (((600 * x1) + x5) + 1))), (6, vI (s.2 87 ((600 * x1) + x5))), (0, .ref (F.2.1.1 10)), (1, vI x1), (3, vI x3), (5, vI x5)] d_Md_isSo_227 rfl rfl hm (by decide) rfl ?_
              refine r_iinc ok 7 (x5 + 3) [(5, vI (x5 + 3)), (4, vI (x4 + 1)), (8, vI (s.2 87 (((600 * x1) + x5) + 2))), (7, vI (s.2 87 (((600 * x1) + x5) + 1))), (6, vI (s.2 87 ((600 * x1) + x5))), (0, .ref (F.2.1.1 10)), (1, vI x1), (3, vI x3)] d_Md_isSo_230 rfl rfl hm (by decide) rfl ?_
              refine r_goto ok 6 d_Md_isSo_233 (by decide) ?_
              exact r_sub [5, 6, 7, 1, 0] rfl h
          · replace h := h.2.2 c
            refine r_aload_n ok 3 d_Md_isSo_194 rfl rfl ?_
            refine g_Md_fact ok d_Md_isSo_195 ?_
            refine r_iload ok 2 d_Md_isSo_198 rfl ?_
            refine r_iald ok 93 d_Md_isSo_200 (by decide) rfl h.1 ?_
            replace h := h.2
            refine r_iload ok 0 d_Md_isSo_201 rfl ?_
            refine r_icmp_ne ok 225 d_Md_isSo_203 (by decide) h.1 h.2.1 (fun c => ?_) (fun c => ?_)
            · replace h := h.2.2.1 c
              refine r_iconst ok 0 d_Md_isSo_225 rfl ?_
              refine r_iast ok 92 d_Md_isSo_226 (by decide) rfl h.1 ?_
              replace h := h.2 _ rfl
              generalize sA s 92 x4 0 = s3 at h ⊢
              refine r_iinc ok 6 (x4 + 1) [(4, vI (x4 + 1)), (8, vI (s.2 87 (((600 * x1) + x5) + 2))), (7, vI (s.2 87 (((600 * x1) + x5) + 1))), (6, vI (s.2 87 ((600 * x1) + x5))), (0, .ref (F.2.1.1 10)), (1, vI x1), (3, vI x3), (5, vI x5)] d_Md_isSo_227 rfl rfl hm (by decide) rfl ?_
              refine r_iinc ok 7 (x5 + 3) [(5, vI (x5 + 3)), (4, vI (x4 + 1)), (8, vI (s.2 87 (((600 * x1) + x5) + 2))), (7, vI (s.2 87 (((600 * x1) + x5) + 1))), (6, vI (s.2 87 ((600 * x1) + x5))), (0, .ref (F.2.1.1 10)), (1, vI x1), (3, vI x3)] d_Md_isSo_230 rfl rfl hm (by decide) rfl ?_
              refine r_goto ok 6 d_Md_isSo_233 (by decide) ?_
              exact r_sub [5, 6, 7, 1, 0] rfl h
            · replace h := h.2.2.2 c
              refine r_goto ok 221 d_Md_isSo_206 (by decide) ?_
              refine r_iconst ok 1 d_Md_isSo_221 rfl ?_
              refine r_goto ok 226 d_Md_isSo_222 (by decide) ?_
              refine r_iast ok 92 d_Md_isSo_226 (by decide) rfl h.1 ?_
              replace h := h.2 _ rfl
              generalize sA s 92 x4 1 = s4 at h ⊢
              refine r_iinc ok 6 (x4 + 1) [(4, vI (x4 + 1)), (8, vI (s.2 87 (((600 * x1) + x5) + 2))), (7, vI (s.2 87 (((600 * x1) + x5) + 1))), (6, vI (s.2 87 ((600 * x1) + x5))), (0, .ref (F.2.1.1 10)), (1, vI x1), (3, vI x3), (5, vI x5)] d_Md_isSo_227 rfl rfl hm (by decide) rfl ?_
              refine r_iinc ok 7 (x5 + 3) [(5, vI (x5 + 3)), (4, vI (x4 + 1)), (8, vI (s.2 87 (((600 * x1) + x5) + 2))), (7, vI (s.2 87 (((600 * x1) + x5) + 1))), (6, vI (s.2 87 ((600 * x1) + x5))), (0, .ref (F.2.1.1 10)), (1, vI x1), (3, vI x3)] d_Md_isSo_230 rfl rfl hm (by decide) rfl ?_
              refine r_goto ok 6 d_Md_isSo_233 (by decide) ?_
              exact r_sub [5, 6, 7, 1, 0] rfl h
        · replace h := h.2.2 c
          refine r_aload_n ok 3 d_Md_isSo_172 rfl rfl ?_
          refine g_Md_fact ok d_Md_isSo_173 ?_
          refine r_iload ok 2 d_Md_isSo_176 rfl ?_
          refine r_iald ok 93 d_Md_isSo_178 (by decide) rfl h.1 ?_
          replace h := h.2
          refine r_iload ok 0 d_Md_isSo_179 rfl ?_
          refine r_icmp_ge ok 225 d_Md_isSo_181 (by decide) h.1 h.2.1 (fun c => ?_) (fun c => ?_)
          · replace h := h.2.2.1 c
            refine r_iconst ok 0 d_Md_isSo_225 rfl ?_
            refine r_iast ok 92 d_Md_isSo_226 (by decide) rfl h.1 ?_
            replace h := h.2 _ rfl
            generalize sA s 92 x4 0 = s5 at h ⊢
            refine r_iinc ok 6 (x4 + 1) [(4, vI (x4 + 1)), (8, vI (s.2 87 (((600 * x1) + x5) + 2))), (7, vI (s.2 87 (((600 * x1) + x5) + 1))), (6, vI (s.2 87 ((600 * x1) + x5))), (0, .ref (F.2.1.1 10)), (1, vI x1), (3, vI x3), (5, vI x5)] d_Md_isSo_227 rfl rfl hm (by decide) rfl ?_
            refine r_iinc ok 7 (x5 + 3) [(5, vI (x5 + 3)), (4, vI (x4 + 1)), (8, vI (s.2 87 (((600 * x1) + x5) + 2))), (7, vI (s.2 87 (((600 * x1) + x5) + 1))), (6, vI (s.2 87 ((600 * x1) + x5))), (0, .ref (F.2.1.1 10)), (1, vI x1), (3, vI x3)] d_Md_isSo_230 rfl rfl hm (by decide) rfl ?_
            refine r_goto ok 6 d_Md_isSo_233 (by decide) ?_
            exact r_sub [5, 6, 7, 1, 0] rfl h
          · replace h := h.2.2.2 c
            refine r_goto ok 221 d_Md_isSo_184 (by decide) ?_
            refine r_iconst ok 1 d_Md_isSo_221 rfl ?_
            refine r_goto ok 226 d_Md_isSo_222 (by decide) ?_
            refine r_iast ok 92 d_Md_isSo_226 (by decide) rfl h.1 ?_
            replace h := h.2 _ rfl
            generalize sA s 92 x4 1 = s6 at h ⊢
            refine r_iinc ok 6 (x4 + 1) [(4, vI (x4 + 1)), (8, vI (s.2 87 (((600 * x1) + x5) + 2))), (7, vI (s.2 87 (((600 * x1) + x5) + 1))), (6, vI (s.2 87 ((600 * x1) + x5))), (0, .ref (F.2.1.1 10)), (1, vI x1), (3, vI x3), (5, vI x5)] d_Md_isSo_227 rfl rfl hm (by decide) rfl ?_
            refine r_iinc ok 7 (x5 + 3) [(5, vI (x5 + 3)), (4, vI (x4 + 1)), (8, vI (s.2 87 (((600 * x1) + x5) + 2))), (7, vI (s.2 87 (((600 * x1) + x5) + 1))), (6, vI (s.2 87 ((600 * x1) + x5))), (0, .ref (F.2.1.1 10)), (1, vI x1), (3, vI x3)] d_Md_isSo_230 rfl rfl hm (by decide) rfl ?_
            refine r_goto ok 6 d_Md_isSo_233 (by decide) ?_
            exact r_sub [5, 6, 7, 1, 0] rfl h
      · replace h := h.2.2 c
        refine r_iinc ok 4 (x4 + (-1)) [(4, vI (x4 + (-1))), (6, vI (s.2 87 ((600 * x1) + x5))), (0, .ref (F.2.1.1 10)), (1, vI x1), (3, vI x3), (5, vI x5)] d_Md_isSo_64 rfl rfl hm (by decide) rfl ?_
        refine r_aload_n ok 2 d_Md_isSo_67 rfl rfl ?_
        refine g_Md_stack ok d_Md_isSo_68 ?_
        refine r_iload ok 0 d_Md_isSo_71 rfl ?_
        refine r_iconst ok 1 d_Md_isSo_73 rfl ?_
        refine r_isub ok d_Md_isSo_74 ?_
        refine r_iload ok 1 d_Md_isSo_75 rfl ?_
        refine r_iconst ok 1 d_Md_isSo_77 rfl ?_
        refine r_icmp_ne ok 101 d_Md_isSo_78 (by decide) h.1 (by decide) (fun c => ?_) (fun c => ?_)
        · replace h := h.2.1 c
          refine r_aload_n ok 2 d_Md_isSo_101 rfl rfl ?_
          refine g_Md_stack ok d_Md_isSo_102 ?_
          refine r_iload ok 0 d_Md_isSo_105 rfl ?_
          refine r_iconst ok 1 d_Md_isSo_107 rfl ?_
          refine r_isub ok d_Md_isSo_108 ?_
          refine r_iald ok 92 d_Md_isSo_109 (by decide) rfl h.1 ?_
          replace h := h.2
          refine r_aload_n ok 2 d_Md_isSo_110 rfl rfl ?_
          refine g_Md_stack ok d_Md_isSo_111 ?_
          refine r_iload ok 0 d_Md_isSo_114 rfl ?_
          refine r_iald ok 92 d_Md_isSo_116 (by decide) rfl h.1 ?_
          replace h := h.2
          refine r_ior ok d_Md_isSo_117 ?_
          refine r_iast ok 92 d_Md_isSo_118 (by decide) rfl h.1 ?_
          replace h := h.2 _ rfl
          generalize sA s 92 ((x4 + (-1)) - 1) (bor (s.2 92 ((x4 + (-1)) - 1)) (s.2 92 (x4 + (-1)))) = s7 at h ⊢
          refine r_iinc ok 5 (x5 + 1) [(5, vI (x5 + 1)), (4, vI (x4 + (-1))), (6, vI (s.2 87 ((600 * x1) + x5))), (0, .ref (F.2.1.1 10)), (1, vI x1), (3, vI x3)] d_Md_isSo_119 rfl rfl hm (by decide) rfl ?_
          refine r_goto ok 233 d_Md_isSo_122 (by decide) ?_
          refine r_goto ok 6 d_Md_isSo_233 (by decide) ?_
          exact r_sub [3, 4, 5, 1, 0] rfl h
        · replace h := h.2.2 c
          refine r_aload_n ok 2 d_Md_isSo_81 rfl rfl ?_
          refine g_Md_stack ok d_Md_isSo_82 ?_
          refine r_iload ok 0 d_Md_isSo_85 rfl ?_
          refine r_iconst ok 1 d_Md_isSo_87 rfl ?_
          refine r_isub ok d_Md_isSo_88 ?_
          refine r_iald ok 92 d_Md_isSo_89 (by decide) rfl h.1 ?_
          replace h := h.2
          refine r_aload_n ok 2 d_Md_isSo_90 rfl rfl ?_
          refine g_Md_stack ok d_Md_isSo_91 ?_
          refine r_iload ok 0 d_Md_isSo_94 rfl ?_
          refine r_iald ok 92 d_Md_isSo_96 (by decide) rfl h.1 ?_
          replace h := h.2
          refine r_iand ok d_Md_isSo_97 ?_
          refine r_goto ok 118 d_Md_isSo_98 (by decide) ?_
          refine r_iast ok 92 d_Md_isSo_118 (by decide) rfl h.1 ?_
          replace h := h.2 _ rfl
          generalize sA s 92 ((x4 + (-1)) - 1) (bnd (s.2 92 ((x4 + (-1)) - 1)) (s.2 92 (x4 + (-1)))) = s8 at h ⊢
          refine r_iinc ok 5 (x5 + 1) [(5, vI (x5 + 1)), (4, vI (x4 + (-1))), (6, vI (s.2 87 ((600 * x1) + x5))), (0, .ref (F.2.1.1 10)), (1, vI x1), (3, vI x3)] d_Md_isSo_119 rfl rfl hm (by decide) rfl ?_
          refine r_goto ok 233 d_Md_isSo_122 (by decide) ?_
          refine r_goto ok 6 d_Md_isSo_233 (by decide) ?_
          exact r_sub [3, 4, 5, 1, 0] rfl h
    · replace h := h.2.2 c
      refine r_aload_n ok 1 d_Md_isSo_32 rfl rfl ?_
      refine g_Md_stack ok d_Md_isSo_33 ?_
      refine r_iload ok 4 d_Md_isSo_36 rfl ?_
      refine r_iconst ok 1 d_Md_isSo_38 rfl ?_
      refine r_isub ok d_Md_isSo_39 ?_
      refine r_iconst ok 1 d_Md_isSo_40 rfl ?_
      refine r_aload_n ok 1 d_Md_isSo_41 rfl rfl ?_
      refine g_Md_stack ok d_Md_isSo_42 ?_
      refine r_iload ok 4 d_Md_isSo_45 rfl ?_
      refine r_iconst ok 1 d_Md_isSo_47 rfl ?_
      refine r_isub ok d_Md_isSo_48 ?_
      refine r_iald ok 92 d_Md_isSo_49 (by decide) rfl h.1 ?_
      replace h := h.2
      refine r_isub ok d_Md_isSo_50 ?_
      refine r_iast ok 92 d_Md_isSo_51 (by decide) rfl h.1 ?_
      replace h := h.2 _ rfl
      generalize sA s 92 (x4 - 1) (1 - (s.2 92 (x4 - 1))) = s9 at h ⊢
      refine r_iinc ok 5 (x5 + 1) [(5, vI (x5 + 1)), (6, vI (s.2 87 ((600 * x1) + x5))), (0, .ref (F.2.1.1 10)), (1, vI x1), (3, vI x3), (4, vI x4)] d_Md_isSo_52 rfl rfl hm (by decide) rfl ?_
      refine r_goto ok 233 d_Md_isSo_55 (by decide) ?_
      refine r_goto ok 6 d_Md_isSo_233 (by decide) ?_
      exact r_sub [2, 3, 4, 5, 0] rfl h
set_option maxHeartbeats 4000000 in
set_option maxRecDepth 100000 in
theorem K_Md_isSo_e {F : FT} (hD : ∀ σ, va_D F.2.2.1 (GW F.2.1 σ)) (hm : F.2.2.2.2.2.2.2.2.2.2.2.2.2.2.1 = 9) (ok : OkF F prog_12_method_61_code "LastSeenModel" ({ frames := 0, cells := 0, slots := 0, locals := 0 } : Room)) {Q : Int → SS → Prop} (hQ : RetZ F Q) {x1 x2 x3 : Int} {s : SS} (h : B_Md_isSo_e Q (fun x1 x3 x4 x5 s => AtS F 6 [(0, .ref (F.2.1.1 10)), (1, vI x1), (3, vI x3), (4, vI x4), (5, vI x5)] [] s) x1 x2 x3 s) : AtS F 0 [(0, .ref (F.2.1.1 10)), (1, vI x1), (2, vI x2), (3, vI x3)] [] s := by
  unfold B_Md_isSo_e at h
  refine r_iconst ok 0 d_Md_isSo_0 rfl ?_
  refine r_istore ok [(4, vI 0), (0, .ref (F.2.1.1 10)), (1, vI x1), (2, vI x2), (3, vI x3)] d_Md_isSo_1 hm (by decide) rfl ?_
  refine r_iload_n ok 3 d_Md_isSo_3 rfl rfl ?_
  refine r_istore ok [(5, vI x2), (4, vI 0), (0, .ref (F.2.1.1 10)), (1, vI x1), (2, vI x2), (3, vI x3)] d_Md_isSo_4 hm (by decide) rfl ?_
  exact r_sub [2, 3, 5, 1, 0] rfl h
theorem L_Md_isSo (l : Launch) (G : GE) (A : Nat → Prop) (hD : ∀ σ, va_D A (GW G σ)) {x1 x2 x3 : Int} {s : SS} {Q : Int → SS → Prop} (h : Sp_Md_isSo x1 x2 x3 s Q) : Met l y_Md_isSo (Cond.code y_Md_isSo prog_12_method_61_code 9 (some .boolean) :: lw_ok) ({ frames := 0, cells := 0, slots := 0, locals := 0 } : Room) (va_Pc [.ref (G.1 10), vI x1, vI x2, vI x3] (gB G s)) (va_Qi (fun (r : Int32) (s2 : SS) => ∃ x : Int, r = iI x ∧ Q x s2) (fun s2 t => gB G s2 t) A) 0 0 A := by
  refine met_z hD (by decide) ⟨rfl, rfl⟩ (Nat.le_of_ble_eq_true rfl) (lv := [(0, .ref (G.1 10)), (1, vI x1), (2, vI x2), (3, vI x3)]) rfl (fun F h1 h2 h3 hm ok hQ => ?_)
  subst h1 h2 h3
  have hDF := hD
  exact K_Md_isSo_e hDF hm ok hQ (h _ (fun _ _ _ _ _ hb => K_Md_isSo_6 hDF hm ok hQ hb))
theorem d_Md_digitOf_0 : decode prog_12_method_62_code 0 = .ok (.aload_n 0, 1) := by decide +kernel
theorem d_Md_digitOf_1 : decode prog_12_method_62_code 1 = .ok (.iload_n 2, 1) := by decide +kernel
theorem d_Md_digitOf_2 : decode prog_12_method_62_code 2 = .ok (.invokevirtual 372, 3) := by decide +kernel
theorem d_Md_digitOf_5 : decode prog_12_method_62_code 5 = .ok (.iconst 0, 1) := by decide +kernel
theorem d_Md_digitOf_6 : decode prog_12_method_62_code 6 = .ok (.istore_n 3, 1) := by decide +kernel
theorem d_Md_digitOf_7 : decode prog_12_method_62_code 7 = .ok (.iconst 0, 1) := by decide +kernel
theorem d_Md_digitOf_8 : decode prog_12_method_62_code 8 = .ok (.istore 4, 2) := by decide +kernel
theorem d_Md_digitOf_10 : decode prog_12_method_62_code 10 = .ok (.iload 4, 2) := by decide +kernel
theorem d_Md_digitOf_12 : decode prog_12_method_62_code 12 = .ok (.aload_n 0, 1) := by decide +kernel
theorem d_Md_digitOf_13 : decode prog_12_method_62_code 13 = .ok (.getfield 105, 3) := by decide +kernel
theorem d_Md_digitOf_16 : decode prog_12_method_62_code 16 = .ok (.iload_n 1, 1) := by decide +kernel
theorem d_Md_digitOf_17 : decode prog_12_method_62_code 17 = .ok (.iaload, 1) := by decide +kernel
theorem d_Md_digitOf_18 : decode prog_12_method_62_code 18 = .ok (.if_icmp .ge 50, 3) := by decide +kernel
theorem d_Md_digitOf_21 : decode prog_12_method_62_code 21 = .ok (.aload_n 0, 1) := by decide +kernel
theorem d_Md_digitOf_22 : decode prog_12_method_62_code 22 = .ok (.getfield 99, 3) := by decide +kernel
theorem d_Md_digitOf_25 : decode prog_12_method_62_code 25 = .ok (.bipush 8, 2) := by decide +kernel
theorem d_Md_digitOf_27 : decode prog_12_method_62_code 27 = .ok (.iload_n 1, 1) := by decide +kernel
theorem d_Md_digitOf_28 : decode prog_12_method_62_code 28 = .ok (.imul, 1) := by decide +kernel
theorem d_Md_digitOf_29 : decode prog_12_method_62_code 29 = .ok (.iload 4, 2) := by decide +kernel
theorem d_Md_digitOf_31 : decode prog_12_method_62_code 31 = .ok (.iadd, 1) := by decide +kernel
theorem d_Md_digitOf_32 : decode prog_12_method_62_code 32 = .ok (.iaload, 1) := by decide +kernel
theorem d_Md_digitOf_33 : decode prog_12_method_62_code 33 = .ok (.istore 5, 2) := by decide +kernel
theorem d_Md_digitOf_35 : decode prog_12_method_62_code 35 = .ok (.aload_n 0, 1) := by decide +kernel
theorem d_Md_digitOf_36 : decode prog_12_method_62_code 36 = .ok (.iload_n 1, 1) := by decide +kernel
theorem d_Md_digitOf_37 : decode prog_12_method_62_code 37 = .ok (.iload_n 3, 1) := by decide +kernel
theorem d_Md_digitOf_38 : decode prog_12_method_62_code 38 = .ok (.iload 5, 2) := by decide +kernel
theorem d_Md_digitOf_40 : decode prog_12_method_62_code 40 = .ok (.invokevirtual 375, 3) := by decide +kernel
theorem d_Md_digitOf_43 : decode prog_12_method_62_code 43 = .ok (.ifCond .eq 16, 3) := by decide +kernel
theorem d_Md_digitOf_46 : decode prog_12_method_62_code 46 = .ok (.aload_n 0, 1) := by decide +kernel
theorem d_Md_digitOf_47 : decode prog_12_method_62_code 47 = .ok (.getfield 102, 3) := by decide +kernel
theorem d_Md_digitOf_50 : decode prog_12_method_62_code 50 = .ok (.bipush 8, 2) := by decide +kernel
theorem d_Md_digitOf_52 : decode prog_12_method_62_code 52 = .ok (.iload_n 1, 1) := by decide +kernel
theorem d_Md_digitOf_53 : decode prog_12_method_62_code 53 = .ok (.imul, 1) := by decide +kernel
theorem d_Md_digitOf_54 : decode prog_12_method_62_code 54 = .ok (.iload 4, 2) := by decide +kernel
theorem d_Md_digitOf_56 : decode prog_12_method_62_code 56 = .ok (.iadd, 1) := by decide +kernel
theorem d_Md_digitOf_57 : decode prog_12_method_62_code 57 = .ok (.iaload, 1) := by decide +kernel
theorem d_Md_digitOf_58 : decode prog_12_method_62_code 58 = .ok (.ireturn, 1) := by decide +kernel
theorem d_Md_digitOf_59 : decode prog_12_method_62_code 59 = .ok (.iload 5, 2) := by decide +kernel
theorem d_Md_digitOf_61 : decode prog_12_method_62_code 61 = .ok (.istore_n 3, 1) := by decide +kernel
theorem d_Md_digitOf_62 : decode prog_12_method_62_code 62 = .ok (.iinc 4 1, 3) := by decide +kernel
theorem d_Md_digitOf_65 : decode prog_12_method_62_code 65 = .ok (.goto (-55), 3) := by decide +kernel
theorem d_Md_digitOf_68 : decode prog_12_method_62_code 68 = .ok (.aload_n 0, 1) := by decide +kernel
theorem d_Md_digitOf_69 : decode prog_12_method_62_code 69 = .ok (.getfield 108, 3) := by decide +kernel
theorem d_Md_digitOf_72 : decode prog_12_method_62_code 72 = .ok (.iload_n 1, 1) := by decide +kernel
theorem d_Md_digitOf_73 : decode prog_12_method_62_code 73 = .ok (.iaload, 1) := by decide +kernel
theorem d_Md_digitOf_74 : decode prog_12_method_62_code 74 = .ok (.ireturn, 1) := by decide +kernel
set_option maxHeartbeats 4000000 in
set_option maxRecDepth 100000 in
theorem K_Md_digitOf_10 {F : FT} (hD : ∀ σ, va_D F.2.2.1 (GW F.2.1 σ)) (hm : F.2.2.2.2.2.2.2.2.2.2.2.2.2.2.1 = 6) (ok : OkF F prog_12_method_62_code "LastSeenModel" ({ frames := 4, cells := 0, slots := 0, locals := 93 } : Room)) {Q : Int → SS → Prop} (hQ : RetI F Q) {x1 x3 x4 : Int} {s : SS} (h : B_Md_digitOf_10 Q (fun x1 x3 x4 s => AtS F 10 [(0, .ref (F.2.1.1 10)), (1, vI x1), (3, vI x3), (4, vI x4)] [] s) x1 x3 x4 s) : AtS F 10 [(0, .ref (F.2.1.1 10)), (1, vI x1), (3, vI x3), (4, vI x4)] [] s := by
  unfold B_Md_digitOf_10 at h
  refine r_iload ok 3 d_Md_digitOf_10 rfl ?_
  refine r_aload_n ok 0 d_Md_digitOf_12 rfl rfl ?_
  refine g_Md_clauses ok d_Md_digitOf_13 ?_
  refine r_iload_n ok 1 d_Md_digitOf_16 rfl rfl ?_
  refine r_iald ok 90 d_Md_digitOf_17 (by decide) rfl h.1 ?_
  replace h := h.2
  refine r_icmp_ge ok 68 d_Md_digitOf_18 (by decide) h.1 h.2.1 (fun c => ?_) (fun c => ?_)
  · replace h := h.2.2.1 c
    refine r_aload_n ok 0 d_Md_digitOf_68 rfl rfl ?_
    refine g_Md_elseDigit ok d_Md_digitOf_69 ?_
    refine r_iload_n ok 1 d_Md_digitOf_72 rfl rfl ?_
    refine r_iald ok 91 d_Md_digitOf_73 (by decide) rfl h.1 ?_
    replace h := h.2
    exact hQ _ _ _ _ _ (ok_code ok) d_Md_digitOf_74 h
  · replace h := h.2.2.2 c
    refine r_aload_n ok 0 d_Md_digitOf_21 rfl rfl ?_
    refine g_Md_clauseEnd ok d_Md_digitOf_22 ?_
    refine r_bipush ok 8 d_Md_digitOf_25 (by decide) ?_
    refine r_iload_n ok 1 d_Md_digitOf_27 rfl rfl ?_
    refine r_imul ok d_Md_digitOf_28 ?_
    refine r_iload ok 3 d_Md_digitOf_29 rfl ?_
    refine r_iadd ok d_Md_digitOf_31 ?_
    refine r_iald ok 88 d_Md_digitOf_32 (by decide) rfl h.1 ?_
    replace h := h.2
    refine r_istore ok [(5, vI (s.2 88 ((8 * x1) + x4))), (0, .ref (F.2.1.1 10)), (1, vI x1), (3, vI x3), (4, vI x4)] d_Md_digitOf_33 hm (by decide) rfl ?_
    refine r_aload_n ok 1 d_Md_digitOf_35 rfl rfl ?_
    refine r_iload_n ok 2 d_Md_digitOf_36 rfl rfl ?_
    refine r_iload_n ok 3 d_Md_digitOf_37 rfl rfl ?_
    refine r_iload ok 0 d_Md_digitOf_38 rfl ?_
    refine r_callVi (As := [vI x1, vI x3, vI (s.2 88 ((8 * x1) + x4))]) (rest := []) ok 10 rfl rfl rfl wl_Md_375 wi_y_Md_isSo ws_y_Md_isSo wn_Md wc_y_Md_isSo (by decide) (by decide) hh_Md_isSo (Nat.le_of_ble_eq_true rfl) rfl d_Md_digitOf_40 (L_Md_isSo F.1 F.2.1 F.2.2.1 hD h) (fun r3 s2 h => ?_)
    refine r_if_eq ok 59 d_Md_digitOf_43 (by decide) h.1 (fun c => ?_) (fun c => ?_)
    · replace h := h.2.1 c
      refine r_iload ok 0 d_Md_digitOf_59 rfl ?_
      refine r_istore_n ok [(3, vI (s.2 88 ((8 * x1) + x4))), (5, vI (s.2 88 ((8 * x1) + x4))), (0, .ref (F.2.1.1 10)), (1, vI x1), (4, vI x4)] d_Md_digitOf_61 rfl hm (by decide) rfl ?_
      refine r_iinc ok 4 (x4 + 1) [(4, vI (x4 + 1)), (3, vI (s.2 88 ((8 * x1) + x4))), (5, vI (s.2 88 ((8 * x1) + x4))), (0, .ref (F.2.1.1 10)), (1, vI x1)] d_Md_digitOf_62 rfl rfl hm (by decide) rfl ?_
      refine r_goto ok 10 d_Md_digitOf_65 (by decide) ?_
      exact r_sub [3, 4, 1, 0] rfl h
    · replace h := h.2.2 c
      refine r_aload_n ok 1 d_Md_digitOf_46 rfl rfl ?_
      refine g_Md_clauseDigit ok d_Md_digitOf_47 ?_
      refine r_bipush ok 8 d_Md_digitOf_50 (by decide) ?_
      refine r_iload_n ok 2 d_Md_digitOf_52 rfl rfl ?_
      refine r_imul ok d_Md_digitOf_53 ?_
      refine r_iload ok 4 d_Md_digitOf_54 rfl ?_
      refine r_iadd ok d_Md_digitOf_56 ?_
      refine r_iald ok 89 d_Md_digitOf_57 (by decide) rfl h.1 ?_
      replace h := h.2
      exact hQ _ _ _ _ _ (ok_code ok) d_Md_digitOf_58 h
set_option maxHeartbeats 4000000 in
set_option maxRecDepth 100000 in
theorem K_Md_digitOf_e {F : FT} (hD : ∀ σ, va_D F.2.2.1 (GW F.2.1 σ)) (hm : F.2.2.2.2.2.2.2.2.2.2.2.2.2.2.1 = 6) (ok : OkF F prog_12_method_62_code "LastSeenModel" ({ frames := 4, cells := 0, slots := 0, locals := 93 } : Room)) {Q : Int → SS → Prop} (hQ : RetI F Q) {x1 x2 : Int} {s : SS} (h : B_Md_digitOf_e Q (fun x1 x3 x4 s => AtS F 10 [(0, .ref (F.2.1.1 10)), (1, vI x1), (3, vI x3), (4, vI x4)] [] s) x1 x2 s) : AtS F 0 [(0, .ref (F.2.1.1 10)), (1, vI x1), (2, vI x2)] [] s := by
  unfold B_Md_digitOf_e at h
  refine r_aload_n ok 0 d_Md_digitOf_0 rfl rfl ?_
  refine r_iload_n ok 2 d_Md_digitOf_1 rfl rfl ?_
  refine r_callVv (As := [vI x2]) (rest := []) ok 10 rfl rfl rfl wl_Md_372 wi_y_Md_findFacts ws_y_Md_findFacts wn_Md wc_y_Md_findFacts (by decide) (by decide) hh_Md_findFacts (Nat.le_of_ble_eq_true rfl) rfl d_Md_digitOf_2 (L_Md_findFacts F.1 F.2.1 F.2.2.1 hD h) (fun s1 h => ?_)
  refine r_iconst ok 0 d_Md_digitOf_5 rfl ?_
  refine r_istore_n ok [(3, vI 0), (0, .ref (F.2.1.1 10)), (1, vI x1), (2, vI x2)] d_Md_digitOf_6 rfl hm (by decide) rfl ?_
  refine r_iconst ok 0 d_Md_digitOf_7 rfl ?_
  refine r_istore ok [(4, vI 0), (3, vI 0), (0, .ref (F.2.1.1 10)), (1, vI x1), (2, vI x2)] d_Md_digitOf_8 hm (by decide) rfl ?_
  exact r_sub [2, 3, 1, 0] rfl h
theorem L_Md_digitOf (l : Launch) (G : GE) (A : Nat → Prop) (hD : ∀ σ, va_D A (GW G σ)) {x1 x2 : Int} {s : SS} {Q : Int → SS → Prop} (h : Sp_Md_digitOf x1 x2 s Q) : Met l y_Md_digitOf (Cond.code y_Md_digitOf prog_12_method_62_code 6 (some .int) :: lw_ok) ({ frames := 4, cells := 0, slots := 0, locals := 93 } : Room) (va_Pc [.ref (G.1 10), vI x1, vI x2] (gB G s)) (va_Qi (fun (r : Int32) (s2 : SS) => ∃ x : Int, r = iI x ∧ Q x s2) (fun s2 t => gB G s2 t) A) 0 0 A := by
  refine met_i hD (by decide) ⟨rfl, rfl⟩ (Nat.le_of_ble_eq_true rfl) (lv := [(0, .ref (G.1 10)), (1, vI x1), (2, vI x2)]) rfl (fun F h1 h2 h3 hm ok hQ => ?_)
  subst h1 h2 h3
  have hDF := hD
  exact K_Md_digitOf_e hDF hm ok hQ (h _ (fun _ _ _ _ hb => K_Md_digitOf_10 hDF hm ok hQ hb))
end
