section
theorem d_Ru_afterClause_0 : decode prog_7_method_12_code 0 = .ok (.iload_n 1, 1) := by decide +kernel
theorem d_Ru_afterClause_1 : decode prog_7_method_12_code 1 = .ok (.bipush 59, 2) := by decide +kernel
theorem d_Ru_afterClause_3 : decode prog_7_method_12_code 3 = .ok (.if_icmp .eq 5, 3) := by decide +kernel
theorem d_Ru_afterClause_6 : decode prog_7_method_12_code 6 = .ok (.iconst (-1), 1) := by decide +kernel
theorem d_Ru_afterClause_7 : decode prog_7_method_12_code 7 = .ok (.ireturn, 1) := by decide +kernel
theorem d_Ru_afterClause_8 : decode prog_7_method_12_code 8 = .ok (.aload_n 0, 1) := by decide +kernel
theorem d_Ru_afterClause_9 : decode prog_7_method_12_code 9 = .ok (.dup, 1) := by decide +kernel
theorem d_Ru_afterClause_10 : decode prog_7_method_12_code 10 = .ok (.getfield 42, 3) := by decide +kernel
theorem d_Ru_afterClause_13 : decode prog_7_method_12_code 13 = .ok (.iconst 1, 1) := by decide +kernel
theorem d_Ru_afterClause_14 : decode prog_7_method_12_code 14 = .ok (.iadd, 1) := by decide +kernel
theorem d_Ru_afterClause_15 : decode prog_7_method_12_code 15 = .ok (.putfield 42, 3) := by decide +kernel
theorem d_Ru_afterClause_18 : decode prog_7_method_12_code 18 = .ok (.iconst 0, 1) := by decide +kernel
theorem d_Ru_afterClause_19 : decode prog_7_method_12_code 19 = .ok (.ireturn, 1) := by decide +kernel
set_option maxHeartbeats 4000000 in
set_option maxRecDepth 100000 in
theorem K_Ru_afterClause_e {F : FT} (hD : ∀ σ, va_D F.2.2.1 (GW F.2.1 σ)) (hm : F.2.2.2.2.2.2.2.2.2.2.2.2.2.2.1 = 2) (ok : OkF F prog_7_method_12_code "LastSeen$Rules" ({ frames := 0, cells := 0, slots := 0, locals := 0 } : Room)) {Q : Int → SS → Prop} (hQ : RetI F Q) {x1 : Int} {s : SS} (h : Sp_Ru_afterClause x1 s Q) : AtS F 0 [(0, .ref (F.2.1.1 7)), (1, vI x1)] [] s := by
  unfold Sp_Ru_afterClause at h
  refine r_iload_n ok 1 d_Ru_afterClause_0 rfl rfl ?_
  refine r_bipush ok 59 d_Ru_afterClause_1 (by decide) ?_
  refine r_icmp_eq ok 8 d_Ru_afterClause_3 (by decide) h.1 (by decide) (fun c => ?_) (fun c => ?_)
  · replace h := h.2.1 c
    refine r_aload_n ok 0 d_Ru_afterClause_8 rfl rfl ?_
    refine r_dup ok d_Ru_afterClause_9 rfl ?_
    refine g_Ru_clauses ok d_Ru_afterClause_10 ?_
    refine r_iconst ok 1 d_Ru_afterClause_13 rfl ?_
    refine r_iadd ok d_Ru_afterClause_14 ?_
    refine p_Ru_clauses ok d_Ru_afterClause_15 ?_
    replace h := h _ rfl
    generalize sF s 20 ((s.1 20) + 1) = s1 at h ⊢
    refine r_iconst ok 0 d_Ru_afterClause_18 rfl ?_
    exact hQ _ _ _ _ _ (ok_code ok) d_Ru_afterClause_19 h
  · replace h := h.2.2 c
    refine r_iconst ok (-1) d_Ru_afterClause_6 rfl ?_
    exact hQ _ _ _ _ _ (ok_code ok) d_Ru_afterClause_7 h
theorem L_Ru_afterClause (l : Launch) (G : GE) (A : Nat → Prop) (hD : ∀ σ, va_D A (GW G σ)) {x1 : Int} {s : SS} {Q : Int → SS → Prop} (h : Sp_Ru_afterClause x1 s Q) : Met l y_Ru_afterClause (Cond.code y_Ru_afterClause prog_7_method_12_code 2 (some .int) :: lw_ok) ({ frames := 0, cells := 0, slots := 0, locals := 0 } : Room) (va_Pc [.ref (G.1 7), vI x1] (gB G s)) (va_Qi (fun (r : Int32) (s2 : SS) => ∃ x : Int, r = iI x ∧ Q x s2) (fun s2 t => gB G s2 t) A) 0 0 A := by
  refine met_i hD (by decide) ⟨rfl, rfl⟩ (Nat.le_of_ble_eq_true rfl) (lv := [(0, .ref (G.1 7)), (1, vI x1)]) rfl (fun F h1 h2 h3 hm ok hQ => ?_)
  subst h1 h2 h3
  have hDF := hD
  exact K_Ru_afterClause_e hDF hm ok hQ h
theorem d_Ru_after_0 : decode prog_7_method_6_code 0 = .ok (.iload_n 1, 1) := by decide +kernel
theorem d_Ru_after_1 : decode prog_7_method_6_code 1 = .ok (.tableswitch 238 0 13 #[71, 77, 83, 96, 120, 126, 146, 152, 166, 172, 185, 198, 211, 224], 71) := by decide +kernel
theorem d_Ru_after_72 : decode prog_7_method_6_code 72 = .ok (.aload_n 0, 1) := by decide +kernel
theorem d_Ru_after_73 : decode prog_7_method_6_code 73 = .ok (.iload_n 2, 1) := by decide +kernel
theorem d_Ru_after_74 : decode prog_7_method_6_code 74 = .ok (.invokevirtual 56, 3) := by decide +kernel
theorem d_Ru_after_77 : decode prog_7_method_6_code 77 = .ok (.ireturn, 1) := by decide +kernel
theorem d_Ru_after_78 : decode prog_7_method_6_code 78 = .ok (.aload_n 0, 1) := by decide +kernel
theorem d_Ru_after_79 : decode prog_7_method_6_code 79 = .ok (.iload_n 2, 1) := by decide +kernel
theorem d_Ru_after_80 : decode prog_7_method_6_code 80 = .ok (.invokevirtual 59, 3) := by decide +kernel
theorem d_Ru_after_83 : decode prog_7_method_6_code 83 = .ok (.ireturn, 1) := by decide +kernel
theorem d_Ru_after_84 : decode prog_7_method_6_code 84 = .ok (.iload_n 2, 1) := by decide +kernel
theorem d_Ru_after_85 : decode prog_7_method_6_code 85 = .ok (.invokestatic 62, 3) := by decide +kernel
theorem d_Ru_after_88 : decode prog_7_method_6_code 88 = .ok (.ifCond .eq 7, 3) := by decide +kernel
theorem d_Ru_after_91 : decode prog_7_method_6_code 91 = .ok (.iconst 4, 1) := by decide +kernel
theorem d_Ru_after_92 : decode prog_7_method_6_code 92 = .ok (.goto 4, 3) := by decide +kernel
theorem d_Ru_after_95 : decode prog_7_method_6_code 95 = .ok (.iconst (-1), 1) := by decide +kernel
theorem d_Ru_after_96 : decode prog_7_method_6_code 96 = .ok (.ireturn, 1) := by decide +kernel
theorem d_Ru_after_97 : decode prog_7_method_6_code 97 = .ok (.iload_n 2, 1) := by decide +kernel
theorem d_Ru_after_98 : decode prog_7_method_6_code 98 = .ok (.bipush 108, 2) := by decide +kernel
theorem d_Ru_after_100 : decode prog_7_method_6_code 100 = .ok (.if_icmp .ne 8, 3) := by decide +kernel
theorem d_Ru_after_103 : decode prog_7_method_6_code 103 = .ok (.bipush 10, 2) := by decide +kernel
theorem d_Ru_after_105 : decode prog_7_method_6_code 105 = .ok (.goto 15, 3) := by decide +kernel
theorem d_Ru_after_108 : decode prog_7_method_6_code 108 = .ok (.iload_n 2, 1) := by decide +kernel
theorem d_Ru_after_109 : decode prog_7_method_6_code 109 = .ok (.invokestatic 62, 3) := by decide +kernel
theorem d_Ru_after_112 : decode prog_7_method_6_code 112 = .ok (.ifCond .eq 7, 3) := by decide +kernel
theorem d_Ru_after_115 : decode prog_7_method_6_code 115 = .ok (.iconst 4, 1) := by decide +kernel
theorem d_Ru_after_116 : decode prog_7_method_6_code 116 = .ok (.goto 4, 3) := by decide +kernel
theorem d_Ru_after_119 : decode prog_7_method_6_code 119 = .ok (.iconst (-1), 1) := by decide +kernel
theorem d_Ru_after_120 : decode prog_7_method_6_code 120 = .ok (.ireturn, 1) := by decide +kernel
theorem d_Ru_after_121 : decode prog_7_method_6_code 121 = .ok (.aload_n 0, 1) := by decide +kernel
theorem d_Ru_after_122 : decode prog_7_method_6_code 122 = .ok (.iload_n 2, 1) := by decide +kernel
theorem d_Ru_after_123 : decode prog_7_method_6_code 123 = .ok (.invokevirtual 66, 3) := by decide +kernel
theorem d_Ru_after_126 : decode prog_7_method_6_code 126 = .ok (.ireturn, 1) := by decide +kernel
theorem d_Ru_after_127 : decode prog_7_method_6_code 127 = .ok (.iload_n 2, 1) := by decide +kernel
theorem d_Ru_after_128 : decode prog_7_method_6_code 128 = .ok (.invokestatic 69, 3) := by decide +kernel
theorem d_Ru_after_131 : decode prog_7_method_6_code 131 = .ok (.ifCond .eq 10, 3) := by decide +kernel
theorem d_Ru_after_134 : decode prog_7_method_6_code 134 = .ok (.aload_n 0, 1) := by decide +kernel
theorem d_Ru_after_135 : decode prog_7_method_6_code 135 = .ok (.invokevirtual 72, 3) := by decide +kernel
theorem d_Ru_after_138 : decode prog_7_method_6_code 138 = .ok (.goto 8, 3) := by decide +kernel
theorem d_Ru_after_141 : decode prog_7_method_6_code 141 = .ok (.aload_n 0, 1) := by decide +kernel
theorem d_Ru_after_142 : decode prog_7_method_6_code 142 = .ok (.iload_n 2, 1) := by decide +kernel
theorem d_Ru_after_143 : decode prog_7_method_6_code 143 = .ok (.invokevirtual 75, 3) := by decide +kernel
theorem d_Ru_after_146 : decode prog_7_method_6_code 146 = .ok (.ireturn, 1) := by decide +kernel
theorem d_Ru_after_147 : decode prog_7_method_6_code 147 = .ok (.aload_n 0, 1) := by decide +kernel
theorem d_Ru_after_148 : decode prog_7_method_6_code 148 = .ok (.iload_n 2, 1) := by decide +kernel
theorem d_Ru_after_149 : decode prog_7_method_6_code 149 = .ok (.invokevirtual 75, 3) := by decide +kernel
theorem d_Ru_after_152 : decode prog_7_method_6_code 152 = .ok (.ireturn, 1) := by decide +kernel
theorem d_Ru_after_153 : decode prog_7_method_6_code 153 = .ok (.iload_n 2, 1) := by decide +kernel
theorem d_Ru_after_154 : decode prog_7_method_6_code 154 = .ok (.invokestatic 69, 3) := by decide +kernel
theorem d_Ru_after_157 : decode prog_7_method_6_code 157 = .ok (.ifCond .eq 8, 3) := by decide +kernel
theorem d_Ru_after_160 : decode prog_7_method_6_code 160 = .ok (.bipush 8, 2) := by decide +kernel
theorem d_Ru_after_162 : decode prog_7_method_6_code 162 = .ok (.goto 4, 3) := by decide +kernel
theorem d_Ru_after_165 : decode prog_7_method_6_code 165 = .ok (.iconst (-1), 1) := by decide +kernel
theorem d_Ru_after_166 : decode prog_7_method_6_code 166 = .ok (.ireturn, 1) := by decide +kernel
theorem d_Ru_after_167 : decode prog_7_method_6_code 167 = .ok (.aload_n 0, 1) := by decide +kernel
theorem d_Ru_after_168 : decode prog_7_method_6_code 168 = .ok (.iload_n 2, 1) := by decide +kernel
theorem d_Ru_after_169 : decode prog_7_method_6_code 169 = .ok (.invokevirtual 78, 3) := by decide +kernel
theorem d_Ru_after_172 : decode prog_7_method_6_code 172 = .ok (.ireturn, 1) := by decide +kernel
theorem d_Ru_after_173 : decode prog_7_method_6_code 173 = .ok (.iload_n 2, 1) := by decide +kernel
theorem d_Ru_after_174 : decode prog_7_method_6_code 174 = .ok (.bipush 108, 2) := by decide +kernel
theorem d_Ru_after_176 : decode prog_7_method_6_code 176 = .ok (.if_icmp .ne 8, 3) := by decide +kernel
theorem d_Ru_after_179 : decode prog_7_method_6_code 179 = .ok (.bipush 10, 2) := by decide +kernel
theorem d_Ru_after_181 : decode prog_7_method_6_code 181 = .ok (.goto 4, 3) := by decide +kernel
theorem d_Ru_after_184 : decode prog_7_method_6_code 184 = .ok (.iconst (-1), 1) := by decide +kernel
theorem d_Ru_after_185 : decode prog_7_method_6_code 185 = .ok (.ireturn, 1) := by decide +kernel
theorem d_Ru_after_186 : decode prog_7_method_6_code 186 = .ok (.iload_n 2, 1) := by decide +kernel
theorem d_Ru_after_187 : decode prog_7_method_6_code 187 = .ok (.bipush 115, 2) := by decide +kernel
theorem d_Ru_after_189 : decode prog_7_method_6_code 189 = .ok (.if_icmp .ne 8, 3) := by decide +kernel
theorem d_Ru_after_192 : decode prog_7_method_6_code 192 = .ok (.bipush 11, 2) := by decide +kernel
theorem d_Ru_after_194 : decode prog_7_method_6_code 194 = .ok (.goto 4, 3) := by decide +kernel
theorem d_Ru_after_197 : decode prog_7_method_6_code 197 = .ok (.iconst (-1), 1) := by decide +kernel
theorem d_Ru_after_198 : decode prog_7_method_6_code 198 = .ok (.ireturn, 1) := by decide +kernel
theorem d_Ru_after_199 : decode prog_7_method_6_code 199 = .ok (.iload_n 2, 1) := by decide +kernel
theorem d_Ru_after_200 : decode prog_7_method_6_code 200 = .ok (.bipush 101, 2) := by decide +kernel
theorem d_Ru_after_202 : decode prog_7_method_6_code 202 = .ok (.if_icmp .ne 8, 3) := by decide +kernel
theorem d_Ru_after_205 : decode prog_7_method_6_code 205 = .ok (.bipush 12, 2) := by decide +kernel
theorem d_Ru_after_207 : decode prog_7_method_6_code 207 = .ok (.goto 4, 3) := by decide +kernel
theorem d_Ru_after_210 : decode prog_7_method_6_code 210 = .ok (.iconst (-1), 1) := by decide +kernel
theorem d_Ru_after_211 : decode prog_7_method_6_code 211 = .ok (.ireturn, 1) := by decide +kernel
theorem d_Ru_after_212 : decode prog_7_method_6_code 212 = .ok (.iload_n 2, 1) := by decide +kernel
theorem d_Ru_after_213 : decode prog_7_method_6_code 213 = .ok (.bipush 62, 2) := by decide +kernel
theorem d_Ru_after_215 : decode prog_7_method_6_code 215 = .ok (.if_icmp .ne 8, 3) := by decide +kernel
theorem d_Ru_after_218 : decode prog_7_method_6_code 218 = .ok (.bipush 13, 2) := by decide +kernel
theorem d_Ru_after_220 : decode prog_7_method_6_code 220 = .ok (.goto 4, 3) := by decide +kernel
theorem d_Ru_after_223 : decode prog_7_method_6_code 223 = .ok (.iconst (-1), 1) := by decide +kernel
theorem d_Ru_after_224 : decode prog_7_method_6_code 224 = .ok (.ireturn, 1) := by decide +kernel
theorem d_Ru_after_225 : decode prog_7_method_6_code 225 = .ok (.iload_n 2, 1) := by decide +kernel
theorem d_Ru_after_226 : decode prog_7_method_6_code 226 = .ok (.invokestatic 69, 3) := by decide +kernel
theorem d_Ru_after_229 : decode prog_7_method_6_code 229 = .ok (.ifCond .eq 8, 3) := by decide +kernel
theorem d_Ru_after_232 : decode prog_7_method_6_code 232 = .ok (.bipush 14, 2) := by decide +kernel
theorem d_Ru_after_234 : decode prog_7_method_6_code 234 = .ok (.goto 4, 3) := by decide +kernel
theorem d_Ru_after_237 : decode prog_7_method_6_code 237 = .ok (.iconst (-1), 1) := by decide +kernel
theorem d_Ru_after_238 : decode prog_7_method_6_code 238 = .ok (.ireturn, 1) := by decide +kernel
theorem d_Ru_after_239 : decode prog_7_method_6_code 239 = .ok (.iconst (-1), 1) := by decide +kernel
theorem d_Ru_after_240 : decode prog_7_method_6_code 240 = .ok (.ireturn, 1) := by decide +kernel
set_option maxHeartbeats 4000000 in
set_option maxRecDepth 100000 in
theorem K_Ru_after_e {F : FT} (hD : ∀ σ, va_D F.2.2.1 (GW F.2.1 σ)) (hm : F.2.2.2.2.2.2.2.2.2.2.2.2.2.2.1 = 3) (ok : OkF F prog_7_method_6_code "LastSeen$Rules" ({ frames := 3, cells := 0, slots := 0, locals := 63 } : Room)) {Q : Int → SS → Prop} (hQ : RetI F Q) {x1 x2 : Int} {s : SS} (h : Sp_Ru_after x1 x2 s Q) : AtS F 0 [(0, .ref (F.2.1.1 7)), (1, vI x1), (2, vI x2)] [] s := by
  unfold Sp_Ru_after at h
  refine r_iload_n ok 1 d_Ru_after_0 rfl rfl ?_
  have hx := h.1
  replace h := h.2
  rcases Decidable.em (x1 = 0) with c0 | c0
  · replace h := h.1 c0
    refine r_tblIn ok 0 72 d_Ru_after_1 hx c0 (by decide) rfl (by decide) ?_
    refine r_aload_n ok 0 d_Ru_after_72 rfl rfl ?_
    refine r_iload_n ok 2 d_Ru_after_73 rfl rfl ?_
    refine r_callVi (As := [vI x2]) (rest := []) ok 7 rfl rfl rfl wl_Ru_56 wi_y_Ru_afterStart ws_y_Ru_afterStart wn_Ru wc_y_Ru_afterStart (by decide) (by decide) hh_Ru_afterStart (Nat.le_of_ble_eq_true rfl) rfl d_Ru_after_74 (L_Ru_afterStart F.1 F.2.1 F.2.2.1 hD h) (fun r2 s1 h => ?_)
    exact hQ _ _ _ _ _ (ok_code ok) d_Ru_after_77 h
  replace h := h.2
  rcases Decidable.em (x1 = 1) with c1 | c1
  · replace h := h.1 c1
    refine r_tblIn ok 1 78 d_Ru_after_1 hx c1 (by decide) rfl (by decide) ?_
    refine r_aload_n ok 0 d_Ru_after_78 rfl rfl ?_
    refine r_iload_n ok 2 d_Ru_after_79 rfl rfl ?_
    refine r_callVi (As := [vI x2]) (rest := []) ok 7 rfl rfl rfl wl_Ru_59 wi_y_Ru_afterOpening ws_y_Ru_afterOpening wn_Ru wc_y_Ru_afterOpening (by decide) (by decide) hh_Ru_afterOpening (Nat.le_of_ble_eq_true rfl) rfl d_Ru_after_80 (L_Ru_afterOpening F.1 F.2.1 F.2.2.1 hD h) (fun r4 s3 h => ?_)
    exact hQ _ _ _ _ _ (ok_code ok) d_Ru_after_83 h
  replace h := h.2
  rcases Decidable.em (x1 = 2) with c2 | c2
  · replace h := h.1 c2
    refine r_tblIn ok 2 84 d_Ru_after_1 hx c2 (by decide) rfl (by decide) ?_
    refine r_iload_n ok 2 d_Ru_after_84 rfl rfl ?_
    refine r_callSi (As := [vI x2]) (rest := []) ok wl_Ru_62 wt_y_Ru_isSign wn_Ru wc_y_Ru_isSign (by decide) (by decide) hh_Ru_isSign (Nat.le_of_ble_eq_true rfl) rfl d_Ru_after_85 (L_Ru_isSign F.1 F.2.1 F.2.2.1 hD h) (fun r6 s5 h => ?_)
    refine r_if_eq ok 95 d_Ru_after_88 (by decide) h.1 (fun c => ?_) (fun c => ?_)
    · replace h := h.2.1 c
      refine r_iconst ok (-1) d_Ru_after_95 rfl ?_
      exact hQ _ _ _ _ _ (ok_code ok) d_Ru_after_96 h
    · replace h := h.2.2 c
      refine r_iconst ok 4 d_Ru_after_91 rfl ?_
      refine r_goto ok 96 d_Ru_after_92 (by decide) ?_
      exact hQ _ _ _ _ _ (ok_code ok) d_Ru_after_96 h
  replace h := h.2
  rcases Decidable.em (x1 = 3) with c3 | c3
  · replace h := h.1 c3
    refine r_tblIn ok 3 97 d_Ru_after_1 hx c3 (by decide) rfl (by decide) ?_
    refine r_iload_n ok 2 d_Ru_after_97 rfl rfl ?_
    refine r_bipush ok 108 d_Ru_after_98 (by decide) ?_
    refine r_icmp_ne ok 108 d_Ru_after_100 (by decide) h.1 (by decide) (fun c => ?_) (fun c => ?_)
    · replace h := h.2.1 c
      refine r_iload_n ok 2 d_Ru_after_108 rfl rfl ?_
      refine r_callSi (As := [vI x2]) (rest := []) ok wl_Ru_62 wt_y_Ru_isSign wn_Ru wc_y_Ru_isSign (by decide) (by decide) hh_Ru_isSign (Nat.le_of_ble_eq_true rfl) rfl d_Ru_after_109 (L_Ru_isSign F.1 F.2.1 F.2.2.1 hD h) (fun r8 s7 h => ?_)
      refine r_if_eq ok 119 d_Ru_after_112 (by decide) h.1 (fun c => ?_) (fun c => ?_)
      · replace h := h.2.1 c
        refine r_iconst ok (-1) d_Ru_after_119 rfl ?_
        exact hQ _ _ _ _ _ (ok_code ok) d_Ru_after_120 h
      · replace h := h.2.2 c
        refine r_iconst ok 4 d_Ru_after_115 rfl ?_
        refine r_goto ok 120 d_Ru_after_116 (by decide) ?_
        exact hQ _ _ _ _ _ (ok_code ok) d_Ru_after_120 h
    · replace h := h.2.2 c
      refine r_bipush ok 10 d_Ru_after_103 (by decide) ?_
      refine r_goto ok 120 d_Ru_after_105 (by decide) ?_
      exact hQ _ _ _ _ _ (ok_code ok) d_Ru_after_120 h
  replace h := h.2
  rcases Decidable.em (x1 = 4) with c4 | c4
  · replace h := h.1 c4
    refine r_tblIn ok 4 121 d_Ru_after_1 hx c4 (by decide) rfl (by decide) ?_
    refine r_aload_n ok 0 d_Ru_after_121 rfl rfl ?_
    refine r_iload_n ok 2 d_Ru_after_122 rfl rfl ?_
    refine r_callVi (As := [vI x2]) (rest := []) ok 7 rfl rfl rfl wl_Ru_66 wi_y_Ru_afterFirstDigit ws_y_Ru_afterFirstDigit wn_Ru wc_y_Ru_afterFirstDigit (by decide) (by decide) hh_Ru_afterFirstDigit (Nat.le_of_ble_eq_true rfl) rfl d_Ru_after_123 (L_Ru_afterFirstDigit F.1 F.2.1 F.2.2.1 hD h) (fun r10 s9 h => ?_)
    exact hQ _ _ _ _ _ (ok_code ok) d_Ru_after_126 h
  replace h := h.2
  rcases Decidable.em (x1 = 5) with c5 | c5
  · replace h := h.1 c5
    refine r_tblIn ok 5 127 d_Ru_after_1 hx c5 (by decide) rfl (by decide) ?_
    refine r_iload_n ok 2 d_Ru_after_127 rfl rfl ?_
    refine r_callSi (As := [vI x2]) (rest := []) ok wl_Ru_69 wt_y_Ru_isDigit wn_Ru wc_y_Ru_isDigit (by decide) (by decide) hh_Ru_isDigit (Nat.le_of_ble_eq_true rfl) rfl d_Ru_after_128 (L_Ru_isDigit F.1 F.2.1 F.2.2.1 hD h) (fun r12 s11 h => ?_)
    refine r_if_eq ok 141 d_Ru_after_131 (by decide) h.1 (fun c => ?_) (fun c => ?_)
    · replace h := h.2.1 c
      refine r_aload_n ok 0 d_Ru_after_141 rfl rfl ?_
      refine r_iload_n ok 2 d_Ru_after_142 rfl rfl ?_
      refine r_callVi (As := [vI x2]) (rest := []) ok 7 rfl rfl rfl wl_Ru_75 wi_y_Ru_afterFact ws_y_Ru_afterFact wn_Ru wc_y_Ru_afterFact (by decide) (by decide) hh_Ru_afterFact (Nat.le_of_ble_eq_true rfl) rfl d_Ru_after_143 (L_Ru_afterFact F.1 F.2.1 F.2.2.1 hD h) (fun r14 s13 h => ?_)
      exact hQ _ _ _ _ _ (ok_code ok) d_Ru_after_146 h
    · replace h := h.2.2 c
      refine r_aload_n ok 0 d_Ru_after_134 rfl rfl ?_
      refine r_callVi (As := []) (rest := []) ok 7 rfl rfl rfl wl_Ru_72 wi_y_Ru_afterDigit ws_y_Ru_afterDigit wn_Ru wc_y_Ru_afterDigit (by decide) (by decide) hh_Ru_afterDigit (Nat.le_of_ble_eq_true rfl) rfl d_Ru_after_135 (L_Ru_afterDigit F.1 F.2.1 F.2.2.1 hD h) (fun r16 s15 h => ?_)
      refine r_goto ok 146 d_Ru_after_138 (by decide) ?_
      exact hQ _ _ _ _ _ (ok_code ok) d_Ru_after_146 h
  replace h := h.2
  rcases Decidable.em (x1 = 6) with c6 | c6
  · replace h := h.1 c6
    refine r_tblIn ok 6 147 d_Ru_after_1 hx c6 (by decide) rfl (by decide) ?_
    refine r_aload_n ok 0 d_Ru_after_147 rfl rfl ?_
    refine r_iload_n ok 2 d_Ru_after_148 rfl rfl ?_
    refine r_callVi (As := [vI x2]) (rest := []) ok 7 rfl rfl rfl wl_Ru_75 wi_y_Ru_afterFact ws_y_Ru_afterFact wn_Ru wc_y_Ru_afterFact (by decide) (by decide) hh_Ru_afterFact (Nat.le_of_ble_eq_true rfl) rfl d_Ru_after_149 (L_Ru_afterFact F.1 F.2.1 F.2.2.1 hD h) (fun r18 s17 h => ?_)
    exact hQ _ _ _ _ _ (ok_code ok) d_Ru_after_152 h
  replace h := h.2
  rcases Decidable.em (x1 = 7) with c7 | c7
  · replace h := h.1 c7
    refine r_tblIn ok 7 153 d_Ru_after_1 hx c7 (by decide) rfl (by decide) ?_
    refine r_iload_n ok 2 d_Ru_after_153 rfl rfl ?_
    refine r_callSi (As := [vI x2]) (rest := []) ok wl_Ru_69 wt_y_Ru_isDigit wn_Ru wc_y_Ru_isDigit (by decide) (by decide) hh_Ru_isDigit (Nat.le_of_ble_eq_true rfl) rfl d_Ru_after_154 (L_Ru_isDigit F.1 F.2.1 F.2.2.1 hD h) (fun r20 s19 h => ?_)
    refine r_if_eq ok 165 d_Ru_after_157 (by decide) h.1 (fun c => ?_) (fun c => ?_)
    · replace h := h.2.1 c
      refine r_iconst ok (-1) d_Ru_after_165 rfl ?_
      exact hQ _ _ _ _ _ (ok_code ok) d_Ru_after_166 h
    · replace h := h.2.2 c
      refine r_bipush ok 8 d_Ru_after_160 (by decide) ?_
      refine r_goto ok 166 d_Ru_after_162 (by decide) ?_
      exact hQ _ _ _ _ _ (ok_code ok) d_Ru_after_166 h
  replace h := h.2
  rcases Decidable.em (x1 = 8) with c8 | c8
  · replace h := h.1 c8
    refine r_tblIn ok 8 167 d_Ru_after_1 hx c8 (by decide) rfl (by decide) ?_
    refine r_aload_n ok 0 d_Ru_after_167 rfl rfl ?_
    refine r_iload_n ok 2 d_Ru_after_168 rfl rfl ?_
    refine r_callVi (As := [vI x2]) (rest := []) ok 7 rfl rfl rfl wl_Ru_78 wi_y_Ru_afterClause ws_y_Ru_afterClause wn_Ru wc_y_Ru_afterClause (by decide) (by decide) hh_Ru_afterClause (Nat.le_of_ble_eq_true rfl) rfl d_Ru_after_169 (L_Ru_afterClause F.1 F.2.1 F.2.2.1 hD h) (fun r22 s21 h => ?_)
    exact hQ _ _ _ _ _ (ok_code ok) d_Ru_after_172 h
  replace h := h.2
  rcases Decidable.em (x1 = 9) with c9 | c9
  · replace h := h.1 c9
    refine r_tblIn ok 9 173 d_Ru_after_1 hx c9 (by decide) rfl (by decide) ?_
    refine r_iload_n ok 2 d_Ru_after_173 rfl rfl ?_
    refine r_bipush ok 108 d_Ru_after_174 (by decide) ?_
    refine r_icmp_ne ok 184 d_Ru_after_176 (by decide) h.1 (by decide) (fun c => ?_) (fun c => ?_)
    · replace h := h.2.1 c
      refine r_iconst ok (-1) d_Ru_after_184 rfl ?_
      exact hQ _ _ _ _ _ (ok_code ok) d_Ru_after_185 h
    · replace h := h.2.2 c
      refine r_bipush ok 10 d_Ru_after_179 (by decide) ?_
      refine r_goto ok 185 d_Ru_after_181 (by decide) ?_
      exact hQ _ _ _ _ _ (ok_code ok) d_Ru_after_185 h
  replace h := h.2
  rcases Decidable.em (x1 = 10) with c10 | c10
  · replace h := h.1 c10
    refine r_tblIn ok 10 186 d_Ru_after_1 hx c10 (by decide) rfl (by decide) ?_
    refine r_iload_n ok 2 d_Ru_after_186 rfl rfl ?_
    refine r_bipush ok 115 d_Ru_after_187 (by decide) ?_
    refine r_icmp_ne ok 197 d_Ru_after_189 (by decide) h.1 (by decide) (fun c => ?_) (fun c => ?_)
    · replace h := h.2.1 c
      refine r_iconst ok (-1) d_Ru_after_197 rfl ?_
      exact hQ _ _ _ _ _ (ok_code ok) d_Ru_after_198 h
    · replace h := h.2.2 c
      refine r_bipush ok 11 d_Ru_after_192 (by decide) ?_
      refine r_goto ok 198 d_Ru_after_194 (by decide) ?_
      exact hQ _ _ _ _ _ (ok_code ok) d_Ru_after_198 h
  replace h := h.2
  rcases Decidable.em (x1 = 11) with c11 | c11
  · replace h := h.1 c11
    refine r_tblIn ok 11 199 d_Ru_after_1 hx c11 (by decide) rfl (by decide) ?_
    refine r_iload_n ok 2 d_Ru_after_199 rfl rfl ?_
    refine r_bipush ok 101 d_Ru_after_200 (by decide) ?_
    refine r_icmp_ne ok 210 d_Ru_after_202 (by decide) h.1 (by decide) (fun c => ?_) (fun c => ?_)
    · replace h := h.2.1 c
      refine r_iconst ok (-1) d_Ru_after_210 rfl ?_
      exact hQ _ _ _ _ _ (ok_code ok) d_Ru_after_211 h
    · replace h := h.2.2 c
      refine r_bipush ok 12 d_Ru_after_205 (by decide) ?_
      refine r_goto ok 211 d_Ru_after_207 (by decide) ?_
      exact hQ _ _ _ _ _ (ok_code ok) d_Ru_after_211 h
  replace h := h.2
  rcases Decidable.em (x1 = 12) with c12 | c12
  · replace h := h.1 c12
    refine r_tblIn ok 12 212 d_Ru_after_1 hx c12 (by decide) rfl (by decide) ?_
    refine r_iload_n ok 2 d_Ru_after_212 rfl rfl ?_
    refine r_bipush ok 62 d_Ru_after_213 (by decide) ?_
    refine r_icmp_ne ok 223 d_Ru_after_215 (by decide) h.1 (by decide) (fun c => ?_) (fun c => ?_)
    · replace h := h.2.1 c
      refine r_iconst ok (-1) d_Ru_after_223 rfl ?_
      exact hQ _ _ _ _ _ (ok_code ok) d_Ru_after_224 h
    · replace h := h.2.2 c
      refine r_bipush ok 13 d_Ru_after_218 (by decide) ?_
      refine r_goto ok 224 d_Ru_after_220 (by decide) ?_
      exact hQ _ _ _ _ _ (ok_code ok) d_Ru_after_224 h
  replace h := h.2
  rcases Decidable.em (x1 = 13) with c13 | c13
  · replace h := h.1 c13
    refine r_tblIn ok 13 225 d_Ru_after_1 hx c13 (by decide) rfl (by decide) ?_
    refine r_iload_n ok 2 d_Ru_after_225 rfl rfl ?_
    refine r_callSi (As := [vI x2]) (rest := []) ok wl_Ru_69 wt_y_Ru_isDigit wn_Ru wc_y_Ru_isDigit (by decide) (by decide) hh_Ru_isDigit (Nat.le_of_ble_eq_true rfl) rfl d_Ru_after_226 (L_Ru_isDigit F.1 F.2.1 F.2.2.1 hD h) (fun r24 s23 h => ?_)
    refine r_if_eq ok 237 d_Ru_after_229 (by decide) h.1 (fun c => ?_) (fun c => ?_)
    · replace h := h.2.1 c
      refine r_iconst ok (-1) d_Ru_after_237 rfl ?_
      exact hQ _ _ _ _ _ (ok_code ok) d_Ru_after_238 h
    · replace h := h.2.2 c
      refine r_bipush ok 14 d_Ru_after_232 (by decide) ?_
      refine r_goto ok 238 d_Ru_after_234 (by decide) ?_
      exact hQ _ _ _ _ _ (ok_code ok) d_Ru_after_238 h
  replace h := h.2
  replace h := h c0 c1 c2 c3 c4 c5 c6 c7 c8 c9 c10 c11 c12 c13
  refine r_tblOut ok 239 d_Ru_after_1 hx (by omega) (by decide) ?_
  refine r_iconst ok (-1) d_Ru_after_239 rfl ?_
  exact hQ _ _ _ _ _ (ok_code ok) d_Ru_after_240 h
theorem L_Ru_after (l : Launch) (G : GE) (A : Nat → Prop) (hD : ∀ σ, va_D A (GW G σ)) {x1 x2 : Int} {s : SS} {Q : Int → SS → Prop} (h : Sp_Ru_after x1 x2 s Q) : Met l y_Ru_after (Cond.code y_Ru_after prog_7_method_6_code 3 (some .int) :: lw_ok) ({ frames := 3, cells := 0, slots := 0, locals := 63 } : Room) (va_Pc [.ref (G.1 7), vI x1, vI x2] (gB G s)) (va_Qi (fun (r : Int32) (s2 : SS) => ∃ x : Int, r = iI x ∧ Q x s2) (fun s2 t => gB G s2 t) A) 0 0 A := by
  refine met_i hD (by decide) ⟨rfl, rfl⟩ (Nat.le_of_ble_eq_true rfl) (lv := [(0, .ref (G.1 7)), (1, vI x1), (2, vI x2)]) rfl (fun F h1 h2 h3 hm ok hQ => ?_)
  subst h1 h2 h3
  have hDF := hD
  exact K_Ru_after_e hDF hm ok hQ h
theorem d_Ru_check_0 : decode prog_7_method_3_code 0 = .ok (.iconst 0, 1) := by decide +kernel
theorem d_Ru_check_1 : decode prog_7_method_3_code 1 = .ok (.istore_n 2, 1) := by decide +kernel
theorem d_Ru_check_2 : decode prog_7_method_3_code 2 = .ok (.aload_n 0, 1) := by decide +kernel
theorem d_Ru_check_3 : decode prog_7_method_3_code 3 = .ok (.iconst 0, 1) := by decide +kernel
theorem d_Ru_check_4 : decode prog_7_method_3_code 4 = .ok (.putfield 39, 3) := by decide +kernel
theorem d_Ru_check_7 : decode prog_7_method_3_code 7 = .ok (.aload_n 0, 1) := by decide +kernel
theorem d_Ru_check_8 : decode prog_7_method_3_code 8 = .ok (.iconst 0, 1) := by decide +kernel
theorem d_Ru_check_9 : decode prog_7_method_3_code 9 = .ok (.putfield 42, 3) := by decide +kernel
theorem d_Ru_check_12 : decode prog_7_method_3_code 12 = .ok (.iconst 0, 1) := by decide +kernel
theorem d_Ru_check_13 : decode prog_7_method_3_code 13 = .ok (.istore_n 3, 1) := by decide +kernel
theorem d_Ru_check_14 : decode prog_7_method_3_code 14 = .ok (.iload_n 3, 1) := by decide +kernel
theorem d_Ru_check_15 : decode prog_7_method_3_code 15 = .ok (.aload_n 1, 1) := by decide +kernel
theorem d_Ru_check_16 : decode prog_7_method_3_code 16 = .ok (.invokevirtual 45, 3) := by decide +kernel
theorem d_Ru_check_19 : decode prog_7_method_3_code 19 = .ok (.if_icmp .ge 30, 3) := by decide +kernel
theorem d_Ru_check_22 : decode prog_7_method_3_code 22 = .ok (.aload_n 0, 1) := by decide +kernel
theorem d_Ru_check_23 : decode prog_7_method_3_code 23 = .ok (.iload_n 2, 1) := by decide +kernel
theorem d_Ru_check_24 : decode prog_7_method_3_code 24 = .ok (.aload_n 1, 1) := by decide +kernel
theorem d_Ru_check_25 : decode prog_7_method_3_code 25 = .ok (.iload_n 3, 1) := by decide +kernel
theorem d_Ru_check_26 : decode prog_7_method_3_code 26 = .ok (.invokevirtual 48, 3) := by decide +kernel
theorem d_Ru_check_29 : decode prog_7_method_3_code 29 = .ok (.invokevirtual 52, 3) := by decide +kernel
theorem d_Ru_check_32 : decode prog_7_method_3_code 32 = .ok (.istore_n 2, 1) := by decide +kernel
theorem d_Ru_check_33 : decode prog_7_method_3_code 33 = .ok (.iload_n 2, 1) := by decide +kernel
theorem d_Ru_check_34 : decode prog_7_method_3_code 34 = .ok (.iconst (-1), 1) := by decide +kernel
theorem d_Ru_check_35 : decode prog_7_method_3_code 35 = .ok (.if_icmp .ne 8, 3) := by decide +kernel
theorem d_Ru_check_38 : decode prog_7_method_3_code 38 = .ok (.bipush (-10), 2) := by decide +kernel
theorem d_Ru_check_40 : decode prog_7_method_3_code 40 = .ok (.iload_n 3, 1) := by decide +kernel
theorem d_Ru_check_41 : decode prog_7_method_3_code 41 = .ok (.isub, 1) := by decide +kernel
theorem d_Ru_check_42 : decode prog_7_method_3_code 42 = .ok (.ireturn, 1) := by decide +kernel
theorem d_Ru_check_43 : decode prog_7_method_3_code 43 = .ok (.iinc 3 1, 3) := by decide +kernel
theorem d_Ru_check_46 : decode prog_7_method_3_code 46 = .ok (.goto (-32), 3) := by decide +kernel
theorem d_Ru_check_49 : decode prog_7_method_3_code 49 = .ok (.iload_n 2, 1) := by decide +kernel
theorem d_Ru_check_50 : decode prog_7_method_3_code 50 = .ok (.bipush 14, 2) := by decide +kernel
theorem d_Ru_check_52 : decode prog_7_method_3_code 52 = .ok (.if_icmp .ne 12, 3) := by decide +kernel
theorem d_Ru_check_55 : decode prog_7_method_3_code 55 = .ok (.aload_n 0, 1) := by decide +kernel
theorem d_Ru_check_56 : decode prog_7_method_3_code 56 = .ok (.getfield 42, 3) := by decide +kernel
theorem d_Ru_check_59 : decode prog_7_method_3_code 59 = .ok (.iconst 1, 1) := by decide +kernel
theorem d_Ru_check_60 : decode prog_7_method_3_code 60 = .ok (.iadd, 1) := by decide +kernel
theorem d_Ru_check_61 : decode prog_7_method_3_code 61 = .ok (.goto 10, 3) := by decide +kernel
theorem d_Ru_check_64 : decode prog_7_method_3_code 64 = .ok (.bipush (-10), 2) := by decide +kernel
theorem d_Ru_check_66 : decode prog_7_method_3_code 66 = .ok (.aload_n 1, 1) := by decide +kernel
theorem d_Ru_check_67 : decode prog_7_method_3_code 67 = .ok (.invokevirtual 45, 3) := by decide +kernel
theorem d_Ru_check_70 : decode prog_7_method_3_code 70 = .ok (.isub, 1) := by decide +kernel
theorem d_Ru_check_71 : decode prog_7_method_3_code 71 = .ok (.ireturn, 1) := by decide +kernel
set_option maxHeartbeats 4000000 in
set_option maxRecDepth 100000 in
theorem K_Ru_check_14 {F : FT} (hD : ∀ σ, va_D F.2.2.1 (GW F.2.1 σ)) (hm : F.2.2.2.2.2.2.2.2.2.2.2.2.2.2.1 = 4) (ok : OkF F prog_7_method_3_code "LastSeen$Rules" ({ frames := 4, cells := 0, slots := 0, locals := 85 } : Room)) {Q : Int → SS → Prop} (hQ : RetI F Q) {x2 x3 : Int} {s : SS} (h : B_Ru_check_14 Q (fun x2 x3 s => AtS F 14 [(0, .ref (F.2.1.1 7)), (1, .ref (F.2.1.1 2)), (2, vI x2), (3, vI x3)] [] s) x2 x3 s) : AtS F 14 [(0, .ref (F.2.1.1 7)), (1, .ref (F.2.1.1 2)), (2, vI x2), (3, vI x3)] [] s := by
  unfold B_Ru_check_14 at h
  refine r_iload_n ok 3 d_Ru_check_14 rfl rfl ?_
  refine r_aload_n ok 1 d_Ru_check_15 rfl rfl ?_
  refine r_callVi (As := []) (rest := [vI x3]) ok 2 rfl rfl rfl wl_Ru_45 wi_y_Ta_size ws_y_Ta_size wn_Ta wc_y_Ta_size (by decide) (by decide) hh_Ta_size (Nat.le_of_ble_eq_true rfl) rfl d_Ru_check_16 (L_Ta_size F.1 F.2.1 F.2.2.1 hD h) (fun r4 s3 h => ?_)
  refine r_icmp_ge ok 49 d_Ru_check_19 (by decide) h.1 h.2.1 (fun c => ?_) (fun c => ?_)
  · replace h := h.2.2.1 c
    refine r_iload_n ok 2 d_Ru_check_49 rfl rfl ?_
    refine r_bipush ok 14 d_Ru_check_50 (by decide) ?_
    refine r_icmp_ne ok 64 d_Ru_check_52 (by decide) h.1 (by decide) (fun c => ?_) (fun c => ?_)
    · replace h := h.2.1 c
      refine r_bipush ok (-10) d_Ru_check_64 (by decide) ?_
      refine r_aload_n ok 1 d_Ru_check_66 rfl rfl ?_
      refine r_callVi (As := []) (rest := [vI (-10)]) ok 2 rfl rfl rfl wl_Ru_45 wi_y_Ta_size ws_y_Ta_size wn_Ta wc_y_Ta_size (by decide) (by decide) hh_Ta_size (Nat.le_of_ble_eq_true rfl) rfl d_Ru_check_67 (L_Ta_size F.1 F.2.1 F.2.2.1 hD h) (fun r6 s5 h => ?_)
      refine r_isub ok d_Ru_check_70 ?_
      exact hQ _ _ _ _ _ (ok_code ok) d_Ru_check_71 h
    · replace h := h.2.2 c
      refine r_aload_n ok 0 d_Ru_check_55 rfl rfl ?_
      refine g_Ru_clauses ok d_Ru_check_56 ?_
      refine r_iconst ok 1 d_Ru_check_59 rfl ?_
      refine r_iadd ok d_Ru_check_60 ?_
      refine r_goto ok 71 d_Ru_check_61 (by decide) ?_
      exact hQ _ _ _ _ _ (ok_code ok) d_Ru_check_71 h
  · replace h := h.2.2.2 c
    refine r_aload_n ok 0 d_Ru_check_22 rfl rfl ?_
    refine r_iload_n ok 2 d_Ru_check_23 rfl rfl ?_
    refine r_aload_n ok 1 d_Ru_check_24 rfl rfl ?_
    refine r_iload_n ok 3 d_Ru_check_25 rfl rfl ?_
    refine r_callVi (As := [vI x3]) (rest := [vI x2, .ref (F.2.1.1 7)]) ok 2 rfl rfl rfl wl_Ru_48 wi_y_Ta_at ws_y_Ta_at wn_Ta wc_y_Ta_at (by decide) (by decide) hh_Ta_at (Nat.le_of_ble_eq_true rfl) rfl d_Ru_check_26 (L_Ta_at F.1 F.2.1 F.2.2.1 hD h) (fun r8 s7 h => ?_)
    refine r_callVi (As := [vI x2, vI r8]) (rest := []) ok 7 rfl rfl rfl wl_Ru_52 wi_y_Ru_after ws_y_Ru_after wn_Ru wc_y_Ru_after (by decide) (by decide) hh_Ru_after (Nat.le_of_ble_eq_true rfl) rfl d_Ru_check_29 (L_Ru_after F.1 F.2.1 F.2.2.1 hD h) (fun r10 s9 h => ?_)
    refine r_istore_n ok [(2, vI r10), (0, .ref (F.2.1.1 7)), (1, .ref (F.2.1.1 2)), (3, vI x3)] d_Ru_check_32 rfl hm (by decide) rfl ?_
    refine r_iload_n ok 0 d_Ru_check_33 rfl rfl ?_
    refine r_iconst ok (-1) d_Ru_check_34 rfl ?_
    refine r_icmp_ne ok 43 d_Ru_check_35 (by decide) h.1 (by decide) (fun c => ?_) (fun c => ?_)
    · replace h := h.2.1 c
      refine r_iinc ok 3 (x3 + 1) [(3, vI (x3 + 1)), (2, vI r10), (0, .ref (F.2.1.1 7)), (1, .ref (F.2.1.1 2))] d_Ru_check_43 rfl rfl hm (by decide) rfl ?_
      refine r_goto ok 14 d_Ru_check_46 (by decide) ?_
      exact r_sub [2, 3, 1, 0] rfl h
    · replace h := h.2.2 c
      refine r_bipush ok (-10) d_Ru_check_38 (by decide) ?_
      refine r_iload_n ok 3 d_Ru_check_40 rfl rfl ?_
      refine r_isub ok d_Ru_check_41 ?_
      exact hQ _ _ _ _ _ (ok_code ok) d_Ru_check_42 h
set_option maxHeartbeats 4000000 in
set_option maxRecDepth 100000 in
theorem K_Ru_check_e {F : FT} (hD : ∀ σ, va_D F.2.2.1 (GW F.2.1 σ)) (hm : F.2.2.2.2.2.2.2.2.2.2.2.2.2.2.1 = 4) (ok : OkF F prog_7_method_3_code "LastSeen$Rules" ({ frames := 4, cells := 0, slots := 0, locals := 85 } : Room)) {Q : Int → SS → Prop} (hQ : RetI F Q) {s : SS} (h : B_Ru_check_e Q (fun x2 x3 s => AtS F 14 [(0, .ref (F.2.1.1 7)), (1, .ref (F.2.1.1 2)), (2, vI x2), (3, vI x3)] [] s)  s) : AtS F 0 [(0, .ref (F.2.1.1 7)), (1, .ref (F.2.1.1 2))] [] s := by
  unfold B_Ru_check_e at h
  refine r_iconst ok 0 d_Ru_check_0 rfl ?_
  refine r_istore_n ok [(2, vI 0), (0, .ref (F.2.1.1 7)), (1, .ref (F.2.1.1 2))] d_Ru_check_1 rfl hm (by decide) rfl ?_
  refine r_aload_n ok 1 d_Ru_check_2 rfl rfl ?_
  refine r_iconst ok 0 d_Ru_check_3 rfl ?_
  refine p_Ru_depth ok d_Ru_check_4 ?_
  replace h := h _ rfl
  generalize sF s 19 0 = s1 at h ⊢
  refine r_aload_n ok 1 d_Ru_check_7 rfl rfl ?_
  refine r_iconst ok 0 d_Ru_check_8 rfl ?_
  refine p_Ru_clauses ok d_Ru_check_9 ?_
  replace h := h _ rfl
  generalize sF s1 20 0 = s2 at h ⊢
  refine r_iconst ok 0 d_Ru_check_12 rfl ?_
  refine r_istore_n ok [(3, vI 0), (2, vI 0), (0, .ref (F.2.1.1 7)), (1, .ref (F.2.1.1 2))] d_Ru_check_13 rfl hm (by decide) rfl ?_
  exact r_sub [2, 3, 1, 0] rfl h
theorem L_Ru_check (l : Launch) (G : GE) (A : Nat → Prop) (hD : ∀ σ, va_D A (GW G σ)) {s : SS} {Q : Int → SS → Prop} (h : Sp_Ru_check  s Q) : Met l y_Ru_check (Cond.code y_Ru_check prog_7_method_3_code 4 (some .int) :: lw_ok) ({ frames := 4, cells := 0, slots := 0, locals := 85 } : Room) (va_Pc [.ref (G.1 7), .ref (G.1 2)] (gB G s)) (va_Qi (fun (r : Int32) (s2 : SS) => ∃ x : Int, r = iI x ∧ Q x s2) (fun s2 t => gB G s2 t) A) 0 0 A := by
  refine met_i hD (by decide) ⟨rfl, rfl⟩ (Nat.le_of_ble_eq_true rfl) (lv := [(0, .ref (G.1 7)), (1, .ref (G.1 2))]) rfl (fun F h1 h2 h3 hm ok hQ => ?_)
  subst h1 h2 h3
  have hDF := hD
  exact K_Ru_check_e hDF hm ok hQ (h _ (fun _ _ _ hb => K_Ru_check_14 hDF hm ok hQ hb))
theorem d_Ru_enter_0 : decode prog_7_method_4_code 0 = .ok (.iconst 0, 1) := by decide +kernel
theorem d_Ru_enter_1 : decode prog_7_method_4_code 1 = .ok (.istore 4, 2) := by decide +kernel
theorem d_Ru_enter_3 : decode prog_7_method_4_code 3 = .ok (.iload 4, 2) := by decide +kernel
theorem d_Ru_enter_5 : decode prog_7_method_4_code 5 = .ok (.aload_n 1, 1) := by decide +kernel
theorem d_Ru_enter_6 : decode prog_7_method_4_code 6 = .ok (.invokevirtual 45, 3) := by decide +kernel
theorem d_Ru_enter_9 : decode prog_7_method_4_code 9 = .ok (.if_icmp .ge 32, 3) := by decide +kernel
theorem d_Ru_enter_12 : decode prog_7_method_4_code 12 = .ok (.aload_n 0, 1) := by decide +kernel
theorem d_Ru_enter_13 : decode prog_7_method_4_code 13 = .ok (.getfield 11, 3) := by decide +kernel
theorem d_Ru_enter_16 : decode prog_7_method_4_code 16 = .ok (.aload_n 0, 1) := by decide +kernel
theorem d_Ru_enter_17 : decode prog_7_method_4_code 17 = .ok (.getfield 35, 3) := by decide +kernel
theorem d_Ru_enter_20 : decode prog_7_method_4_code 20 = .ok (.sipush 200, 3) := by decide +kernel
theorem d_Ru_enter_23 : decode prog_7_method_4_code 23 = .ok (.imul, 1) := by decide +kernel
theorem d_Ru_enter_24 : decode prog_7_method_4_code 24 = .ok (.iload 4, 2) := by decide +kernel
theorem d_Ru_enter_26 : decode prog_7_method_4_code 26 = .ok (.iadd, 1) := by decide +kernel
theorem d_Ru_enter_27 : decode prog_7_method_4_code 27 = .ok (.aload_n 1, 1) := by decide +kernel
theorem d_Ru_enter_28 : decode prog_7_method_4_code 28 = .ok (.iload 4, 2) := by decide +kernel
theorem d_Ru_enter_30 : decode prog_7_method_4_code 30 = .ok (.invokevirtual 48, 3) := by decide +kernel
theorem d_Ru_enter_33 : decode prog_7_method_4_code 33 = .ok (.i2b, 1) := by decide +kernel
theorem d_Ru_enter_34 : decode prog_7_method_4_code 34 = .ok (.bastore, 1) := by decide +kernel
theorem d_Ru_enter_35 : decode prog_7_method_4_code 35 = .ok (.iinc 4 1, 3) := by decide +kernel
theorem d_Ru_enter_38 : decode prog_7_method_4_code 38 = .ok (.goto (-35), 3) := by decide +kernel
theorem d_Ru_enter_41 : decode prog_7_method_4_code 41 = .ok (.aload_n 0, 1) := by decide +kernel
theorem d_Ru_enter_42 : decode prog_7_method_4_code 42 = .ok (.getfield 15, 3) := by decide +kernel
theorem d_Ru_enter_45 : decode prog_7_method_4_code 45 = .ok (.aload_n 0, 1) := by decide +kernel
theorem d_Ru_enter_46 : decode prog_7_method_4_code 46 = .ok (.getfield 35, 3) := by decide +kernel
theorem d_Ru_enter_49 : decode prog_7_method_4_code 49 = .ok (.aload_n 1, 1) := by decide +kernel
theorem d_Ru_enter_50 : decode prog_7_method_4_code 50 = .ok (.invokevirtual 45, 3) := by decide +kernel
theorem d_Ru_enter_53 : decode prog_7_method_4_code 53 = .ok (.iastore, 1) := by decide +kernel
theorem d_Ru_enter_54 : decode prog_7_method_4_code 54 = .ok (.aload_n 0, 1) := by decide +kernel
theorem d_Ru_enter_55 : decode prog_7_method_4_code 55 = .ok (.getfield 19, 3) := by decide +kernel
theorem d_Ru_enter_58 : decode prog_7_method_4_code 58 = .ok (.aload_n 0, 1) := by decide +kernel
theorem d_Ru_enter_59 : decode prog_7_method_4_code 59 = .ok (.getfield 35, 3) := by decide +kernel
theorem d_Ru_enter_62 : decode prog_7_method_4_code 62 = .ok (.iload_n 2, 1) := by decide +kernel
theorem d_Ru_enter_63 : decode prog_7_method_4_code 63 = .ok (.iastore, 1) := by decide +kernel
theorem d_Ru_enter_64 : decode prog_7_method_4_code 64 = .ok (.aload_n 0, 1) := by decide +kernel
theorem d_Ru_enter_65 : decode prog_7_method_4_code 65 = .ok (.getfield 22, 3) := by decide +kernel
theorem d_Ru_enter_68 : decode prog_7_method_4_code 68 = .ok (.aload_n 0, 1) := by decide +kernel
theorem d_Ru_enter_69 : decode prog_7_method_4_code 69 = .ok (.getfield 35, 3) := by decide +kernel
theorem d_Ru_enter_72 : decode prog_7_method_4_code 72 = .ok (.iload_n 3, 1) := by decide +kernel
theorem d_Ru_enter_73 : decode prog_7_method_4_code 73 = .ok (.iastore, 1) := by decide +kernel
theorem d_Ru_enter_74 : decode prog_7_method_4_code 74 = .ok (.aload_n 0, 1) := by decide +kernel
theorem d_Ru_enter_75 : decode prog_7_method_4_code 75 = .ok (.dup, 1) := by decide +kernel
theorem d_Ru_enter_76 : decode prog_7_method_4_code 76 = .ok (.getfield 35, 3) := by decide +kernel
theorem d_Ru_enter_79 : decode prog_7_method_4_code 79 = .ok (.iconst 1, 1) := by decide +kernel
theorem d_Ru_enter_80 : decode prog_7_method_4_code 80 = .ok (.iadd, 1) := by decide +kernel
theorem d_Ru_enter_81 : decode prog_7_method_4_code 81 = .ok (.putfield 35, 3) := by decide +kernel
theorem d_Ru_enter_84 : decode prog_7_method_4_code 84 = .ok (.return_, 1) := by decide +kernel
set_option maxHeartbeats 4000000 in
set_option maxRecDepth 100000 in
theorem K_Ru_enter_3 {F : FT} (hD : ∀ σ, va_D F.2.2.1 (GW F.2.1 σ)) (hm : F.2.2.2.2.2.2.2.2.2.2.2.2.2.2.1 = 5) (ok : OkF F prog_7_method_4_code "LastSeen$Rules" ({ frames := 1, cells := 0, slots := 0, locals := 21 } : Room)) {Q : SS → Prop} (hQ : RetV F Q) {x2 x3 x4 : Int} {s : SS} (h : B_Ru_enter_3 Q (fun x2 x3 x4 s => AtS F 3 [(0, .ref (F.2.1.1 7)), (1, .ref (F.2.1.1 2)), (2, vI x2), (3, vI x3), (4, vI x4)] [] s) x2 x3 x4 s) : AtS F 3 [(0, .ref (F.2.1.1 7)), (1, .ref (F.2.1.1 2)), (2, vI x2), (3, vI x3), (4, vI x4)] [] s := by
  unfold B_Ru_enter_3 at h
  refine r_iload ok 4 d_Ru_enter_3 rfl ?_
  refine r_aload_n ok 1 d_Ru_enter_5 rfl rfl ?_
  refine r_callVi (As := []) (rest := [vI x4]) ok 2 rfl rfl rfl wl_Ru_45 wi_y_Ta_size ws_y_Ta_size wn_Ta wc_y_Ta_size (by decide) (by decide) hh_Ta_size (Nat.le_of_ble_eq_true rfl) rfl d_Ru_enter_6 (L_Ta_size F.1 F.2.1 F.2.2.1 hD h) (fun r2 s1 h => ?_)
  refine r_icmp_ge ok 41 d_Ru_enter_9 (by decide) h.1 h.2.1 (fun c => ?_) (fun c => ?_)
  · replace h := h.2.2.1 c
    refine r_aload_n ok 0 d_Ru_enter_41 rfl rfl ?_
    refine g_Ru_sizes ok d_Ru_enter_42 ?_
    refine r_aload_n ok 0 d_Ru_enter_45 rfl rfl ?_
    refine g_Ru_size ok d_Ru_enter_46 ?_
    refine r_aload_n ok 1 d_Ru_enter_49 rfl rfl ?_
    refine r_callVi (As := []) (rest := [vI (s1.1 18), .ref (F.2.1.1 48)]) ok 2 rfl rfl rfl wl_Ru_45 wi_y_Ta_size ws_y_Ta_size wn_Ta wc_y_Ta_size (by decide) (by decide) hh_Ta_size (Nat.le_of_ble_eq_true rfl) rfl d_Ru_enter_50 (L_Ta_size F.1 F.2.1 F.2.2.1 hD h) (fun r4 s3 h => ?_)
    refine r_iast ok 37 d_Ru_enter_53 (by decide) rfl h.1 ?_
    replace h := h.2 _ rfl
    generalize sA s3 37 (s1.1 18) r4 = s5 at h ⊢
    refine r_aload_n ok 0 d_Ru_enter_54 rfl rfl ?_
    refine g_Ru_clauseCounts ok d_Ru_enter_55 ?_
    refine r_aload_n ok 0 d_Ru_enter_58 rfl rfl ?_
    refine g_Ru_size ok d_Ru_enter_59 ?_
    refine r_iload_n ok 2 d_Ru_enter_62 rfl rfl ?_
    refine r_iast ok 38 d_Ru_enter_63 (by decide) rfl h.1 ?_
    replace h := h.2 _ rfl
    generalize sA s5 38 (s5.1 18) x2 = s6 at h ⊢
    refine r_aload_n ok 0 d_Ru_enter_64 rfl rfl ?_
    refine g_Ru_enteredAt ok d_Ru_enter_65 ?_
    refine r_aload_n ok 0 d_Ru_enter_68 rfl rfl ?_
    refine g_Ru_size ok d_Ru_enter_69 ?_
    refine r_iload_n ok 3 d_Ru_enter_72 rfl rfl ?_
    refine r_iast ok 39 d_Ru_enter_73 (by decide) rfl h.1 ?_
    replace h := h.2 _ rfl
    generalize sA s6 39 (s6.1 18) x3 = s7 at h ⊢
    refine r_aload_n ok 0 d_Ru_enter_74 rfl rfl ?_
    refine r_dup ok d_Ru_enter_75 rfl ?_
    refine g_Ru_size ok d_Ru_enter_76 ?_
    refine r_iconst ok 1 d_Ru_enter_79 rfl ?_
    refine r_iadd ok d_Ru_enter_80 ?_
    refine p_Ru_size ok d_Ru_enter_81 ?_
    replace h := h _ rfl
    generalize sF s7 18 ((s7.1 18) + 1) = s8 at h ⊢
    exact hQ _ _ _ _ (ok_code ok) d_Ru_enter_84 h
  · replace h := h.2.2.2 c
    refine r_aload_n ok 0 d_Ru_enter_12 rfl rfl ?_
    refine g_Ru_texts ok d_Ru_enter_13 ?_
    refine r_aload_n ok 0 d_Ru_enter_16 rfl rfl ?_
    refine g_Ru_size ok d_Ru_enter_17 ?_
    refine r_sipush ok 200 d_Ru_enter_20 (by decide) ?_
    refine r_imul ok d_Ru_enter_23 ?_
    refine r_iload ok 4 d_Ru_enter_24 rfl ?_
    refine r_iadd ok d_Ru_enter_26 ?_
    refine r_aload_n ok 1 d_Ru_enter_27 rfl rfl ?_
    refine r_iload ok 4 d_Ru_enter_28 rfl ?_
    refine r_callVi (As := [vI x4]) (rest := [vI (((s1.1 18) * 200) + x4), .ref (F.2.1.1 47)]) ok 2 rfl rfl rfl wl_Ru_48 wi_y_Ta_at ws_y_Ta_at wn_Ta wc_y_Ta_at (by decide) (by decide) hh_Ta_at (Nat.le_of_ble_eq_true rfl) rfl d_Ru_enter_30 (L_Ta_at F.1 F.2.1 F.2.2.1 hD h) (fun r10 s9 h => ?_)
    refine r_i2b ok d_Ru_enter_33 ?_
    refine r_bast ok 36 d_Ru_enter_34 (by decide) rfl h.1 (i2b_rng _) ?_
    replace h := h.2 _ rfl
    generalize sA s9 36 (((s1.1 18) * 200) + x4) (i2b r10) = s11 at h ⊢
    refine r_iinc ok 4 (x4 + 1) [(4, vI (x4 + 1)), (0, .ref (F.2.1.1 7)), (1, .ref (F.2.1.1 2)), (2, vI x2), (3, vI x3)] d_Ru_enter_35 rfl rfl hm (by decide) rfl ?_
    refine r_goto ok 3 d_Ru_enter_38 (by decide) ?_
    exact r_sub [1, 2, 3, 4, 0] rfl h
set_option maxHeartbeats 4000000 in
set_option maxRecDepth 100000 in
theorem K_Ru_enter_e {F : FT} (hD : ∀ σ, va_D F.2.2.1 (GW F.2.1 σ)) (hm : F.2.2.2.2.2.2.2.2.2.2.2.2.2.2.1 = 5) (ok : OkF F prog_7_method_4_code "LastSeen$Rules" ({ frames := 1, cells := 0, slots := 0, locals := 21 } : Room)) {Q : SS → Prop} (hQ : RetV F Q) {x2 x3 : Int} {s : SS} (h : B_Ru_enter_e Q (fun x2 x3 x4 s => AtS F 3 [(0, .ref (F.2.1.1 7)), (1, .ref (F.2.1.1 2)), (2, vI x2), (3, vI x3), (4, vI x4)] [] s) x2 x3 s) : AtS F 0 [(0, .ref (F.2.1.1 7)), (1, .ref (F.2.1.1 2)), (2, vI x2), (3, vI x3)] [] s := by
  unfold B_Ru_enter_e at h
  refine r_iconst ok 0 d_Ru_enter_0 rfl ?_
  refine r_istore ok [(4, vI 0), (0, .ref (F.2.1.1 7)), (1, .ref (F.2.1.1 2)), (2, vI x2), (3, vI x3)] d_Ru_enter_1 hm (by decide) rfl ?_
  exact r_sub [1, 2, 3, 4, 0] rfl h
theorem L_Ru_enter (l : Launch) (G : GE) (A : Nat → Prop) (hD : ∀ σ, va_D A (GW G σ)) {x2 x3 : Int} {s : SS} {Q : SS → Prop} (h : Sp_Ru_enter x2 x3 s Q) : Met l y_Ru_enter (Cond.code y_Ru_enter prog_7_method_4_code 5 (none) :: lw_ok) ({ frames := 1, cells := 0, slots := 0, locals := 21 } : Room) (va_Pc [.ref (G.1 7), .ref (G.1 2), vI x2, vI x3] (gB G s)) (va_Qv (fun (s2 : SS) => Q s2) (fun s2 t => gB G s2 t) A) 0 0 A := by
  refine met_v hD (by decide) ⟨rfl, rfl⟩ (Nat.le_of_ble_eq_true rfl) (lv := [(0, .ref (G.1 7)), (1, .ref (G.1 2)), (2, vI x2), (3, vI x3)]) rfl (fun F h1 h2 h3 hm ok hQ => ?_)
  subst h1 h2 h3
  have hDF := hD
  exact K_Ru_enter_e hDF hm ok hQ (h _ (fun _ _ _ _ hb => K_Ru_enter_3 hDF hm ok hQ hb))
theorem d_LS_rule_0 : decode prog_1_method_21_code 0 = .ok (.aload_n 0, 1) := by decide +kernel
theorem d_LS_rule_1 : decode prog_1_method_21_code 1 = .ok (.getfield 54, 3) := by decide +kernel
theorem d_LS_rule_4 : decode prog_1_method_21_code 4 = .ok (.invokevirtual 255, 3) := by decide +kernel
theorem d_LS_rule_7 : decode prog_1_method_21_code 7 = .ok (.bipush 20, 2) := by decide +kernel
theorem d_LS_rule_9 : decode prog_1_method_21_code 9 = .ok (.if_icmp .ge 10, 3) := by decide +kernel
theorem d_LS_rule_12 : decode prog_1_method_21_code 12 = .ok (.aload_n 0, 1) := by decide +kernel
theorem d_LS_rule_13 : decode prog_1_method_21_code 13 = .ok (.invokevirtual 119, 3) := by decide +kernel
theorem d_LS_rule_16 : decode prog_1_method_21_code 16 = .ok (.ifCond .eq 6, 3) := by decide +kernel
theorem d_LS_rule_19 : decode prog_1_method_21_code 19 = .ok (.bipush (-4), 2) := by decide +kernel
theorem d_LS_rule_21 : decode prog_1_method_21_code 21 = .ok (.ireturn, 1) := by decide +kernel
theorem d_LS_rule_22 : decode prog_1_method_21_code 22 = .ok (.aload_n 0, 1) := by decide +kernel
theorem d_LS_rule_23 : decode prog_1_method_21_code 23 = .ok (.getfield 54, 3) := by decide +kernel
theorem d_LS_rule_26 : decode prog_1_method_21_code 26 = .ok (.aload_n 0, 1) := by decide +kernel
theorem d_LS_rule_27 : decode prog_1_method_21_code 27 = .ok (.getfield 19, 3) := by decide +kernel
theorem d_LS_rule_30 : decode prog_1_method_21_code 30 = .ok (.invokevirtual 256, 3) := by decide +kernel
theorem d_LS_rule_33 : decode prog_1_method_21_code 33 = .ok (.istore_n 1, 1) := by decide +kernel
theorem d_LS_rule_34 : decode prog_1_method_21_code 34 = .ok (.iload_n 1, 1) := by decide +kernel
theorem d_LS_rule_35 : decode prog_1_method_21_code 35 = .ok (.ifCond .le 29, 3) := by decide +kernel
theorem d_LS_rule_38 : decode prog_1_method_21_code 38 = .ok (.aload_n 0, 1) := by decide +kernel
theorem d_LS_rule_39 : decode prog_1_method_21_code 39 = .ok (.getfield 54, 3) := by decide +kernel
theorem d_LS_rule_42 : decode prog_1_method_21_code 42 = .ok (.aload_n 0, 1) := by decide +kernel
theorem d_LS_rule_43 : decode prog_1_method_21_code 43 = .ok (.getfield 19, 3) := by decide +kernel
theorem d_LS_rule_46 : decode prog_1_method_21_code 46 = .ok (.iload_n 1, 1) := by decide +kernel
theorem d_LS_rule_47 : decode prog_1_method_21_code 47 = .ok (.aload_n 0, 1) := by decide +kernel
theorem d_LS_rule_48 : decode prog_1_method_21_code 48 = .ok (.getfield 122, 3) := by decide +kernel
theorem d_LS_rule_51 : decode prog_1_method_21_code 51 = .ok (.invokevirtual 260, 3) := by decide +kernel
theorem d_LS_rule_54 : decode prog_1_method_21_code 54 = .ok (.aload_n 0, 1) := by decide +kernel
theorem d_LS_rule_55 : decode prog_1_method_21_code 55 = .ok (.dup, 1) := by decide +kernel
theorem d_LS_rule_56 : decode prog_1_method_21_code 56 = .ok (.getfield 122, 3) := by decide +kernel
theorem d_LS_rule_59 : decode prog_1_method_21_code 59 = .ok (.iconst 1, 1) := by decide +kernel
theorem d_LS_rule_60 : decode prog_1_method_21_code 60 = .ok (.iadd, 1) := by decide +kernel
theorem d_LS_rule_61 : decode prog_1_method_21_code 61 = .ok (.putfield 122, 3) := by decide +kernel
theorem d_LS_rule_64 : decode prog_1_method_21_code 64 = .ok (.aload_n 0, 1) := by decide +kernel
theorem d_LS_rule_65 : decode prog_1_method_21_code 65 = .ok (.getfield 19, 3) := by decide +kernel
theorem d_LS_rule_68 : decode prog_1_method_21_code 68 = .ok (.invokevirtual 130, 3) := by decide +kernel
theorem d_LS_rule_71 : decode prog_1_method_21_code 71 = .ok (.iload_n 1, 1) := by decide +kernel
theorem d_LS_rule_72 : decode prog_1_method_21_code 72 = .ok (.ireturn, 1) := by decide +kernel
set_option maxHeartbeats 4000000 in
set_option maxRecDepth 100000 in
theorem K_LS_rule_e {F : FT} (hD : ∀ σ, va_D F.2.2.1 (GW F.2.1 σ)) (hm : F.2.2.2.2.2.2.2.2.2.2.2.2.2.2.1 = 2) (ok : OkF F prog_1_method_21_code "LastSeen" ({ frames := 5, cells := 0, slots := 0, locals := 108 } : Room)) {Q : Int → SS → Prop} (hQ : RetI F Q) {s : SS} (h : Sp_LS_rule  s Q) : AtS F 0 [(0, .ref (F.2.1.1 0))] [] s := by
  unfold Sp_LS_rule at h
  refine r_aload_n ok 0 d_LS_rule_0 rfl rfl ?_
  refine g_LS_rules ok d_LS_rule_1 ?_
  refine r_callVi (As := []) (rest := []) ok 7 rfl rfl rfl wl_LS_255 wi_y_Ru_size ws_y_Ru_size wn_Ru wc_y_Ru_size (by decide) (by decide) hh_Ru_size (Nat.le_of_ble_eq_true rfl) rfl d_LS_rule_4 (L_Ru_size F.1 F.2.1 F.2.2.1 hD h) (fun r2 s1 h => ?_)
  refine r_bipush ok 20 d_LS_rule_7 (by decide) ?_
  refine r_icmp_ge ok 19 d_LS_rule_9 (by decide) h.1 (by decide) (fun c => ?_) (fun c => ?_)
  · replace h := h.2.1 c
    refine r_bipush ok (-4) d_LS_rule_19 (by decide) ?_
    exact hQ _ _ _ _ _ (ok_code ok) d_LS_rule_21 h
  · replace h := h.2.2 c
    refine r_aload_n ok 0 d_LS_rule_12 rfl rfl ?_
    refine r_callVi (As := []) (rest := []) ok 0 rfl rfl rfl wl_LS_119 wi_y_LS_bookIsFull ws_y_LS_bookIsFull wn_LS wc_y_LS_bookIsFull (by decide) (by decide) hh_LS_bookIsFull (Nat.le_of_ble_eq_true rfl) rfl d_LS_rule_13 (L_LS_bookIsFull F.1 F.2.1 F.2.2.1 hD h) (fun r4 s3 h => ?_)
    refine r_if_eq ok 22 d_LS_rule_16 (by decide) h.1 (fun c => ?_) (fun c => ?_)
    · replace h := h.2.1 c
      refine r_aload_n ok 0 d_LS_rule_22 rfl rfl ?_
      refine g_LS_rules ok d_LS_rule_23 ?_
      refine r_aload_n ok 0 d_LS_rule_26 rfl rfl ?_
      refine g_LS_tape ok d_LS_rule_27 ?_
      refine r_callVi (As := [.ref (F.2.1.1 2)]) (rest := []) ok 7 rfl rfl rfl wl_LS_256 wi_y_Ru_check ws_y_Ru_check wn_Ru wc_y_Ru_check (by decide) (by decide) hh_Ru_check (Nat.le_of_ble_eq_true rfl) rfl d_LS_rule_30 (L_Ru_check F.1 F.2.1 F.2.2.1 hD h) (fun r6 s5 h => ?_)
      refine r_istore_n ok [(1, vI r6), (0, .ref (F.2.1.1 0))] d_LS_rule_33 rfl hm (by decide) rfl ?_
      refine r_iload_n ok 0 d_LS_rule_34 rfl rfl ?_
      refine r_if_le ok 64 d_LS_rule_35 (by decide) h.1 (fun c => ?_) (fun c => ?_)
      · replace h := h.2.1 c
        refine r_aload_n ok 1 d_LS_rule_64 rfl rfl ?_
        refine g_LS_tape ok d_LS_rule_65 ?_
        refine r_callVv (As := []) (rest := []) ok 2 rfl rfl rfl wl_LS_130 wi_y_Ta_empty ws_y_Ta_empty wn_Ta wc_y_Ta_empty (by decide) (by decide) hh_Ta_empty (Nat.le_of_ble_eq_true rfl) rfl d_LS_rule_68 (L_Ta_empty F.1 F.2.1 F.2.2.1 hD h) (fun s7 h => ?_)
        refine r_iload_n ok 0 d_LS_rule_71 rfl rfl ?_
        exact hQ _ _ _ _ _ (ok_code ok) d_LS_rule_72 h
      · replace h := h.2.2 c
        refine r_aload_n ok 1 d_LS_rule_38 rfl rfl ?_
        refine g_LS_rules ok d_LS_rule_39 ?_
        refine r_aload_n ok 1 d_LS_rule_42 rfl rfl ?_
        refine g_LS_tape ok d_LS_rule_43 ?_
        refine r_iload_n ok 0 d_LS_rule_46 rfl rfl ?_
        refine r_aload_n ok 1 d_LS_rule_47 rfl rfl ?_
        refine g_LS_entries ok d_LS_rule_48 ?_
        refine r_callVv (As := [.ref (F.2.1.1 2), vI r6, vI (s5.1 1)]) (rest := []) ok 7 rfl rfl rfl wl_LS_260 wi_y_Ru_enter ws_y_Ru_enter wn_Ru wc_y_Ru_enter (by decide) (by decide) hh_Ru_enter (Nat.le_of_ble_eq_true rfl) rfl d_LS_rule_51 (L_Ru_enter F.1 F.2.1 F.2.2.1 hD h) (fun s8 h => ?_)
        refine r_aload_n ok 1 d_LS_rule_54 rfl rfl ?_
        refine r_dup ok d_LS_rule_55 rfl ?_
        refine g_LS_entries ok d_LS_rule_56 ?_
        refine r_iconst ok 1 d_LS_rule_59 rfl ?_
        refine r_iadd ok d_LS_rule_60 ?_
        refine p_LS_entries ok d_LS_rule_61 ?_
        replace h := h _ rfl
        generalize sF s8 1 ((s8.1 1) + 1) = s9 at h ⊢
        refine r_aload_n ok 1 d_LS_rule_64 rfl rfl ?_
        refine g_LS_tape ok d_LS_rule_65 ?_
        refine r_callVv (As := []) (rest := []) ok 2 rfl rfl rfl wl_LS_130 wi_y_Ta_empty ws_y_Ta_empty wn_Ta wc_y_Ta_empty (by decide) (by decide) hh_Ta_empty (Nat.le_of_ble_eq_true rfl) rfl d_LS_rule_68 (L_Ta_empty F.1 F.2.1 F.2.2.1 hD h) (fun s10 h => ?_)
        refine r_iload_n ok 0 d_LS_rule_71 rfl rfl ?_
        exact hQ _ _ _ _ _ (ok_code ok) d_LS_rule_72 h
    · replace h := h.2.2 c
      refine r_bipush ok (-4) d_LS_rule_19 (by decide) ?_
      exact hQ _ _ _ _ _ (ok_code ok) d_LS_rule_21 h
theorem L_LS_rule (l : Launch) (G : GE) (A : Nat → Prop) (hD : ∀ σ, va_D A (GW G σ)) {s : SS} {Q : Int → SS → Prop} (h : Sp_LS_rule  s Q) : Met l y_LS_rule (Cond.code y_LS_rule prog_1_method_21_code 2 (some .int) :: lw_ok) ({ frames := 5, cells := 0, slots := 0, locals := 108 } : Room) (va_Pc [.ref (G.1 0)] (gB G s)) (va_Qi (fun (r : Int32) (s2 : SS) => ∃ x : Int, r = iI x ∧ Q x s2) (fun s2 t => gB G s2 t) A) 0 0 A := by
  refine met_i hD (by decide) ⟨rfl, rfl⟩ (Nat.le_of_ble_eq_true rfl) (lv := [(0, .ref (G.1 0))]) rfl (fun F h1 h2 h3 hm ok hQ => ?_)
  subst h1 h2 h3
  have hDF := hD
  exact K_LS_rule_e hDF hm ok hQ h
theorem d_Ru_latestBy_0 : decode prog_7_method_5_code 0 = .ok (.iconst (-1), 1) := by decide +kernel
theorem d_Ru_latestBy_1 : decode prog_7_method_5_code 1 = .ok (.istore_n 2, 1) := by decide +kernel
theorem d_Ru_latestBy_2 : decode prog_7_method_5_code 2 = .ok (.iconst 0, 1) := by decide +kernel
theorem d_Ru_latestBy_3 : decode prog_7_method_5_code 3 = .ok (.istore_n 3, 1) := by decide +kernel
theorem d_Ru_latestBy_4 : decode prog_7_method_5_code 4 = .ok (.iload_n 3, 1) := by decide +kernel
theorem d_Ru_latestBy_5 : decode prog_7_method_5_code 5 = .ok (.aload_n 0, 1) := by decide +kernel
theorem d_Ru_latestBy_6 : decode prog_7_method_5_code 6 = .ok (.getfield 35, 3) := by decide +kernel
theorem d_Ru_latestBy_9 : decode prog_7_method_5_code 9 = .ok (.if_icmp .ge 21, 3) := by decide +kernel
theorem d_Ru_latestBy_12 : decode prog_7_method_5_code 12 = .ok (.aload_n 0, 1) := by decide +kernel
theorem d_Ru_latestBy_13 : decode prog_7_method_5_code 13 = .ok (.getfield 22, 3) := by decide +kernel
theorem d_Ru_latestBy_16 : decode prog_7_method_5_code 16 = .ok (.iload_n 3, 1) := by decide +kernel
theorem d_Ru_latestBy_17 : decode prog_7_method_5_code 17 = .ok (.iaload, 1) := by decide +kernel
theorem d_Ru_latestBy_18 : decode prog_7_method_5_code 18 = .ok (.iload_n 1, 1) := by decide +kernel
theorem d_Ru_latestBy_19 : decode prog_7_method_5_code 19 = .ok (.if_icmp .ge 5, 3) := by decide +kernel
theorem d_Ru_latestBy_22 : decode prog_7_method_5_code 22 = .ok (.iload_n 3, 1) := by decide +kernel
theorem d_Ru_latestBy_23 : decode prog_7_method_5_code 23 = .ok (.istore_n 2, 1) := by decide +kernel
theorem d_Ru_latestBy_24 : decode prog_7_method_5_code 24 = .ok (.iinc 3 1, 3) := by decide +kernel
theorem d_Ru_latestBy_27 : decode prog_7_method_5_code 27 = .ok (.goto (-23), 3) := by decide +kernel
theorem d_Ru_latestBy_30 : decode prog_7_method_5_code 30 = .ok (.iload_n 2, 1) := by decide +kernel
theorem d_Ru_latestBy_31 : decode prog_7_method_5_code 31 = .ok (.ireturn, 1) := by decide +kernel
set_option maxHeartbeats 4000000 in
set_option maxRecDepth 100000 in
theorem K_Ru_latestBy_4 {F : FT} (hD : ∀ σ, va_D F.2.2.1 (GW F.2.1 σ)) (hm : F.2.2.2.2.2.2.2.2.2.2.2.2.2.2.1 = 4) (ok : OkF F prog_7_method_5_code "LastSeen$Rules" ({ frames := 0, cells := 0, slots := 0, locals := 0 } : Room)) {Q : Int → SS → Prop} (hQ : RetI F Q) {x1 x2 x3 : Int} {s : SS} (h : B_Ru_latestBy_4 Q (fun x1 x2 x3 s => AtS F 4 [(0, .ref (F.2.1.1 7)), (1, vI x1), (2, vI x2), (3, vI x3)] [] s) x1 x2 x3 s) : AtS F 4 [(0, .ref (F.2.1.1 7)), (1, vI x1), (2, vI x2), (3, vI x3)] [] s := by
  unfold B_Ru_latestBy_4 at h
  refine r_iload_n ok 3 d_Ru_latestBy_4 rfl rfl ?_
  refine r_aload_n ok 0 d_Ru_latestBy_5 rfl rfl ?_
  refine g_Ru_size ok d_Ru_latestBy_6 ?_
  refine r_icmp_ge ok 30 d_Ru_latestBy_9 (by decide) h.1 h.2.1 (fun c => ?_) (fun c => ?_)
  · replace h := h.2.2.1 c
    refine r_iload_n ok 2 d_Ru_latestBy_30 rfl rfl ?_
    exact hQ _ _ _ _ _ (ok_code ok) d_Ru_latestBy_31 h
  · replace h := h.2.2.2 c
    refine r_aload_n ok 0 d_Ru_latestBy_12 rfl rfl ?_
    refine g_Ru_enteredAt ok d_Ru_latestBy_13 ?_
    refine r_iload_n ok 3 d_Ru_latestBy_16 rfl rfl ?_
    refine r_iald ok 39 d_Ru_latestBy_17 (by decide) rfl h.1 ?_
    replace h := h.2
    refine r_iload_n ok 1 d_Ru_latestBy_18 rfl rfl ?_
    refine r_icmp_ge ok 24 d_Ru_latestBy_19 (by decide) h.1 h.2.1 (fun c => ?_) (fun c => ?_)
    · replace h := h.2.2.1 c
      refine r_iinc ok 3 (x3 + 1) [(3, vI (x3 + 1)), (0, .ref (F.2.1.1 7)), (1, vI x1), (2, vI x2)] d_Ru_latestBy_24 rfl rfl hm (by decide) rfl ?_
      refine r_goto ok 4 d_Ru_latestBy_27 (by decide) ?_
      exact r_sub [1, 2, 3, 0] rfl h
    · replace h := h.2.2.2 c
      refine r_iload_n ok 3 d_Ru_latestBy_22 rfl rfl ?_
      refine r_istore_n ok [(2, vI x3), (0, .ref (F.2.1.1 7)), (1, vI x1), (3, vI x3)] d_Ru_latestBy_23 rfl hm (by decide) rfl ?_
      refine r_iinc ok 3 (x3 + 1) [(3, vI (x3 + 1)), (2, vI x3), (0, .ref (F.2.1.1 7)), (1, vI x1)] d_Ru_latestBy_24 rfl rfl hm (by decide) rfl ?_
      refine r_goto ok 4 d_Ru_latestBy_27 (by decide) ?_
      exact r_sub [2, 3, 1, 0] rfl h
set_option maxHeartbeats 4000000 in
set_option maxRecDepth 100000 in
theorem K_Ru_latestBy_e {F : FT} (hD : ∀ σ, va_D F.2.2.1 (GW F.2.1 σ)) (hm : F.2.2.2.2.2.2.2.2.2.2.2.2.2.2.1 = 4) (ok : OkF F prog_7_method_5_code "LastSeen$Rules" ({ frames := 0, cells := 0, slots := 0, locals := 0 } : Room)) {Q : Int → SS → Prop} (hQ : RetI F Q) {x1 : Int} {s : SS} (h : B_Ru_latestBy_e Q (fun x1 x2 x3 s => AtS F 4 [(0, .ref (F.2.1.1 7)), (1, vI x1), (2, vI x2), (3, vI x3)] [] s) x1 s) : AtS F 0 [(0, .ref (F.2.1.1 7)), (1, vI x1)] [] s := by
  unfold B_Ru_latestBy_e at h
  refine r_iconst ok (-1) d_Ru_latestBy_0 rfl ?_
  refine r_istore_n ok [(2, vI (-1)), (0, .ref (F.2.1.1 7)), (1, vI x1)] d_Ru_latestBy_1 rfl hm (by decide) rfl ?_
  refine r_iconst ok 0 d_Ru_latestBy_2 rfl ?_
  refine r_istore_n ok [(3, vI 0), (2, vI (-1)), (0, .ref (F.2.1.1 7)), (1, vI x1)] d_Ru_latestBy_3 rfl hm (by decide) rfl ?_
  exact r_sub [2, 3, 1, 0] rfl h
theorem L_Ru_latestBy (l : Launch) (G : GE) (A : Nat → Prop) (hD : ∀ σ, va_D A (GW G σ)) {x1 : Int} {s : SS} {Q : Int → SS → Prop} (h : Sp_Ru_latestBy x1 s Q) : Met l y_Ru_latestBy (Cond.code y_Ru_latestBy prog_7_method_5_code 4 (some .int) :: lw_ok) ({ frames := 0, cells := 0, slots := 0, locals := 0 } : Room) (va_Pc [.ref (G.1 7), vI x1] (gB G s)) (va_Qi (fun (r : Int32) (s2 : SS) => ∃ x : Int, r = iI x ∧ Q x s2) (fun s2 t => gB G s2 t) A) 0 0 A := by
  refine met_i hD (by decide) ⟨rfl, rfl⟩ (Nat.le_of_ble_eq_true rfl) (lv := [(0, .ref (G.1 7)), (1, vI x1)]) rfl (fun F h1 h2 h3 hm ok hQ => ?_)
  subst h1 h2 h3
  have hDF := hD
  exact K_Ru_latestBy_e hDF hm ok hQ (h _ (fun _ _ _ _ hb => K_Ru_latestBy_4 hDF hm ok hQ hb))
theorem d_Ru_textAt_0 : decode prog_7_method_17_code 0 = .ok (.iload_n 2, 1) := by decide +kernel
theorem d_Ru_textAt_1 : decode prog_7_method_17_code 1 = .ok (.ifCond .lt 13, 3) := by decide +kernel
theorem d_Ru_textAt_4 : decode prog_7_method_17_code 4 = .ok (.iload_n 2, 1) := by decide +kernel
theorem d_Ru_textAt_5 : decode prog_7_method_17_code 5 = .ok (.aload_n 0, 1) := by decide +kernel
theorem d_Ru_textAt_6 : decode prog_7_method_17_code 6 = .ok (.getfield 15, 3) := by decide +kernel
theorem d_Ru_textAt_9 : decode prog_7_method_17_code 9 = .ok (.iload_n 1, 1) := by decide +kernel
theorem d_Ru_textAt_10 : decode prog_7_method_17_code 10 = .ok (.iaload, 1) := by decide +kernel
theorem d_Ru_textAt_11 : decode prog_7_method_17_code 11 = .ok (.if_icmp .lt 7, 3) := by decide +kernel
theorem d_Ru_textAt_14 : decode prog_7_method_17_code 14 = .ok (.iconst (-1), 1) := by decide +kernel
theorem d_Ru_textAt_15 : decode prog_7_method_17_code 15 = .ok (.goto 19, 3) := by decide +kernel
theorem d_Ru_textAt_18 : decode prog_7_method_17_code 18 = .ok (.aload_n 0, 1) := by decide +kernel
theorem d_Ru_textAt_19 : decode prog_7_method_17_code 19 = .ok (.getfield 11, 3) := by decide +kernel
theorem d_Ru_textAt_22 : decode prog_7_method_17_code 22 = .ok (.iload_n 1, 1) := by decide +kernel
theorem d_Ru_textAt_23 : decode prog_7_method_17_code 23 = .ok (.sipush 200, 3) := by decide +kernel
theorem d_Ru_textAt_26 : decode prog_7_method_17_code 26 = .ok (.imul, 1) := by decide +kernel
theorem d_Ru_textAt_27 : decode prog_7_method_17_code 27 = .ok (.iload_n 2, 1) := by decide +kernel
theorem d_Ru_textAt_28 : decode prog_7_method_17_code 28 = .ok (.iadd, 1) := by decide +kernel
theorem d_Ru_textAt_29 : decode prog_7_method_17_code 29 = .ok (.baload, 1) := by decide +kernel
theorem d_Ru_textAt_30 : decode prog_7_method_17_code 30 = .ok (.sipush 255, 3) := by decide +kernel
theorem d_Ru_textAt_33 : decode prog_7_method_17_code 33 = .ok (.iand, 1) := by decide +kernel
theorem d_Ru_textAt_34 : decode prog_7_method_17_code 34 = .ok (.ireturn, 1) := by decide +kernel
set_option maxHeartbeats 4000000 in
set_option maxRecDepth 100000 in
theorem K_Ru_textAt_e {F : FT} (hD : ∀ σ, va_D F.2.2.1 (GW F.2.1 σ)) (hm : F.2.2.2.2.2.2.2.2.2.2.2.2.2.2.1 = 3) (ok : OkF F prog_7_method_17_code "LastSeen$Rules" ({ frames := 0, cells := 0, slots := 0, locals := 0 } : Room)) {Q : Int → SS → Prop} (hQ : RetI F Q) {x1 x2 : Int} {s : SS} (h : Sp_Ru_textAt x1 x2 s Q) : AtS F 0 [(0, .ref (F.2.1.1 7)), (1, vI x1), (2, vI x2)] [] s := by
  unfold Sp_Ru_textAt at h
  refine r_iload_n ok 2 d_Ru_textAt_0 rfl rfl ?_
  refine r_if_lt ok 14 d_Ru_textAt_1 (by decide) h.1 (fun c => ?_) (fun c => ?_)
  · replace h := h.2.1 c
    refine r_iconst ok (-1) d_Ru_textAt_14 rfl ?_
    refine r_goto ok 34 d_Ru_textAt_15 (by decide) ?_
    exact hQ _ _ _ _ _ (ok_code ok) d_Ru_textAt_34 h
  · replace h := h.2.2 c
    refine r_iload_n ok 2 d_Ru_textAt_4 rfl rfl ?_
    refine r_aload_n ok 0 d_Ru_textAt_5 rfl rfl ?_
    refine g_Ru_sizes ok d_Ru_textAt_6 ?_
    refine r_iload_n ok 1 d_Ru_textAt_9 rfl rfl ?_
    refine r_iald ok 37 d_Ru_textAt_10 (by decide) rfl h.1 ?_
    replace h := h.2
    refine r_icmp_lt ok 18 d_Ru_textAt_11 (by decide) h.1 h.2.1 (fun c => ?_) (fun c => ?_)
    · replace h := h.2.2.1 c
      refine r_aload_n ok 0 d_Ru_textAt_18 rfl rfl ?_
      refine g_Ru_texts ok d_Ru_textAt_19 ?_
      refine r_iload_n ok 1 d_Ru_textAt_22 rfl rfl ?_
      refine r_sipush ok 200 d_Ru_textAt_23 (by decide) ?_
      refine r_imul ok d_Ru_textAt_26 ?_
      refine r_iload_n ok 2 d_Ru_textAt_27 rfl rfl ?_
      refine r_iadd ok d_Ru_textAt_28 ?_
      refine r_bald ok 36 d_Ru_textAt_29 (by decide) rfl h.1 ?_
      replace h := h.2
      refine r_sipush ok 255 d_Ru_textAt_30 (by decide) ?_
      refine r_iand ok d_Ru_textAt_33 ?_
      exact hQ _ _ _ _ _ (ok_code ok) d_Ru_textAt_34 h
    · replace h := h.2.2.2 c
      refine r_iconst ok (-1) d_Ru_textAt_14 rfl ?_
      refine r_goto ok 34 d_Ru_textAt_15 (by decide) ?_
      exact hQ _ _ _ _ _ (ok_code ok) d_Ru_textAt_34 h
theorem L_Ru_textAt (l : Launch) (G : GE) (A : Nat → Prop) (hD : ∀ σ, va_D A (GW G σ)) {x1 x2 : Int} {s : SS} {Q : Int → SS → Prop} (h : Sp_Ru_textAt x1 x2 s Q) : Met l y_Ru_textAt (Cond.code y_Ru_textAt prog_7_method_17_code 3 (some .int) :: lw_ok) ({ frames := 0, cells := 0, slots := 0, locals := 0 } : Room) (va_Pc [.ref (G.1 7), vI x1, vI x2] (gB G s)) (va_Qi (fun (r : Int32) (s2 : SS) => ∃ x : Int, r = iI x ∧ Q x s2) (fun s2 t => gB G s2 t) A) 0 0 A := by
  refine met_i hD (by decide) ⟨rfl, rfl⟩ (Nat.le_of_ble_eq_true rfl) (lv := [(0, .ref (G.1 7)), (1, vI x1), (2, vI x2)]) rfl (fun F h1 h2 h3 hm ok hQ => ?_)
  subst h1 h2 h3
  have hDF := hD
  exact K_Ru_textAt_e hDF hm ok hQ h
theorem d_Ru_asksWhetherCan_0 : decode prog_7_method_16_code 0 = .ok (.iconst 0, 1) := by decide +kernel
theorem d_Ru_asksWhetherCan_1 : decode prog_7_method_16_code 1 = .ok (.istore_n 2, 1) := by decide +kernel
theorem d_Ru_asksWhetherCan_2 : decode prog_7_method_16_code 2 = .ok (.iload_n 2, 1) := by decide +kernel
theorem d_Ru_asksWhetherCan_3 : decode prog_7_method_16_code 3 = .ok (.aload_n 0, 1) := by decide +kernel
theorem d_Ru_asksWhetherCan_4 : decode prog_7_method_16_code 4 = .ok (.getfield 15, 3) := by decide +kernel
theorem d_Ru_asksWhetherCan_7 : decode prog_7_method_16_code 7 = .ok (.iload_n 1, 1) := by decide +kernel
theorem d_Ru_asksWhetherCan_8 : decode prog_7_method_16_code 8 = .ok (.iaload, 1) := by decide +kernel
theorem d_Ru_asksWhetherCan_9 : decode prog_7_method_16_code 9 = .ok (.if_icmp .ge 22, 3) := by decide +kernel
theorem d_Ru_asksWhetherCan_12 : decode prog_7_method_16_code 12 = .ok (.aload_n 0, 1) := by decide +kernel
theorem d_Ru_asksWhetherCan_13 : decode prog_7_method_16_code 13 = .ok (.iload_n 1, 1) := by decide +kernel
theorem d_Ru_asksWhetherCan_14 : decode prog_7_method_16_code 14 = .ok (.iload_n 2, 1) := by decide +kernel
theorem d_Ru_asksWhetherCan_15 : decode prog_7_method_16_code 15 = .ok (.invokevirtual 91, 3) := by decide +kernel
theorem d_Ru_asksWhetherCan_18 : decode prog_7_method_16_code 18 = .ok (.bipush 99, 2) := by decide +kernel
theorem d_Ru_asksWhetherCan_20 : decode prog_7_method_16_code 20 = .ok (.if_icmp .ne 5, 3) := by decide +kernel
theorem d_Ru_asksWhetherCan_23 : decode prog_7_method_16_code 23 = .ok (.iconst 1, 1) := by decide +kernel
theorem d_Ru_asksWhetherCan_24 : decode prog_7_method_16_code 24 = .ok (.ireturn, 1) := by decide +kernel
theorem d_Ru_asksWhetherCan_25 : decode prog_7_method_16_code 25 = .ok (.iinc 2 1, 3) := by decide +kernel
theorem d_Ru_asksWhetherCan_28 : decode prog_7_method_16_code 28 = .ok (.goto (-26), 3) := by decide +kernel
theorem d_Ru_asksWhetherCan_31 : decode prog_7_method_16_code 31 = .ok (.iconst 0, 1) := by decide +kernel
theorem d_Ru_asksWhetherCan_32 : decode prog_7_method_16_code 32 = .ok (.ireturn, 1) := by decide +kernel
set_option maxHeartbeats 4000000 in
set_option maxRecDepth 100000 in
theorem K_Ru_asksWhetherCan_2 {F : FT} (hD : ∀ σ, va_D F.2.2.1 (GW F.2.1 σ)) (hm : F.2.2.2.2.2.2.2.2.2.2.2.2.2.2.1 = 3) (ok : OkF F prog_7_method_16_code "LastSeen$Rules" ({ frames := 1, cells := 0, slots := 0, locals := 22 } : Room)) {Q : Int → SS → Prop} (hQ : RetZ F Q) {x1 x2 : Int} {s : SS} (h : B_Ru_asksWhetherCan_2 Q (fun x1 x2 s => AtS F 2 [(0, .ref (F.2.1.1 7)), (1, vI x1), (2, vI x2)] [] s) x1 x2 s) : AtS F 2 [(0, .ref (F.2.1.1 7)), (1, vI x1), (2, vI x2)] [] s := by
  unfold B_Ru_asksWhetherCan_2 at h
  refine r_iload_n ok 2 d_Ru_asksWhetherCan_2 rfl rfl ?_
  refine r_aload_n ok 0 d_Ru_asksWhetherCan_3 rfl rfl ?_
  refine g_Ru_sizes ok d_Ru_asksWhetherCan_4 ?_
  refine r_iload_n ok 1 d_Ru_asksWhetherCan_7 rfl rfl ?_
  refine r_iald ok 37 d_Ru_asksWhetherCan_8 (by decide) rfl h.1 ?_
  replace h := h.2
  refine r_icmp_ge ok 31 d_Ru_asksWhetherCan_9 (by decide) h.1 h.2.1 (fun c => ?_) (fun c => ?_)
  · replace h := h.2.2.1 c
    refine r_iconst ok 0 d_Ru_asksWhetherCan_31 rfl ?_
    exact hQ _ _ _ _ _ (ok_code ok) d_Ru_asksWhetherCan_32 (by decide) h
  · replace h := h.2.2.2 c
    refine r_aload_n ok 0 d_Ru_asksWhetherCan_12 rfl rfl ?_
    refine r_iload_n ok 1 d_Ru_asksWhetherCan_13 rfl rfl ?_
    refine r_iload_n ok 2 d_Ru_asksWhetherCan_14 rfl rfl ?_
    refine r_callVi (As := [vI x1, vI x2]) (rest := []) ok 7 rfl rfl rfl wl_Ru_91 wi_y_Ru_textAt ws_y_Ru_textAt wn_Ru wc_y_Ru_textAt (by decide) (by decide) hh_Ru_textAt (Nat.le_of_ble_eq_true rfl) rfl d_Ru_asksWhetherCan_15 (L_Ru_textAt F.1 F.2.1 F.2.2.1 hD h) (fun r2 s1 h => ?_)
    refine r_bipush ok 99 d_Ru_asksWhetherCan_18 (by decide) ?_
    refine r_icmp_ne ok 25 d_Ru_asksWhetherCan_20 (by decide) h.1 (by decide) (fun c => ?_) (fun c => ?_)
    · replace h := h.2.1 c
      refine r_iinc ok 2 (x2 + 1) [(2, vI (x2 + 1)), (0, .ref (F.2.1.1 7)), (1, vI x1)] d_Ru_asksWhetherCan_25 rfl rfl hm (by decide) rfl ?_
      refine r_goto ok 2 d_Ru_asksWhetherCan_28 (by decide) ?_
      exact r_sub [1, 2, 0] rfl h
    · replace h := h.2.2 c
      refine r_iconst ok 1 d_Ru_asksWhetherCan_23 rfl ?_
      exact hQ _ _ _ _ _ (ok_code ok) d_Ru_asksWhetherCan_24 (by decide) h
set_option maxHeartbeats 4000000 in
set_option maxRecDepth 100000 in
theorem K_Ru_asksWhetherCan_e {F : FT} (hD : ∀ σ, va_D F.2.2.1 (GW F.2.1 σ)) (hm : F.2.2.2.2.2.2.2.2.2.2.2.2.2.2.1 = 3) (ok : OkF F prog_7_method_16_code "LastSeen$Rules" ({ frames := 1, cells := 0, slots := 0, locals := 22 } : Room)) {Q : Int → SS → Prop} (hQ : RetZ F Q) {x1 : Int} {s : SS} (h : B_Ru_asksWhetherCan_e Q (fun x1 x2 s => AtS F 2 [(0, .ref (F.2.1.1 7)), (1, vI x1), (2, vI x2)] [] s) x1 s) : AtS F 0 [(0, .ref (F.2.1.1 7)), (1, vI x1)] [] s := by
  unfold B_Ru_asksWhetherCan_e at h
  refine r_iconst ok 0 d_Ru_asksWhetherCan_0 rfl ?_
  refine r_istore_n ok [(2, vI 0), (0, .ref (F.2.1.1 7)), (1, vI x1)] d_Ru_asksWhetherCan_1 rfl hm (by decide) rfl ?_
  exact r_sub [1, 2, 0] rfl h
theorem L_Ru_asksWhetherCan (l : Launch) (G : GE) (A : Nat → Prop) (hD : ∀ σ, va_D A (GW G σ)) {x1 : Int} {s : SS} {Q : Int → SS → Prop} (h : Sp_Ru_asksWhetherCan x1 s Q) : Met l y_Ru_asksWhetherCan (Cond.code y_Ru_asksWhetherCan prog_7_method_16_code 3 (some .boolean) :: lw_ok) ({ frames := 1, cells := 0, slots := 0, locals := 22 } : Room) (va_Pc [.ref (G.1 7), vI x1] (gB G s)) (va_Qi (fun (r : Int32) (s2 : SS) => ∃ x : Int, r = iI x ∧ Q x s2) (fun s2 t => gB G s2 t) A) 0 0 A := by
  refine met_z hD (by decide) ⟨rfl, rfl⟩ (Nat.le_of_ble_eq_true rfl) (lv := [(0, .ref (G.1 7)), (1, vI x1)]) rfl (fun F h1 h2 h3 hm ok hQ => ?_)
  subst h1 h2 h3
  have hDF := hD
  exact K_Ru_asksWhetherCan_e hDF hm ok hQ (h _ (fun _ _ _ hb => K_Ru_asksWhetherCan_2 hDF hm ok hQ hb))
theorem d_Ru_openGroup_0 : decode prog_7_method_22_code 0 = .ok (.aload_n 0, 1) := by decide +kernel
theorem d_Ru_openGroup_1 : decode prog_7_method_22_code 1 = .ok (.getfield 25, 3) := by decide +kernel
theorem d_Ru_openGroup_4 : decode prog_7_method_22_code 4 = .ok (.iload_n 1, 1) := by decide +kernel
theorem d_Ru_openGroup_5 : decode prog_7_method_22_code 5 = .ok (.iconst 0, 1) := by decide +kernel
theorem d_Ru_openGroup_6 : decode prog_7_method_22_code 6 = .ok (.bastore, 1) := by decide +kernel
theorem d_Ru_openGroup_7 : decode prog_7_method_22_code 7 = .ok (.aload_n 0, 1) := by decide +kernel
theorem d_Ru_openGroup_8 : decode prog_7_method_22_code 8 = .ok (.getfield 29, 3) := by decide +kernel
theorem d_Ru_openGroup_11 : decode prog_7_method_22_code 11 = .ok (.iload_n 1, 1) := by decide +kernel
theorem d_Ru_openGroup_12 : decode prog_7_method_22_code 12 = .ok (.iconst 1, 1) := by decide +kernel
theorem d_Ru_openGroup_13 : decode prog_7_method_22_code 13 = .ok (.bastore, 1) := by decide +kernel
theorem d_Ru_openGroup_14 : decode prog_7_method_22_code 14 = .ok (.aload_n 0, 1) := by decide +kernel
theorem d_Ru_openGroup_15 : decode prog_7_method_22_code 15 = .ok (.getfield 32, 3) := by decide +kernel
theorem d_Ru_openGroup_18 : decode prog_7_method_22_code 18 = .ok (.iload_n 1, 1) := by decide +kernel
theorem d_Ru_openGroup_19 : decode prog_7_method_22_code 19 = .ok (.iload_n 2, 1) := by decide +kernel
theorem d_Ru_openGroup_20 : decode prog_7_method_22_code 20 = .ok (.bastore, 1) := by decide +kernel
theorem d_Ru_openGroup_21 : decode prog_7_method_22_code 21 = .ok (.return_, 1) := by decide +kernel
set_option maxHeartbeats 4000000 in
set_option maxRecDepth 100000 in
theorem K_Ru_openGroup_e {F : FT} (hD : ∀ σ, va_D F.2.2.1 (GW F.2.1 σ)) (hm : F.2.2.2.2.2.2.2.2.2.2.2.2.2.2.1 = 3) (ok : OkF F prog_7_method_22_code "LastSeen$Rules" ({ frames := 0, cells := 0, slots := 0, locals := 0 } : Room)) {Q : SS → Prop} (hQ : RetV F Q) {x1 x2 : Int} {s : SS} (h : Sp_Ru_openGroup x1 x2 s Q) : AtS F 0 [(0, .ref (F.2.1.1 7)), (1, vI x1), (2, vI x2)] [] s := by
  unfold Sp_Ru_openGroup at h
  refine r_aload_n ok 0 d_Ru_openGroup_0 rfl rfl ?_
  refine g_Ru_anyRow ok d_Ru_openGroup_1 ?_
  refine r_iload_n ok 1 d_Ru_openGroup_4 rfl rfl ?_
  refine r_iconst ok 0 d_Ru_openGroup_5 rfl ?_
  refine r_zast ok 40 d_Ru_openGroup_6 (by decide) rfl h.1 (by decide) ?_
  replace h := h.2 _ rfl
  generalize sA s 40 x1 0 = s1 at h ⊢
  refine r_aload_n ok 0 d_Ru_openGroup_7 rfl rfl ?_
  refine g_Ru_thisRow ok d_Ru_openGroup_8 ?_
  refine r_iload_n ok 1 d_Ru_openGroup_11 rfl rfl ?_
  refine r_iconst ok 1 d_Ru_openGroup_12 rfl ?_
  refine r_zast ok 41 d_Ru_openGroup_13 (by decide) rfl h.1 (by decide) ?_
  replace h := h.2 _ rfl
  generalize sA s1 41 x1 1 = s2 at h ⊢
  refine r_aload_n ok 0 d_Ru_openGroup_14 rfl rfl ?_
  refine g_Ru_turned ok d_Ru_openGroup_15 ?_
  refine r_iload_n ok 1 d_Ru_openGroup_18 rfl rfl ?_
  refine r_iload_n ok 2 d_Ru_openGroup_19 rfl rfl ?_
  refine r_zast ok 42 d_Ru_openGroup_20 (by decide) rfl h.1 h.2.1 ?_
  replace h := h.2.2 _ rfl
  generalize sA s2 42 x1 x2 = s3 at h ⊢
  exact hQ _ _ _ _ (ok_code ok) d_Ru_openGroup_21 h
theorem L_Ru_openGroup (l : Launch) (G : GE) (A : Nat → Prop) (hD : ∀ σ, va_D A (GW G σ)) {x1 x2 : Int} {s : SS} {Q : SS → Prop} (h : Sp_Ru_openGroup x1 x2 s Q) : Met l y_Ru_openGroup (Cond.code y_Ru_openGroup prog_7_method_22_code 3 (none) :: lw_ok) ({ frames := 0, cells := 0, slots := 0, locals := 0 } : Room) (va_Pc [.ref (G.1 7), vI x1, vI x2] (gB G s)) (va_Qv (fun (s2 : SS) => Q s2) (fun s2 t => gB G s2 t) A) 0 0 A := by
  refine met_v hD (by decide) ⟨rfl, rfl⟩ (Nat.le_of_ble_eq_true rfl) (lv := [(0, .ref (G.1 7)), (1, vI x1), (2, vI x2)]) rfl (fun F h1 h2 h3 hm ok hQ => ?_)
  subst h1 h2 h3
  have hDF := hD
  exact K_Ru_openGroup_e hDF hm ok hQ h
theorem d_He_measure_0 : decode prog_4_method_17_code 0 = .ok (.iload_n 1, 1) := by decide +kernel
theorem d_He_measure_1 : decode prog_4_method_17_code 1 = .ok (.tableswitch 122 99 114 #[94, 122, 84, 122, 122, 89, 122, 122, 117, 112, 122, 107, 122, 122, 122, 79], 79) := by decide +kernel
theorem d_He_measure_80 : decode prog_4_method_17_code 80 = .ok (.aload_n 0, 1) := by decide +kernel
theorem d_He_measure_81 : decode prog_4_method_17_code 81 = .ok (.getfield 88, 3) := by decide +kernel
theorem d_He_measure_84 : decode prog_4_method_17_code 84 = .ok (.ireturn, 1) := by decide +kernel
theorem d_He_measure_85 : decode prog_4_method_17_code 85 = .ok (.aload_n 0, 1) := by decide +kernel
theorem d_He_measure_86 : decode prog_4_method_17_code 86 = .ok (.getfield 99, 3) := by decide +kernel
theorem d_He_measure_89 : decode prog_4_method_17_code 89 = .ok (.ireturn, 1) := by decide +kernel
theorem d_He_measure_90 : decode prog_4_method_17_code 90 = .ok (.aload_n 0, 1) := by decide +kernel
theorem d_He_measure_91 : decode prog_4_method_17_code 91 = .ok (.getfield 68, 3) := by decide +kernel
theorem d_He_measure_94 : decode prog_4_method_17_code 94 = .ok (.ireturn, 1) := by decide +kernel
theorem d_He_measure_95 : decode prog_4_method_17_code 95 = .ok (.aload_n 0, 1) := by decide +kernel
theorem d_He_measure_96 : decode prog_4_method_17_code 96 = .ok (.getfield 141, 3) := by decide +kernel
theorem d_He_measure_99 : decode prog_4_method_17_code 99 = .ok (.ifCond .eq 7, 3) := by decide +kernel
theorem d_He_measure_102 : decode prog_4_method_17_code 102 = .ok (.iconst 1, 1) := by decide +kernel
theorem d_He_measure_103 : decode prog_4_method_17_code 103 = .ok (.goto 4, 3) := by decide +kernel
theorem d_He_measure_106 : decode prog_4_method_17_code 106 = .ok (.iconst 0, 1) := by decide +kernel
theorem d_He_measure_107 : decode prog_4_method_17_code 107 = .ok (.ireturn, 1) := by decide +kernel
theorem d_He_measure_108 : decode prog_4_method_17_code 108 = .ok (.aload_n 0, 1) := by decide +kernel
theorem d_He_measure_109 : decode prog_4_method_17_code 109 = .ok (.getfield 56, 3) := by decide +kernel
theorem d_He_measure_112 : decode prog_4_method_17_code 112 = .ok (.ireturn, 1) := by decide +kernel
theorem d_He_measure_113 : decode prog_4_method_17_code 113 = .ok (.aload_n 0, 1) := by decide +kernel
theorem d_He_measure_114 : decode prog_4_method_17_code 114 = .ok (.getfield 105, 3) := by decide +kernel
theorem d_He_measure_117 : decode prog_4_method_17_code 117 = .ok (.ireturn, 1) := by decide +kernel
theorem d_He_measure_118 : decode prog_4_method_17_code 118 = .ok (.aload_n 0, 1) := by decide +kernel
theorem d_He_measure_119 : decode prog_4_method_17_code 119 = .ok (.getfield 108, 3) := by decide +kernel
theorem d_He_measure_122 : decode prog_4_method_17_code 122 = .ok (.ireturn, 1) := by decide +kernel
theorem d_He_measure_123 : decode prog_4_method_17_code 123 = .ok (.iconst 0, 1) := by decide +kernel
theorem d_He_measure_124 : decode prog_4_method_17_code 124 = .ok (.ireturn, 1) := by decide +kernel
set_option maxHeartbeats 4000000 in
set_option maxRecDepth 100000 in
theorem K_He_measure_e {F : FT} (hD : ∀ σ, va_D F.2.2.1 (GW F.2.1 σ)) (hm : F.2.2.2.2.2.2.2.2.2.2.2.2.2.2.1 = 2) (ok : OkF F prog_4_method_17_code "LastSeen$Hearing" ({ frames := 0, cells := 0, slots := 0, locals := 0 } : Room)) {Q : Int → SS → Prop} (hQ : RetI F Q) {x1 : Int} {s : SS} (h : Sp_He_measure x1 s Q) : AtS F 0 [(0, .ref (F.2.1.1 6)), (1, vI x1)] [] s := by
  unfold Sp_He_measure at h
  refine r_iload_n ok 1 d_He_measure_0 rfl rfl ?_
  have hx := h.1
  replace h := h.2
  rcases Decidable.em (x1 = 99) with c99 | c99
  · replace h := h.1 c99
    refine r_tblIn ok 99 95 d_He_measure_1 hx c99 (by decide) rfl (by decide) ?_
    refine r_aload_n ok 0 d_He_measure_95 rfl rfl ?_
    refine g_He_agreement ok d_He_measure_96 ?_
    refine r_if_eq ok 106 d_He_measure_99 (by decide) h.1 (fun c => ?_) (fun c => ?_)
    · replace h := h.2.1 c
      refine r_iconst ok 0 d_He_measure_106 rfl ?_
      exact hQ _ _ _ _ _ (ok_code ok) d_He_measure_107 h
    · replace h := h.2.2 c
      refine r_iconst ok 1 d_He_measure_102 rfl ?_
      refine r_goto ok 107 d_He_measure_103 (by decide) ?_
      exact hQ _ _ _ _ _ (ok_code ok) d_He_measure_107 h
  replace h := h.2
  rcases Decidable.em (x1 = 101) with c101 | c101
  · replace h := h.1 c101
    refine r_tblIn ok 101 85 d_He_measure_1 hx c101 (by decide) rfl (by decide) ?_
    refine r_aload_n ok 0 d_He_measure_85 rfl rfl ?_
    refine g_He_witnessCount ok d_He_measure_86 ?_
    exact hQ _ _ _ _ _ (ok_code ok) d_He_measure_89 h
  replace h := h.2
  rcases Decidable.em (x1 = 104) with c104 | c104
  · replace h := h.1 c104
    refine r_tblIn ok 104 90 d_He_measure_1 hx c104 (by decide) rfl (by decide) ?_
    refine r_aload_n ok 0 d_He_measure_90 rfl rfl ?_
    refine g_He_hearsay ok d_He_measure_91 ?_
    exact hQ _ _ _ _ _ (ok_code ok) d_He_measure_94 h
  replace h := h.2
  rcases Decidable.em (x1 = 107) with c107 | c107
  · replace h := h.1 c107
    refine r_tblIn ok 107 118 d_He_measure_1 hx c107 (by decide) rfl (by decide) ?_
    refine r_aload_n ok 0 d_He_measure_118 rfl rfl ?_
    refine g_He_latestPlaces ok d_He_measure_119 ?_
    exact hQ _ _ _ _ _ (ok_code ok) d_He_measure_122 h
  replace h := h.2
  rcases Decidable.em (x1 = 108) with c108 | c108
  · replace h := h.1 c108
    refine r_tblIn ok 108 113 d_He_measure_1 hx c108 (by decide) rfl (by decide) ?_
    refine r_aload_n ok 0 d_He_measure_113 rfl rfl ?_
    refine g_He_latestWatch ok d_He_measure_114 ?_
    exact hQ _ _ _ _ _ (ok_code ok) d_He_measure_117 h
  replace h := h.2
  rcases Decidable.em (x1 = 110) with c110 | c110
  · replace h := h.1 c110
    refine r_tblIn ok 110 108 d_He_measure_1 hx c110 (by decide) rfl (by decide) ?_
    refine r_aload_n ok 0 d_He_measure_108 rfl rfl ?_
    refine g_He_nameCount ok d_He_measure_109 ?_
    exact hQ _ _ _ _ _ (ok_code ok) d_He_measure_112 h
  replace h := h.2
  rcases Decidable.em (x1 = 114) with c114 | c114
  · replace h := h.1 c114
    refine r_tblIn ok 114 80 d_He_measure_1 hx c114 (by decide) rfl (by decide) ?_
    refine r_aload_n ok 0 d_He_measure_80 rfl rfl ?_
    refine g_He_rootCount ok d_He_measure_81 ?_
    exact hQ _ _ _ _ _ (ok_code ok) d_He_measure_84 h
  replace h := h.2
  replace h := h c99 c101 c104 c107 c108 c110 c114
  rcases Decidable.em (x1 = 100) with c100 | c100
  · refine r_tblIn ok 100 123 d_He_measure_1 hx c100 (by decide) rfl (by decide) ?_
    refine r_iconst ok 0 d_He_measure_123 rfl ?_
    exact hQ _ _ _ _ _ (ok_code ok) d_He_measure_124 h
  rcases Decidable.em (x1 = 102) with c102 | c102
  · refine r_tblIn ok 102 123 d_He_measure_1 hx c102 (by decide) rfl (by decide) ?_
    refine r_iconst ok 0 d_He_measure_123 rfl ?_
    exact hQ _ _ _ _ _ (ok_code ok) d_He_measure_124 h
  rcases Decidable.em (x1 = 103) with c103 | c103
  · refine r_tblIn ok 103 123 d_He_measure_1 hx c103 (by decide) rfl (by decide) ?_
    refine r_iconst ok 0 d_He_measure_123 rfl ?_
    exact hQ _ _ _ _ _ (ok_code ok) d_He_measure_124 h
  rcases Decidable.em (x1 = 105) with c105 | c105
  · refine r_tblIn ok 105 123 d_He_measure_1 hx c105 (by decide) rfl (by decide) ?_
    refine r_iconst ok 0 d_He_measure_123 rfl ?_
    exact hQ _ _ _ _ _ (ok_code ok) d_He_measure_124 h
  rcases Decidable.em (x1 = 106) with c106 | c106
  · refine r_tblIn ok 106 123 d_He_measure_1 hx c106 (by decide) rfl (by decide) ?_
    refine r_iconst ok 0 d_He_measure_123 rfl ?_
    exact hQ _ _ _ _ _ (ok_code ok) d_He_measure_124 h
  rcases Decidable.em (x1 = 109) with c109 | c109
  · refine r_tblIn ok 109 123 d_He_measure_1 hx c109 (by decide) rfl (by decide) ?_
    refine r_iconst ok 0 d_He_measure_123 rfl ?_
    exact hQ _ _ _ _ _ (ok_code ok) d_He_measure_124 h
  rcases Decidable.em (x1 = 111) with c111 | c111
  · refine r_tblIn ok 111 123 d_He_measure_1 hx c111 (by decide) rfl (by decide) ?_
    refine r_iconst ok 0 d_He_measure_123 rfl ?_
    exact hQ _ _ _ _ _ (ok_code ok) d_He_measure_124 h
  rcases Decidable.em (x1 = 112) with c112 | c112
  · refine r_tblIn ok 112 123 d_He_measure_1 hx c112 (by decide) rfl (by decide) ?_
    refine r_iconst ok 0 d_He_measure_123 rfl ?_
    exact hQ _ _ _ _ _ (ok_code ok) d_He_measure_124 h
  rcases Decidable.em (x1 = 113) with c113 | c113
  · refine r_tblIn ok 113 123 d_He_measure_1 hx c113 (by decide) rfl (by decide) ?_
    refine r_iconst ok 0 d_He_measure_123 rfl ?_
    exact hQ _ _ _ _ _ (ok_code ok) d_He_measure_124 h
  refine r_tblOut ok 123 d_He_measure_1 hx (by omega) (by decide) ?_
  refine r_iconst ok 0 d_He_measure_123 rfl ?_
  exact hQ _ _ _ _ _ (ok_code ok) d_He_measure_124 h
theorem L_He_measure (l : Launch) (G : GE) (A : Nat → Prop) (hD : ∀ σ, va_D A (GW G σ)) {x1 : Int} {s : SS} {Q : Int → SS → Prop} (h : Sp_He_measure x1 s Q) : Met l y_He_measure (Cond.code y_He_measure prog_4_method_17_code 2 (some .int) :: lw_ok) ({ frames := 0, cells := 0, slots := 0, locals := 0 } : Room) (va_Pc [.ref (G.1 6), vI x1] (gB G s)) (va_Qi (fun (r : Int32) (s2 : SS) => ∃ x : Int, r = iI x ∧ Q x s2) (fun s2 t => gB G s2 t) A) 0 0 A := by
  refine met_i hD (by decide) ⟨rfl, rfl⟩ (Nat.le_of_ble_eq_true rfl) (lv := [(0, .ref (G.1 6)), (1, vI x1)]) rfl (fun F h1 h2 h3 hm ok hQ => ?_)
  subst h1 h2 h3
  have hDF := hD
  exact K_He_measure_e hDF hm ok hQ h
theorem d_Ru_factIsSo_0 : decode prog_7_method_24_code 0 = .ok (.aload_n 2, 1) := by decide +kernel
theorem d_Ru_factIsSo_1 : decode prog_7_method_24_code 1 = .ok (.aload_n 0, 1) := by decide +kernel
theorem d_Ru_factIsSo_2 : decode prog_7_method_24_code 2 = .ok (.iload_n 1, 1) := by decide +kernel
theorem d_Ru_factIsSo_3 : decode prog_7_method_24_code 3 = .ok (.aload_n 0, 1) := by decide +kernel
theorem d_Ru_factIsSo_4 : decode prog_7_method_24_code 4 = .ok (.getfield 94, 3) := by decide +kernel
theorem d_Ru_factIsSo_7 : decode prog_7_method_24_code 7 = .ok (.invokevirtual 91, 3) := by decide +kernel
theorem d_Ru_factIsSo_10 : decode prog_7_method_24_code 10 = .ok (.invokevirtual 118, 3) := by decide +kernel
theorem d_Ru_factIsSo_13 : decode prog_7_method_24_code 13 = .ok (.istore_n 3, 1) := by decide +kernel
theorem d_Ru_factIsSo_14 : decode prog_7_method_24_code 14 = .ok (.aload_n 0, 1) := by decide +kernel
theorem d_Ru_factIsSo_15 : decode prog_7_method_24_code 15 = .ok (.iload_n 1, 1) := by decide +kernel
theorem d_Ru_factIsSo_16 : decode prog_7_method_24_code 16 = .ok (.aload_n 0, 1) := by decide +kernel
theorem d_Ru_factIsSo_17 : decode prog_7_method_24_code 17 = .ok (.getfield 94, 3) := by decide +kernel
theorem d_Ru_factIsSo_20 : decode prog_7_method_24_code 20 = .ok (.iconst 1, 1) := by decide +kernel
theorem d_Ru_factIsSo_21 : decode prog_7_method_24_code 21 = .ok (.iadd, 1) := by decide +kernel
theorem d_Ru_factIsSo_22 : decode prog_7_method_24_code 22 = .ok (.invokevirtual 91, 3) := by decide +kernel
theorem d_Ru_factIsSo_25 : decode prog_7_method_24_code 25 = .ok (.istore 4, 2) := by decide +kernel
theorem d_Ru_factIsSo_27 : decode prog_7_method_24_code 27 = .ok (.aload_n 0, 1) := by decide +kernel
theorem d_Ru_factIsSo_28 : decode prog_7_method_24_code 28 = .ok (.dup, 1) := by decide +kernel
theorem d_Ru_factIsSo_29 : decode prog_7_method_24_code 29 = .ok (.getfield 94, 3) := by decide +kernel
theorem d_Ru_factIsSo_32 : decode prog_7_method_24_code 32 = .ok (.iconst 2, 1) := by decide +kernel
theorem d_Ru_factIsSo_33 : decode prog_7_method_24_code 33 = .ok (.iadd, 1) := by decide +kernel
theorem d_Ru_factIsSo_34 : decode prog_7_method_24_code 34 = .ok (.putfield 94, 3) := by decide +kernel
theorem d_Ru_factIsSo_37 : decode prog_7_method_24_code 37 = .ok (.iconst 0, 1) := by decide +kernel
theorem d_Ru_factIsSo_38 : decode prog_7_method_24_code 38 = .ok (.istore 5, 2) := by decide +kernel
theorem d_Ru_factIsSo_40 : decode prog_7_method_24_code 40 = .ok (.iconst 0, 1) := by decide +kernel
theorem d_Ru_factIsSo_41 : decode prog_7_method_24_code 41 = .ok (.istore 6, 2) := by decide +kernel
theorem d_Ru_factIsSo_43 : decode prog_7_method_24_code 43 = .ok (.iload 6, 2) := by decide +kernel
theorem d_Ru_factIsSo_45 : decode prog_7_method_24_code 45 = .ok (.iconst 3, 1) := by decide +kernel
theorem d_Ru_factIsSo_46 : decode prog_7_method_24_code 46 = .ok (.if_icmp .ge 54, 3) := by decide +kernel
theorem d_Ru_factIsSo_49 : decode prog_7_method_24_code 49 = .ok (.aload_n 0, 1) := by decide +kernel
theorem d_Ru_factIsSo_50 : decode prog_7_method_24_code 50 = .ok (.iload_n 1, 1) := by decide +kernel
theorem d_Ru_factIsSo_51 : decode prog_7_method_24_code 51 = .ok (.aload_n 0, 1) := by decide +kernel
theorem d_Ru_factIsSo_52 : decode prog_7_method_24_code 52 = .ok (.getfield 94, 3) := by decide +kernel
theorem d_Ru_factIsSo_55 : decode prog_7_method_24_code 55 = .ok (.invokevirtual 91, 3) := by decide +kernel
theorem d_Ru_factIsSo_58 : decode prog_7_method_24_code 58 = .ok (.invokestatic 69, 3) := by decide +kernel
theorem d_Ru_factIsSo_61 : decode prog_7_method_24_code 61 = .ok (.ifCond .eq 39, 3) := by decide +kernel
theorem d_Ru_factIsSo_64 : decode prog_7_method_24_code 64 = .ok (.iload 5, 2) := by decide +kernel
theorem d_Ru_factIsSo_66 : decode prog_7_method_24_code 66 = .ok (.bipush 10, 2) := by decide +kernel
theorem d_Ru_factIsSo_68 : decode prog_7_method_24_code 68 = .ok (.imul, 1) := by decide +kernel
theorem d_Ru_factIsSo_69 : decode prog_7_method_24_code 69 = .ok (.aload_n 0, 1) := by decide +kernel
theorem d_Ru_factIsSo_70 : decode prog_7_method_24_code 70 = .ok (.iload_n 1, 1) := by decide +kernel
theorem d_Ru_factIsSo_71 : decode prog_7_method_24_code 71 = .ok (.aload_n 0, 1) := by decide +kernel
theorem d_Ru_factIsSo_72 : decode prog_7_method_24_code 72 = .ok (.getfield 94, 3) := by decide +kernel
theorem d_Ru_factIsSo_75 : decode prog_7_method_24_code 75 = .ok (.invokevirtual 91, 3) := by decide +kernel
theorem d_Ru_factIsSo_78 : decode prog_7_method_24_code 78 = .ok (.iadd, 1) := by decide +kernel
theorem d_Ru_factIsSo_79 : decode prog_7_method_24_code 79 = .ok (.bipush 48, 2) := by decide +kernel
theorem d_Ru_factIsSo_81 : decode prog_7_method_24_code 81 = .ok (.isub, 1) := by decide +kernel
theorem d_Ru_factIsSo_82 : decode prog_7_method_24_code 82 = .ok (.istore 5, 2) := by decide +kernel
theorem d_Ru_factIsSo_84 : decode prog_7_method_24_code 84 = .ok (.aload_n 0, 1) := by decide +kernel
theorem d_Ru_factIsSo_85 : decode prog_7_method_24_code 85 = .ok (.dup, 1) := by decide +kernel
theorem d_Ru_factIsSo_86 : decode prog_7_method_24_code 86 = .ok (.getfield 94, 3) := by decide +kernel
theorem d_Ru_factIsSo_89 : decode prog_7_method_24_code 89 = .ok (.iconst 1, 1) := by decide +kernel
theorem d_Ru_factIsSo_90 : decode prog_7_method_24_code 90 = .ok (.iadd, 1) := by decide +kernel
theorem d_Ru_factIsSo_91 : decode prog_7_method_24_code 91 = .ok (.putfield 94, 3) := by decide +kernel
theorem d_Ru_factIsSo_94 : decode prog_7_method_24_code 94 = .ok (.iinc 6 1, 3) := by decide +kernel
theorem d_Ru_factIsSo_97 : decode prog_7_method_24_code 97 = .ok (.goto (-54), 3) := by decide +kernel
theorem d_Ru_factIsSo_100 : decode prog_7_method_24_code 100 = .ok (.iload 4, 2) := by decide +kernel
theorem d_Ru_factIsSo_102 : decode prog_7_method_24_code 102 = .ok (.bipush 60, 2) := by decide +kernel
theorem d_Ru_factIsSo_104 : decode prog_7_method_24_code 104 = .ok (.if_icmp .ne 15, 3) := by decide +kernel
theorem d_Ru_factIsSo_107 : decode prog_7_method_24_code 107 = .ok (.iload_n 3, 1) := by decide +kernel
theorem d_Ru_factIsSo_108 : decode prog_7_method_24_code 108 = .ok (.iload 5, 2) := by decide +kernel
theorem d_Ru_factIsSo_110 : decode prog_7_method_24_code 110 = .ok (.if_icmp .ge 7, 3) := by decide +kernel
theorem d_Ru_factIsSo_113 : decode prog_7_method_24_code 113 = .ok (.iconst 1, 1) := by decide +kernel
theorem d_Ru_factIsSo_114 : decode prog_7_method_24_code 114 = .ok (.goto 4, 3) := by decide +kernel
theorem d_Ru_factIsSo_117 : decode prog_7_method_24_code 117 = .ok (.iconst 0, 1) := by decide +kernel
theorem d_Ru_factIsSo_118 : decode prog_7_method_24_code 118 = .ok (.ireturn, 1) := by decide +kernel
theorem d_Ru_factIsSo_119 : decode prog_7_method_24_code 119 = .ok (.iload 4, 2) := by decide +kernel
theorem d_Ru_factIsSo_121 : decode prog_7_method_24_code 121 = .ok (.bipush 61, 2) := by decide +kernel
theorem d_Ru_factIsSo_123 : decode prog_7_method_24_code 123 = .ok (.if_icmp .ne 17, 3) := by decide +kernel
theorem d_Ru_factIsSo_126 : decode prog_7_method_24_code 126 = .ok (.iload_n 3, 1) := by decide +kernel
theorem d_Ru_factIsSo_127 : decode prog_7_method_24_code 127 = .ok (.iload 5, 2) := by decide +kernel
theorem d_Ru_factIsSo_129 : decode prog_7_method_24_code 129 = .ok (.if_icmp .ne 7, 3) := by decide +kernel
theorem d_Ru_factIsSo_132 : decode prog_7_method_24_code 132 = .ok (.iconst 1, 1) := by decide +kernel
theorem d_Ru_factIsSo_133 : decode prog_7_method_24_code 133 = .ok (.goto 18, 3) := by decide +kernel
theorem d_Ru_factIsSo_136 : decode prog_7_method_24_code 136 = .ok (.iconst 0, 1) := by decide +kernel
theorem d_Ru_factIsSo_137 : decode prog_7_method_24_code 137 = .ok (.goto 14, 3) := by decide +kernel
theorem d_Ru_factIsSo_140 : decode prog_7_method_24_code 140 = .ok (.iload_n 3, 1) := by decide +kernel
theorem d_Ru_factIsSo_141 : decode prog_7_method_24_code 141 = .ok (.iload 5, 2) := by decide +kernel
theorem d_Ru_factIsSo_143 : decode prog_7_method_24_code 143 = .ok (.if_icmp .le 7, 3) := by decide +kernel
theorem d_Ru_factIsSo_146 : decode prog_7_method_24_code 146 = .ok (.iconst 1, 1) := by decide +kernel
theorem d_Ru_factIsSo_147 : decode prog_7_method_24_code 147 = .ok (.goto 4, 3) := by decide +kernel
theorem d_Ru_factIsSo_150 : decode prog_7_method_24_code 150 = .ok (.iconst 0, 1) := by decide +kernel
theorem d_Ru_factIsSo_151 : decode prog_7_method_24_code 151 = .ok (.ireturn, 1) := by decide +kernel
set_option maxHeartbeats 4000000 in
set_option maxRecDepth 100000 in
theorem K_Ru_factIsSo_43 {F : FT} (hD : ∀ σ, va_D F.2.2.1 (GW F.2.1 σ)) (hm : F.2.2.2.2.2.2.2.2.2.2.2.2.2.2.1 = 7) (ok : OkF F prog_7_method_24_code "LastSeen$Rules" ({ frames := 1, cells := 0, slots := 0, locals := 22 } : Room)) {Q : Int → SS → Prop} (hQ : RetZ F Q) {x1 x3 x4 x5 x6 : Int} {s : SS} (h : B_Ru_factIsSo_43 Q (fun x1 x3 x4 x5 x6 s => AtS F 43 [(0, .ref (F.2.1.1 7)), (1, vI x1), (3, vI x3), (4, vI x4), (5, vI x5), (6, vI x6)] [] s) (fun x3 x4 x5 s => AtS F 100 [(3, vI x3), (4, vI x4), (5, vI x5)] [] s) x1 x3 x4 x5 x6 s) : AtS F 43 [(0, .ref (F.2.1.1 7)), (1, vI x1), (3, vI x3), (4, vI x4), (5, vI x5), (6, vI x6)] [] s := by
  unfold B_Ru_factIsSo_43 at h
  refine r_iload ok 5 d_Ru_factIsSo_43 rfl ?_
  refine r_iconst ok 3 d_Ru_factIsSo_45 rfl ?_
  refine r_icmp_ge ok 100 d_Ru_factIsSo_46 (by decide) h.1 (by decide) (fun c => ?_) (fun c => ?_)
  · replace h := h.2.1 c
    exact r_sub [2, 3, 4] rfl h
  · replace h := h.2.2 c
    refine r_aload_n ok 0 d_Ru_factIsSo_49 rfl rfl ?_
    refine r_iload_n ok 1 d_Ru_factIsSo_50 rfl rfl ?_
    refine r_aload_n ok 0 d_Ru_factIsSo_51 rfl rfl ?_
    refine g_Ru_cursor ok d_Ru_factIsSo_52 ?_
    refine r_callVi (As := [vI x1, vI (s.1 23)]) (rest := []) ok 7 rfl rfl rfl wl_Ru_91 wi_y_Ru_textAt ws_y_Ru_textAt wn_Ru wc_y_Ru_textAt (by decide) (by decide) hh_Ru_textAt (Nat.le_of_ble_eq_true rfl) rfl d_Ru_factIsSo_55 (L_Ru_textAt F.1 F.2.1 F.2.2.1 hD h) (fun r9 s8 h => ?_)
    refine r_callSi (As := [vI r9]) (rest := []) ok wl_Ru_69 wt_y_Ru_isDigit wn_Ru wc_y_Ru_isDigit (by decide) (by decide) hh_Ru_isDigit (Nat.le_of_ble_eq_true rfl) rfl d_Ru_factIsSo_58 (L_Ru_isDigit F.1 F.2.1 F.2.2.1 hD h) (fun r11 s10 h => ?_)
    refine r_if_eq ok 100 d_Ru_factIsSo_61 (by decide) h.1 (fun c => ?_) (fun c => ?_)
    · replace h := h.2.1 c
      exact r_sub [2, 3, 4] rfl h
    · replace h := h.2.2 c
      refine r_iload ok 4 d_Ru_factIsSo_64 rfl ?_
      refine r_bipush ok 10 d_Ru_factIsSo_66 (by decide) ?_
      refine r_imul ok d_Ru_factIsSo_68 ?_
      refine r_aload_n ok 0 d_Ru_factIsSo_69 rfl rfl ?_
      refine r_iload_n ok 1 d_Ru_factIsSo_70 rfl rfl ?_
      refine r_aload_n ok 0 d_Ru_factIsSo_71 rfl rfl ?_
      refine g_Ru_cursor ok d_Ru_factIsSo_72 ?_
      refine r_callVi (As := [vI x1, vI (s10.1 23)]) (rest := [vI (x5 * 10)]) ok 7 rfl rfl rfl wl_Ru_91 wi_y_Ru_textAt ws_y_Ru_textAt wn_Ru wc_y_Ru_textAt (by decide) (by decide) hh_Ru_textAt (Nat.le_of_ble_eq_true rfl) rfl d_Ru_factIsSo_75 (L_Ru_textAt F.1 F.2.1 F.2.2.1 hD h) (fun r13 s12 h => ?_)
      refine r_iadd ok d_Ru_factIsSo_78 ?_
      refine r_bipush ok 48 d_Ru_factIsSo_79 (by decide) ?_
      refine r_isub ok d_Ru_factIsSo_81 ?_
      refine r_istore ok [(5, vI (((x5 * 10) + r13) - 48)), (0, .ref (F.2.1.1 7)), (1, vI x1), (3, vI x3), (4, vI x4), (6, vI x6)] d_Ru_factIsSo_82 hm (by decide) rfl ?_
      refine r_aload_n ok 1 d_Ru_factIsSo_84 rfl rfl ?_
      refine r_dup ok d_Ru_factIsSo_85 rfl ?_
      refine g_Ru_cursor ok d_Ru_factIsSo_86 ?_
      refine r_iconst ok 1 d_Ru_factIsSo_89 rfl ?_
      refine r_iadd ok d_Ru_factIsSo_90 ?_
      refine p_Ru_cursor ok d_Ru_factIsSo_91 ?_
      replace h := h _ rfl
      generalize sF s12 23 ((s12.1 23) + 1) = s14 at h ⊢
      refine r_iinc ok 5 (x6 + 1) [(6, vI (x6 + 1)), (5, vI (((x5 * 10) + r13) - 48)), (0, .ref (F.2.1.1 7)), (1, vI x1), (3, vI x3), (4, vI x4)] d_Ru_factIsSo_94 rfl rfl hm (by decide) rfl ?_
      refine r_goto ok 43 d_Ru_factIsSo_97 (by decide) ?_
      exact r_sub [2, 3, 4, 5, 1, 0] rfl h
set_option maxHeartbeats 4000000 in
set_option maxRecDepth 100000 in
theorem K_Ru_factIsSo_100 {F : FT} (hD : ∀ σ, va_D F.2.2.1 (GW F.2.1 σ)) (hm : F.2.2.2.2.2.2.2.2.2.2.2.2.2.2.1 = 7) (ok : OkF F prog_7_method_24_code "LastSeen$Rules" ({ frames := 1, cells := 0, slots := 0, locals := 22 } : Room)) {Q : Int → SS → Prop} (hQ : RetZ F Q) {x3 x4 x5 : Int} {s : SS} (h : B_Ru_factIsSo_100 Q (fun x1 x3 x4 x5 x6 s => AtS F 43 [(0, .ref (F.2.1.1 7)), (1, vI x1), (3, vI x3), (4, vI x4), (5, vI x5), (6, vI x6)] [] s) (fun x3 x4 x5 s => AtS F 100 [(3, vI x3), (4, vI x4), (5, vI x5)] [] s) x3 x4 x5 s) : AtS F 100 [(3, vI x3), (4, vI x4), (5, vI x5)] [] s := by
  unfold B_Ru_factIsSo_100 at h
  refine r_iload ok 1 d_Ru_factIsSo_100 rfl ?_
  refine r_bipush ok 60 d_Ru_factIsSo_102 (by decide) ?_
  refine r_icmp_ne ok 119 d_Ru_factIsSo_104 (by decide) h.1 (by decide) (fun c => ?_) (fun c => ?_)
  · replace h := h.2.1 c
    refine r_iload ok 1 d_Ru_factIsSo_119 rfl ?_
    refine r_bipush ok 61 d_Ru_factIsSo_121 (by decide) ?_
    refine r_icmp_ne ok 140 d_Ru_factIsSo_123 (by decide) h.1 (by decide) (fun c => ?_) (fun c => ?_)
    · replace h := h.2.1 c
      refine r_iload_n ok 0 d_Ru_factIsSo_140 rfl rfl ?_
      refine r_iload ok 2 d_Ru_factIsSo_141 rfl ?_
      refine r_icmp_le ok 150 d_Ru_factIsSo_143 (by decide) h.1 h.2.1 (fun c => ?_) (fun c => ?_)
      · replace h := h.2.2.1 c
        refine r_iconst ok 0 d_Ru_factIsSo_150 rfl ?_
        exact hQ _ _ _ _ _ (ok_code ok) d_Ru_factIsSo_151 (by decide) h
      · replace h := h.2.2.2 c
        refine r_iconst ok 1 d_Ru_factIsSo_146 rfl ?_
        refine r_goto ok 151 d_Ru_factIsSo_147 (by decide) ?_
        exact hQ _ _ _ _ _ (ok_code ok) d_Ru_factIsSo_151 (by decide) h
    · replace h := h.2.2 c
      refine r_iload_n ok 0 d_Ru_factIsSo_126 rfl rfl ?_
      refine r_iload ok 2 d_Ru_factIsSo_127 rfl ?_
      refine r_icmp_ne ok 136 d_Ru_factIsSo_129 (by decide) h.1 h.2.1 (fun c => ?_) (fun c => ?_)
      · replace h := h.2.2.1 c
        refine r_iconst ok 0 d_Ru_factIsSo_136 rfl ?_
        refine r_goto ok 151 d_Ru_factIsSo_137 (by decide) ?_
        exact hQ _ _ _ _ _ (ok_code ok) d_Ru_factIsSo_151 (by decide) h
      · replace h := h.2.2.2 c
        refine r_iconst ok 1 d_Ru_factIsSo_132 rfl ?_
        refine r_goto ok 151 d_Ru_factIsSo_133 (by decide) ?_
        exact hQ _ _ _ _ _ (ok_code ok) d_Ru_factIsSo_151 (by decide) h
  · replace h := h.2.2 c
    refine r_iload_n ok 0 d_Ru_factIsSo_107 rfl rfl ?_
    refine r_iload ok 2 d_Ru_factIsSo_108 rfl ?_
    refine r_icmp_ge ok 117 d_Ru_factIsSo_110 (by decide) h.1 h.2.1 (fun c => ?_) (fun c => ?_)
    · replace h := h.2.2.1 c
      refine r_iconst ok 0 d_Ru_factIsSo_117 rfl ?_
      exact hQ _ _ _ _ _ (ok_code ok) d_Ru_factIsSo_118 (by decide) h
    · replace h := h.2.2.2 c
      refine r_iconst ok 1 d_Ru_factIsSo_113 rfl ?_
      refine r_goto ok 118 d_Ru_factIsSo_114 (by decide) ?_
      exact hQ _ _ _ _ _ (ok_code ok) d_Ru_factIsSo_118 (by decide) h
set_option maxHeartbeats 4000000 in
set_option maxRecDepth 100000 in
theorem K_Ru_factIsSo_e {F : FT} (hD : ∀ σ, va_D F.2.2.1 (GW F.2.1 σ)) (hm : F.2.2.2.2.2.2.2.2.2.2.2.2.2.2.1 = 7) (ok : OkF F prog_7_method_24_code "LastSeen$Rules" ({ frames := 1, cells := 0, slots := 0, locals := 22 } : Room)) {Q : Int → SS → Prop} (hQ : RetZ F Q) {x1 : Int} {s : SS} (h : B_Ru_factIsSo_e Q (fun x1 x3 x4 x5 x6 s => AtS F 43 [(0, .ref (F.2.1.1 7)), (1, vI x1), (3, vI x3), (4, vI x4), (5, vI x5), (6, vI x6)] [] s) (fun x3 x4 x5 s => AtS F 100 [(3, vI x3), (4, vI x4), (5, vI x5)] [] s) x1 s) : AtS F 0 [(0, .ref (F.2.1.1 7)), (1, vI x1), (2, .ref (F.2.1.1 6))] [] s := by
  unfold B_Ru_factIsSo_e at h
  refine r_aload_n ok 2 d_Ru_factIsSo_0 rfl rfl ?_
  refine r_aload_n ok 0 d_Ru_factIsSo_1 rfl rfl ?_
  refine r_iload_n ok 1 d_Ru_factIsSo_2 rfl rfl ?_
  refine r_aload_n ok 0 d_Ru_factIsSo_3 rfl rfl ?_
  refine g_Ru_cursor ok d_Ru_factIsSo_4 ?_
  refine r_callVi (As := [vI x1, vI (s.1 23)]) (rest := [.ref (F.2.1.1 6)]) ok 7 rfl rfl rfl wl_Ru_91 wi_y_Ru_textAt ws_y_Ru_textAt wn_Ru wc_y_Ru_textAt (by decide) (by decide) hh_Ru_textAt (Nat.le_of_ble_eq_true rfl) rfl d_Ru_factIsSo_7 (L_Ru_textAt F.1 F.2.1 F.2.2.1 hD h) (fun r2 s1 h => ?_)
  refine r_callVi (As := [vI r2]) (rest := []) ok 6 rfl rfl rfl wl_Ru_118 wi_y_He_measure ws_y_He_measure wn_He wc_y_He_measure (by decide) (by decide) hh_He_measure (Nat.le_of_ble_eq_true rfl) rfl d_Ru_factIsSo_10 (L_He_measure F.1 F.2.1 F.2.2.1 hD h) (fun r4 s3 h => ?_)
  refine r_istore_n ok [(3, vI r4), (0, .ref (F.2.1.1 7)), (1, vI x1), (2, .ref (F.2.1.1 6))] d_Ru_factIsSo_13 rfl hm (by decide) rfl ?_
  refine r_aload_n ok 1 d_Ru_factIsSo_14 rfl rfl ?_
  refine r_iload_n ok 2 d_Ru_factIsSo_15 rfl rfl ?_
  refine r_aload_n ok 1 d_Ru_factIsSo_16 rfl rfl ?_
  refine g_Ru_cursor ok d_Ru_factIsSo_17 ?_
  refine r_iconst ok 1 d_Ru_factIsSo_20 rfl ?_
  refine r_iadd ok d_Ru_factIsSo_21 ?_
  refine r_callVi (As := [vI x1, vI ((s3.1 23) + 1)]) (rest := []) ok 7 rfl rfl rfl wl_Ru_91 wi_y_Ru_textAt ws_y_Ru_textAt wn_Ru wc_y_Ru_textAt (by decide) (by decide) hh_Ru_textAt (Nat.le_of_ble_eq_true rfl) rfl d_Ru_factIsSo_22 (L_Ru_textAt F.1 F.2.1 F.2.2.1 hD h) (fun r6 s5 h => ?_)
  refine r_istore ok [(4, vI r6), (3, vI r4), (0, .ref (F.2.1.1 7)), (1, vI x1), (2, .ref (F.2.1.1 6))] d_Ru_factIsSo_25 hm (by decide) rfl ?_
  refine r_aload_n ok 2 d_Ru_factIsSo_27 rfl rfl ?_
  refine r_dup ok d_Ru_factIsSo_28 rfl ?_
  refine g_Ru_cursor ok d_Ru_factIsSo_29 ?_
  refine r_iconst ok 2 d_Ru_factIsSo_32 rfl ?_
  refine r_iadd ok d_Ru_factIsSo_33 ?_
  refine p_Ru_cursor ok d_Ru_factIsSo_34 ?_
  replace h := h _ rfl
  generalize sF s5 23 ((s5.1 23) + 2) = s7 at h ⊢
  refine r_iconst ok 0 d_Ru_factIsSo_37 rfl ?_
  refine r_istore ok [(5, vI 0), (4, vI r6), (3, vI r4), (0, .ref (F.2.1.1 7)), (1, vI x1), (2, .ref (F.2.1.1 6))] d_Ru_factIsSo_38 hm (by decide) rfl ?_
  refine r_iconst ok 0 d_Ru_factIsSo_40 rfl ?_
  refine r_istore ok [(6, vI 0), (5, vI 0), (4, vI r6), (3, vI r4), (0, .ref (F.2.1.1 7)), (1, vI x1), (2, .ref (F.2.1.1 6))] d_Ru_factIsSo_41 hm (by decide) rfl ?_
  exact r_sub [4, 5, 3, 2, 1, 0] rfl h
theorem L_Ru_factIsSo (l : Launch) (G : GE) (A : Nat → Prop) (hD : ∀ σ, va_D A (GW G σ)) {x1 : Int} {s : SS} {Q : Int → SS → Prop} (h : Sp_Ru_factIsSo x1 s Q) : Met l y_Ru_factIsSo (Cond.code y_Ru_factIsSo prog_7_method_24_code 7 (some .boolean) :: lw_ok) ({ frames := 1, cells := 0, slots := 0, locals := 22 } : Room) (va_Pc [.ref (G.1 7), vI x1, .ref (G.1 6)] (gB G s)) (va_Qi (fun (r : Int32) (s2 : SS) => ∃ x : Int, r = iI x ∧ Q x s2) (fun s2 t => gB G s2 t) A) 0 0 A := by
  refine met_z hD (by decide) ⟨rfl, rfl⟩ (Nat.le_of_ble_eq_true rfl) (lv := [(0, .ref (G.1 7)), (1, vI x1), (2, .ref (G.1 6))]) rfl (fun F h1 h2 h3 hm ok hQ => ?_)
  subst h1 h2 h3
  have hDF := hD
  exact K_Ru_factIsSo_e hDF hm ok hQ (h _ _ (fun _ _ _ _ _ _ hb => K_Ru_factIsSo_43 hDF hm ok hQ hb) (fun _ _ _ _ hb => K_Ru_factIsSo_100 hDF hm ok hQ hb))
theorem d_Ru_joinRow_0 : decode prog_7_method_20_code 0 = .ok (.iload_n 2, 1) := by decide +kernel
theorem d_Ru_joinRow_1 : decode prog_7_method_20_code 1 = .ok (.ifCond .ne 10, 3) := by decide +kernel
theorem d_Ru_joinRow_4 : decode prog_7_method_20_code 4 = .ok (.aload_n 0, 1) := by decide +kernel
theorem d_Ru_joinRow_5 : decode prog_7_method_20_code 5 = .ok (.getfield 29, 3) := by decide +kernel
theorem d_Ru_joinRow_8 : decode prog_7_method_20_code 8 = .ok (.iload_n 1, 1) := by decide +kernel
theorem d_Ru_joinRow_9 : decode prog_7_method_20_code 9 = .ok (.iconst 0, 1) := by decide +kernel
theorem d_Ru_joinRow_10 : decode prog_7_method_20_code 10 = .ok (.bastore, 1) := by decide +kernel
theorem d_Ru_joinRow_11 : decode prog_7_method_20_code 11 = .ok (.return_, 1) := by decide +kernel
set_option maxHeartbeats 4000000 in
set_option maxRecDepth 100000 in
theorem K_Ru_joinRow_e {F : FT} (hD : ∀ σ, va_D F.2.2.1 (GW F.2.1 σ)) (hm : F.2.2.2.2.2.2.2.2.2.2.2.2.2.2.1 = 3) (ok : OkF F prog_7_method_20_code "LastSeen$Rules" ({ frames := 0, cells := 0, slots := 0, locals := 0 } : Room)) {Q : SS → Prop} (hQ : RetV F Q) {x1 x2 : Int} {s : SS} (h : Sp_Ru_joinRow x1 x2 s Q) : AtS F 0 [(0, .ref (F.2.1.1 7)), (1, vI x1), (2, vI x2)] [] s := by
  unfold Sp_Ru_joinRow at h
  refine r_iload_n ok 2 d_Ru_joinRow_0 rfl rfl ?_
  refine r_if_ne ok 11 d_Ru_joinRow_1 (by decide) h.1 (fun c => ?_) (fun c => ?_)
  · replace h := h.2.1 c
    exact hQ _ _ _ _ (ok_code ok) d_Ru_joinRow_11 h
  · replace h := h.2.2 c
    refine r_aload_n ok 0 d_Ru_joinRow_4 rfl rfl ?_
    refine g_Ru_thisRow ok d_Ru_joinRow_5 ?_
    refine r_iload_n ok 1 d_Ru_joinRow_8 rfl rfl ?_
    refine r_iconst ok 0 d_Ru_joinRow_9 rfl ?_
    refine r_zast ok 41 d_Ru_joinRow_10 (by decide) rfl h.1 (by decide) ?_
    replace h := h.2 _ rfl
    generalize sA s 41 x1 0 = s1 at h ⊢
    exact hQ _ _ _ _ (ok_code ok) d_Ru_joinRow_11 h
theorem L_Ru_joinRow (l : Launch) (G : GE) (A : Nat → Prop) (hD : ∀ σ, va_D A (GW G σ)) {x1 x2 : Int} {s : SS} {Q : SS → Prop} (h : Sp_Ru_joinRow x1 x2 s Q) : Met l y_Ru_joinRow (Cond.code y_Ru_joinRow prog_7_method_20_code 3 (none) :: lw_ok) ({ frames := 0, cells := 0, slots := 0, locals := 0 } : Room) (va_Pc [.ref (G.1 7), vI x1, vI x2] (gB G s)) (va_Qv (fun (s2 : SS) => Q s2) (fun s2 t => gB G s2 t) A) 0 0 A := by
  refine met_v hD (by decide) ⟨rfl, rfl⟩ (Nat.le_of_ble_eq_true rfl) (lv := [(0, .ref (G.1 7)), (1, vI x1), (2, vI x2)]) rfl (fun F h1 h2 h3 hm ok hQ => ?_)
  subst h1 h2 h3
  have hDF := hD
  exact K_Ru_joinRow_e hDF hm ok hQ h
theorem d_Ru_groupIsSo_0 : decode prog_7_method_23_code 0 = .ok (.aload_n 0, 1) := by decide +kernel
theorem d_Ru_groupIsSo_1 : decode prog_7_method_23_code 1 = .ok (.getfield 25, 3) := by decide +kernel
theorem d_Ru_groupIsSo_4 : decode prog_7_method_23_code 4 = .ok (.iload_n 1, 1) := by decide +kernel
theorem d_Ru_groupIsSo_5 : decode prog_7_method_23_code 5 = .ok (.baload, 1) := by decide +kernel
theorem d_Ru_groupIsSo_6 : decode prog_7_method_23_code 6 = .ok (.ifCond .ne 12, 3) := by decide +kernel
theorem d_Ru_groupIsSo_9 : decode prog_7_method_23_code 9 = .ok (.aload_n 0, 1) := by decide +kernel
theorem d_Ru_groupIsSo_10 : decode prog_7_method_23_code 10 = .ok (.getfield 29, 3) := by decide +kernel
theorem d_Ru_groupIsSo_13 : decode prog_7_method_23_code 13 = .ok (.iload_n 1, 1) := by decide +kernel
theorem d_Ru_groupIsSo_14 : decode prog_7_method_23_code 14 = .ok (.baload, 1) := by decide +kernel
theorem d_Ru_groupIsSo_15 : decode prog_7_method_23_code 15 = .ok (.ifCond .eq 7, 3) := by decide +kernel
theorem d_Ru_groupIsSo_18 : decode prog_7_method_23_code 18 = .ok (.iconst 1, 1) := by decide +kernel
theorem d_Ru_groupIsSo_19 : decode prog_7_method_23_code 19 = .ok (.goto 4, 3) := by decide +kernel
theorem d_Ru_groupIsSo_22 : decode prog_7_method_23_code 22 = .ok (.iconst 0, 1) := by decide +kernel
theorem d_Ru_groupIsSo_23 : decode prog_7_method_23_code 23 = .ok (.aload_n 0, 1) := by decide +kernel
theorem d_Ru_groupIsSo_24 : decode prog_7_method_23_code 24 = .ok (.getfield 32, 3) := by decide +kernel
theorem d_Ru_groupIsSo_27 : decode prog_7_method_23_code 27 = .ok (.iload_n 1, 1) := by decide +kernel
theorem d_Ru_groupIsSo_28 : decode prog_7_method_23_code 28 = .ok (.baload, 1) := by decide +kernel
theorem d_Ru_groupIsSo_29 : decode prog_7_method_23_code 29 = .ok (.if_icmp .eq 7, 3) := by decide +kernel
theorem d_Ru_groupIsSo_32 : decode prog_7_method_23_code 32 = .ok (.iconst 1, 1) := by decide +kernel
theorem d_Ru_groupIsSo_33 : decode prog_7_method_23_code 33 = .ok (.goto 4, 3) := by decide +kernel
theorem d_Ru_groupIsSo_36 : decode prog_7_method_23_code 36 = .ok (.iconst 0, 1) := by decide +kernel
theorem d_Ru_groupIsSo_37 : decode prog_7_method_23_code 37 = .ok (.ireturn, 1) := by decide +kernel
set_option maxHeartbeats 4000000 in
set_option maxRecDepth 100000 in
theorem K_Ru_groupIsSo_e {F : FT} (hD : ∀ σ, va_D F.2.2.1 (GW F.2.1 σ)) (hm : F.2.2.2.2.2.2.2.2.2.2.2.2.2.2.1 = 2) (ok : OkF F prog_7_method_23_code "LastSeen$Rules" ({ frames := 0, cells := 0, slots := 0, locals := 0 } : Room)) {Q : Int → SS → Prop} (hQ : RetZ F Q) {x1 : Int} {s : SS} (h : Sp_Ru_groupIsSo x1 s Q) : AtS F 0 [(0, .ref (F.2.1.1 7)), (1, vI x1)] [] s := by
  unfold Sp_Ru_groupIsSo at h
  refine r_aload_n ok 0 d_Ru_groupIsSo_0 rfl rfl ?_
  refine g_Ru_anyRow ok d_Ru_groupIsSo_1 ?_
  refine r_iload_n ok 1 d_Ru_groupIsSo_4 rfl rfl ?_
  refine r_zald ok 40 d_Ru_groupIsSo_5 (by decide) rfl h.1 ?_
  replace h := h.2
  refine r_if_ne ok 18 d_Ru_groupIsSo_6 (by decide) h.1 (fun c => ?_) (fun c => ?_)
  · replace h := h.2.1 c
    refine r_iconst ok 1 d_Ru_groupIsSo_18 rfl ?_
    refine r_goto ok 23 d_Ru_groupIsSo_19 (by decide) ?_
    refine r_aload_n ok 0 d_Ru_groupIsSo_23 rfl rfl ?_
    refine g_Ru_turned ok d_Ru_groupIsSo_24 ?_
    refine r_iload_n ok 1 d_Ru_groupIsSo_27 rfl rfl ?_
    refine r_zald ok 42 d_Ru_groupIsSo_28 (by decide) rfl h.1 ?_
    replace h := h.2
    refine r_icmp_eq ok 36 d_Ru_groupIsSo_29 (by decide) (by decide) h.1 (fun c => ?_) (fun c => ?_)
    · replace h := h.2.1 c
      refine r_iconst ok 0 d_Ru_groupIsSo_36 rfl ?_
      exact hQ _ _ _ _ _ (ok_code ok) d_Ru_groupIsSo_37 (by decide) h
    · replace h := h.2.2 c
      refine r_iconst ok 1 d_Ru_groupIsSo_32 rfl ?_
      refine r_goto ok 37 d_Ru_groupIsSo_33 (by decide) ?_
      exact hQ _ _ _ _ _ (ok_code ok) d_Ru_groupIsSo_37 (by decide) h
  · replace h := h.2.2 c
    refine r_aload_n ok 0 d_Ru_groupIsSo_9 rfl rfl ?_
    refine g_Ru_thisRow ok d_Ru_groupIsSo_10 ?_
    refine r_iload_n ok 1 d_Ru_groupIsSo_13 rfl rfl ?_
    refine r_zald ok 41 d_Ru_groupIsSo_14 (by decide) rfl h.1 ?_
    replace h := h.2
    refine r_if_eq ok 22 d_Ru_groupIsSo_15 (by decide) h.1 (fun c => ?_) (fun c => ?_)
    · replace h := h.2.1 c
      refine r_iconst ok 0 d_Ru_groupIsSo_22 rfl ?_
      refine r_aload_n ok 0 d_Ru_groupIsSo_23 rfl rfl ?_
      refine g_Ru_turned ok d_Ru_groupIsSo_24 ?_
      refine r_iload_n ok 1 d_Ru_groupIsSo_27 rfl rfl ?_
      refine r_zald ok 42 d_Ru_groupIsSo_28 (by decide) rfl h.1 ?_
      replace h := h.2
      refine r_icmp_eq ok 36 d_Ru_groupIsSo_29 (by decide) (by decide) h.1 (fun c => ?_) (fun c => ?_)
      · replace h := h.2.1 c
        refine r_iconst ok 0 d_Ru_groupIsSo_36 rfl ?_
        exact hQ _ _ _ _ _ (ok_code ok) d_Ru_groupIsSo_37 (by decide) h
      · replace h := h.2.2 c
        refine r_iconst ok 1 d_Ru_groupIsSo_32 rfl ?_
        refine r_goto ok 37 d_Ru_groupIsSo_33 (by decide) ?_
        exact hQ _ _ _ _ _ (ok_code ok) d_Ru_groupIsSo_37 (by decide) h
    · replace h := h.2.2 c
      refine r_iconst ok 1 d_Ru_groupIsSo_18 rfl ?_
      refine r_goto ok 23 d_Ru_groupIsSo_19 (by decide) ?_
      refine r_aload_n ok 0 d_Ru_groupIsSo_23 rfl rfl ?_
      refine g_Ru_turned ok d_Ru_groupIsSo_24 ?_
      refine r_iload_n ok 1 d_Ru_groupIsSo_27 rfl rfl ?_
      refine r_zald ok 42 d_Ru_groupIsSo_28 (by decide) rfl h.1 ?_
      replace h := h.2
      refine r_icmp_eq ok 36 d_Ru_groupIsSo_29 (by decide) (by decide) h.1 (fun c => ?_) (fun c => ?_)
      · replace h := h.2.1 c
        refine r_iconst ok 0 d_Ru_groupIsSo_36 rfl ?_
        exact hQ _ _ _ _ _ (ok_code ok) d_Ru_groupIsSo_37 (by decide) h
      · replace h := h.2.2 c
        refine r_iconst ok 1 d_Ru_groupIsSo_32 rfl ?_
        refine r_goto ok 37 d_Ru_groupIsSo_33 (by decide) ?_
        exact hQ _ _ _ _ _ (ok_code ok) d_Ru_groupIsSo_37 (by decide) h
theorem L_Ru_groupIsSo (l : Launch) (G : GE) (A : Nat → Prop) (hD : ∀ σ, va_D A (GW G σ)) {x1 : Int} {s : SS} {Q : Int → SS → Prop} (h : Sp_Ru_groupIsSo x1 s Q) : Met l y_Ru_groupIsSo (Cond.code y_Ru_groupIsSo prog_7_method_23_code 2 (some .boolean) :: lw_ok) ({ frames := 0, cells := 0, slots := 0, locals := 0 } : Room) (va_Pc [.ref (G.1 7), vI x1] (gB G s)) (va_Qi (fun (r : Int32) (s2 : SS) => ∃ x : Int, r = iI x ∧ Q x s2) (fun s2 t => gB G s2 t) A) 0 0 A := by
  refine met_z hD (by decide) ⟨rfl, rfl⟩ (Nat.le_of_ble_eq_true rfl) (lv := [(0, .ref (G.1 7)), (1, vI x1)]) rfl (fun F h1 h2 h3 hm ok hQ => ?_)
  subst h1 h2 h3
  have hDF := hD
  exact K_Ru_groupIsSo_e hDF hm ok hQ h
theorem d_Ru_closeRow_0 : decode prog_7_method_21_code 0 = .ok (.aload_n 0, 1) := by decide +kernel
theorem d_Ru_closeRow_1 : decode prog_7_method_21_code 1 = .ok (.getfield 29, 3) := by decide +kernel
theorem d_Ru_closeRow_4 : decode prog_7_method_21_code 4 = .ok (.iload_n 1, 1) := by decide +kernel
theorem d_Ru_closeRow_5 : decode prog_7_method_21_code 5 = .ok (.baload, 1) := by decide +kernel
theorem d_Ru_closeRow_6 : decode prog_7_method_21_code 6 = .ok (.ifCond .eq 10, 3) := by decide +kernel
theorem d_Ru_closeRow_9 : decode prog_7_method_21_code 9 = .ok (.aload_n 0, 1) := by decide +kernel
theorem d_Ru_closeRow_10 : decode prog_7_method_21_code 10 = .ok (.getfield 25, 3) := by decide +kernel
theorem d_Ru_closeRow_13 : decode prog_7_method_21_code 13 = .ok (.iload_n 1, 1) := by decide +kernel
theorem d_Ru_closeRow_14 : decode prog_7_method_21_code 14 = .ok (.iconst 1, 1) := by decide +kernel
theorem d_Ru_closeRow_15 : decode prog_7_method_21_code 15 = .ok (.bastore, 1) := by decide +kernel
theorem d_Ru_closeRow_16 : decode prog_7_method_21_code 16 = .ok (.aload_n 0, 1) := by decide +kernel
theorem d_Ru_closeRow_17 : decode prog_7_method_21_code 17 = .ok (.getfield 29, 3) := by decide +kernel
theorem d_Ru_closeRow_20 : decode prog_7_method_21_code 20 = .ok (.iload_n 1, 1) := by decide +kernel
theorem d_Ru_closeRow_21 : decode prog_7_method_21_code 21 = .ok (.iconst 1, 1) := by decide +kernel
theorem d_Ru_closeRow_22 : decode prog_7_method_21_code 22 = .ok (.bastore, 1) := by decide +kernel
theorem d_Ru_closeRow_23 : decode prog_7_method_21_code 23 = .ok (.return_, 1) := by decide +kernel
set_option maxHeartbeats 4000000 in
set_option maxRecDepth 100000 in
theorem K_Ru_closeRow_e {F : FT} (hD : ∀ σ, va_D F.2.2.1 (GW F.2.1 σ)) (hm : F.2.2.2.2.2.2.2.2.2.2.2.2.2.2.1 = 2) (ok : OkF F prog_7_method_21_code "LastSeen$Rules" ({ frames := 0, cells := 0, slots := 0, locals := 0 } : Room)) {Q : SS → Prop} (hQ : RetV F Q) {x1 : Int} {s : SS} (h : Sp_Ru_closeRow x1 s Q) : AtS F 0 [(0, .ref (F.2.1.1 7)), (1, vI x1)] [] s := by
  unfold Sp_Ru_closeRow at h
  refine r_aload_n ok 0 d_Ru_closeRow_0 rfl rfl ?_
  refine g_Ru_thisRow ok d_Ru_closeRow_1 ?_
  refine r_iload_n ok 1 d_Ru_closeRow_4 rfl rfl ?_
  refine r_zald ok 41 d_Ru_closeRow_5 (by decide) rfl h.1 ?_
  replace h := h.2
  refine r_if_eq ok 16 d_Ru_closeRow_6 (by decide) h.1 (fun c => ?_) (fun c => ?_)
  · replace h := h.2.1 c
    refine r_aload_n ok 0 d_Ru_closeRow_16 rfl rfl ?_
    refine g_Ru_thisRow ok d_Ru_closeRow_17 ?_
    refine r_iload_n ok 1 d_Ru_closeRow_20 rfl rfl ?_
    refine r_iconst ok 1 d_Ru_closeRow_21 rfl ?_
    refine r_zast ok 41 d_Ru_closeRow_22 (by decide) rfl h.1 (by decide) ?_
    replace h := h.2 _ rfl
    generalize sA s 41 x1 1 = s1 at h ⊢
    exact hQ _ _ _ _ (ok_code ok) d_Ru_closeRow_23 h
  · replace h := h.2.2 c
    refine r_aload_n ok 0 d_Ru_closeRow_9 rfl rfl ?_
    refine g_Ru_anyRow ok d_Ru_closeRow_10 ?_
    refine r_iload_n ok 1 d_Ru_closeRow_13 rfl rfl ?_
    refine r_iconst ok 1 d_Ru_closeRow_14 rfl ?_
    refine r_zast ok 40 d_Ru_closeRow_15 (by decide) rfl h.1 (by decide) ?_
    replace h := h.2 _ rfl
    generalize sA s 40 x1 1 = s2 at h ⊢
    refine r_aload_n ok 0 d_Ru_closeRow_16 rfl rfl ?_
    refine g_Ru_thisRow ok d_Ru_closeRow_17 ?_
    refine r_iload_n ok 1 d_Ru_closeRow_20 rfl rfl ?_
    refine r_iconst ok 1 d_Ru_closeRow_21 rfl ?_
    refine r_zast ok 41 d_Ru_closeRow_22 (by decide) rfl h.1 (by decide) ?_
    replace h := h.2 _ rfl
    generalize sA s2 41 x1 1 = s3 at h ⊢
    exact hQ _ _ _ _ (ok_code ok) d_Ru_closeRow_23 h
theorem L_Ru_closeRow (l : Launch) (G : GE) (A : Nat → Prop) (hD : ∀ σ, va_D A (GW G σ)) {x1 : Int} {s : SS} {Q : SS → Prop} (h : Sp_Ru_closeRow x1 s Q) : Met l y_Ru_closeRow (Cond.code y_Ru_closeRow prog_7_method_21_code 2 (none) :: lw_ok) ({ frames := 0, cells := 0, slots := 0, locals := 0 } : Room) (va_Pc [.ref (G.1 7), vI x1] (gB G s)) (va_Qv (fun (s2 : SS) => Q s2) (fun s2 t => gB G s2 t) A) 0 0 A := by
  refine met_v hD (by decide) ⟨rfl, rfl⟩ (Nat.le_of_ble_eq_true rfl) (lv := [(0, .ref (G.1 7)), (1, vI x1)]) rfl (fun F h1 h2 h3 hm ok hQ => ?_)
  subst h1 h2 h3
  have hDF := hD
  exact K_Ru_closeRow_e hDF hm ok hQ h
theorem d_Ru_isSo_0 : decode prog_7_method_19_code 0 = .ok (.iconst 0, 1) := by decide +kernel
theorem d_Ru_isSo_1 : decode prog_7_method_19_code 1 = .ok (.istore_n 3, 1) := by decide +kernel
theorem d_Ru_isSo_2 : decode prog_7_method_19_code 2 = .ok (.iconst 0, 1) := by decide +kernel
theorem d_Ru_isSo_3 : decode prog_7_method_19_code 3 = .ok (.istore 4, 2) := by decide +kernel
theorem d_Ru_isSo_5 : decode prog_7_method_19_code 5 = .ok (.aload_n 0, 1) := by decide +kernel
theorem d_Ru_isSo_6 : decode prog_7_method_19_code 6 = .ok (.iconst 0, 1) := by decide +kernel
theorem d_Ru_isSo_7 : decode prog_7_method_19_code 7 = .ok (.iconst 0, 1) := by decide +kernel
theorem d_Ru_isSo_8 : decode prog_7_method_19_code 8 = .ok (.invokevirtual 101, 3) := by decide +kernel
theorem d_Ru_isSo_11 : decode prog_7_method_19_code 11 = .ok (.iconst 0, 1) := by decide +kernel
theorem d_Ru_isSo_12 : decode prog_7_method_19_code 12 = .ok (.istore 5, 2) := by decide +kernel
theorem d_Ru_isSo_14 : decode prog_7_method_19_code 14 = .ok (.iload 5, 2) := by decide +kernel
theorem d_Ru_isSo_16 : decode prog_7_method_19_code 16 = .ok (.sipush 200, 3) := by decide +kernel
theorem d_Ru_isSo_19 : decode prog_7_method_19_code 19 = .ok (.if_icmp .ge 166, 3) := by decide +kernel
theorem d_Ru_isSo_22 : decode prog_7_method_19_code 22 = .ok (.aload_n 0, 1) := by decide +kernel
theorem d_Ru_isSo_23 : decode prog_7_method_19_code 23 = .ok (.iload_n 1, 1) := by decide +kernel
theorem d_Ru_isSo_24 : decode prog_7_method_19_code 24 = .ok (.aload_n 0, 1) := by decide +kernel
theorem d_Ru_isSo_25 : decode prog_7_method_19_code 25 = .ok (.getfield 94, 3) := by decide +kernel
theorem d_Ru_isSo_28 : decode prog_7_method_19_code 28 = .ok (.invokevirtual 91, 3) := by decide +kernel
theorem d_Ru_isSo_31 : decode prog_7_method_19_code 31 = .ok (.istore 6, 2) := by decide +kernel
theorem d_Ru_isSo_33 : decode prog_7_method_19_code 33 = .ok (.iload 6, 2) := by decide +kernel
theorem d_Ru_isSo_35 : decode prog_7_method_19_code 35 = .ok (.ifCond .lt 150, 3) := by decide +kernel
theorem d_Ru_isSo_38 : decode prog_7_method_19_code 38 = .ok (.iload 6, 2) := by decide +kernel
theorem d_Ru_isSo_40 : decode prog_7_method_19_code 40 = .ok (.bipush 62, 2) := by decide +kernel
theorem d_Ru_isSo_42 : decode prog_7_method_19_code 42 = .ok (.if_icmp .ne 6, 3) := by decide +kernel
theorem d_Ru_isSo_45 : decode prog_7_method_19_code 45 = .ok (.goto 140, 3) := by decide +kernel
theorem d_Ru_isSo_48 : decode prog_7_method_19_code 48 = .ok (.iload 6, 2) := by decide +kernel
theorem d_Ru_isSo_50 : decode prog_7_method_19_code 50 = .ok (.invokestatic 81, 3) := by decide +kernel
theorem d_Ru_isSo_53 : decode prog_7_method_19_code 53 = .ok (.ifCond .eq 29, 3) := by decide +kernel
theorem d_Ru_isSo_56 : decode prog_7_method_19_code 56 = .ok (.aload_n 0, 1) := by decide +kernel
theorem d_Ru_isSo_57 : decode prog_7_method_19_code 57 = .ok (.iload 4, 2) := by decide +kernel
theorem d_Ru_isSo_59 : decode prog_7_method_19_code 59 = .ok (.aload_n 0, 1) := by decide +kernel
theorem d_Ru_isSo_60 : decode prog_7_method_19_code 60 = .ok (.iload_n 1, 1) := by decide +kernel
theorem d_Ru_isSo_61 : decode prog_7_method_19_code 61 = .ok (.aload_n 2, 1) := by decide +kernel
theorem d_Ru_isSo_62 : decode prog_7_method_19_code 62 = .ok (.invokevirtual 105, 3) := by decide +kernel
theorem d_Ru_isSo_65 : decode prog_7_method_19_code 65 = .ok (.iload_n 3, 1) := by decide +kernel
theorem d_Ru_isSo_66 : decode prog_7_method_19_code 66 = .ok (.if_icmp .eq 7, 3) := by decide +kernel
theorem d_Ru_isSo_69 : decode prog_7_method_19_code 69 = .ok (.iconst 1, 1) := by decide +kernel
theorem d_Ru_isSo_70 : decode prog_7_method_19_code 70 = .ok (.goto 4, 3) := by decide +kernel
theorem d_Ru_isSo_73 : decode prog_7_method_19_code 73 = .ok (.iconst 0, 1) := by decide +kernel
theorem d_Ru_isSo_74 : decode prog_7_method_19_code 74 = .ok (.invokevirtual 108, 3) := by decide +kernel
theorem d_Ru_isSo_77 : decode prog_7_method_19_code 77 = .ok (.iconst 0, 1) := by decide +kernel
theorem d_Ru_isSo_78 : decode prog_7_method_19_code 78 = .ok (.istore_n 3, 1) := by decide +kernel
theorem d_Ru_isSo_79 : decode prog_7_method_19_code 79 = .ok (.goto 100, 3) := by decide +kernel
theorem d_Ru_isSo_82 : decode prog_7_method_19_code 82 = .ok (.aload_n 0, 1) := by decide +kernel
theorem d_Ru_isSo_83 : decode prog_7_method_19_code 83 = .ok (.dup, 1) := by decide +kernel
theorem d_Ru_isSo_84 : decode prog_7_method_19_code 84 = .ok (.getfield 94, 3) := by decide +kernel
theorem d_Ru_isSo_87 : decode prog_7_method_19_code 87 = .ok (.iconst 1, 1) := by decide +kernel
theorem d_Ru_isSo_88 : decode prog_7_method_19_code 88 = .ok (.iadd, 1) := by decide +kernel
theorem d_Ru_isSo_89 : decode prog_7_method_19_code 89 = .ok (.putfield 94, 3) := by decide +kernel
theorem d_Ru_isSo_92 : decode prog_7_method_19_code 92 = .ok (.iload 6, 2) := by decide +kernel
theorem d_Ru_isSo_94 : decode prog_7_method_19_code 94 = .ok (.bipush 33, 2) := by decide +kernel
theorem d_Ru_isSo_96 : decode prog_7_method_19_code 96 = .ok (.if_icmp .ne 16, 3) := by decide +kernel
theorem d_Ru_isSo_99 : decode prog_7_method_19_code 99 = .ok (.iload_n 3, 1) := by decide +kernel
theorem d_Ru_isSo_100 : decode prog_7_method_19_code 100 = .ok (.ifCond .ne 7, 3) := by decide +kernel
theorem d_Ru_isSo_103 : decode prog_7_method_19_code 103 = .ok (.iconst 1, 1) := by decide +kernel
theorem d_Ru_isSo_104 : decode prog_7_method_19_code 104 = .ok (.goto 4, 3) := by decide +kernel
theorem d_Ru_isSo_107 : decode prog_7_method_19_code 107 = .ok (.iconst 0, 1) := by decide +kernel
theorem d_Ru_isSo_108 : decode prog_7_method_19_code 108 = .ok (.istore_n 3, 1) := by decide +kernel
theorem d_Ru_isSo_109 : decode prog_7_method_19_code 109 = .ok (.goto 70, 3) := by decide +kernel
theorem d_Ru_isSo_112 : decode prog_7_method_19_code 112 = .ok (.iload 6, 2) := by decide +kernel
theorem d_Ru_isSo_114 : decode prog_7_method_19_code 114 = .ok (.bipush 40, 2) := by decide +kernel
theorem d_Ru_isSo_116 : decode prog_7_method_19_code 116 = .ok (.if_icmp .ne 18, 3) := by decide +kernel
theorem d_Ru_isSo_119 : decode prog_7_method_19_code 119 = .ok (.iinc 4 1, 3) := by decide +kernel
theorem d_Ru_isSo_122 : decode prog_7_method_19_code 122 = .ok (.aload_n 0, 1) := by decide +kernel
theorem d_Ru_isSo_123 : decode prog_7_method_19_code 123 = .ok (.iload 4, 2) := by decide +kernel
theorem d_Ru_isSo_125 : decode prog_7_method_19_code 125 = .ok (.iload_n 3, 1) := by decide +kernel
theorem d_Ru_isSo_126 : decode prog_7_method_19_code 126 = .ok (.invokevirtual 101, 3) := by decide +kernel
theorem d_Ru_isSo_129 : decode prog_7_method_19_code 129 = .ok (.iconst 0, 1) := by decide +kernel
theorem d_Ru_isSo_130 : decode prog_7_method_19_code 130 = .ok (.istore_n 3, 1) := by decide +kernel
theorem d_Ru_isSo_131 : decode prog_7_method_19_code 131 = .ok (.goto 48, 3) := by decide +kernel
theorem d_Ru_isSo_134 : decode prog_7_method_19_code 134 = .ok (.iload 6, 2) := by decide +kernel
theorem d_Ru_isSo_136 : decode prog_7_method_19_code 136 = .ok (.bipush 41, 2) := by decide +kernel
theorem d_Ru_isSo_138 : decode prog_7_method_19_code 138 = .ok (.if_icmp .ne 28, 3) := by decide +kernel
theorem d_Ru_isSo_141 : decode prog_7_method_19_code 141 = .ok (.iload 4, 2) := by decide +kernel
theorem d_Ru_isSo_143 : decode prog_7_method_19_code 143 = .ok (.ifCond .le 23, 3) := by decide +kernel
theorem d_Ru_isSo_146 : decode prog_7_method_19_code 146 = .ok (.iinc 4 (-1), 3) := by decide +kernel
theorem d_Ru_isSo_149 : decode prog_7_method_19_code 149 = .ok (.aload_n 0, 1) := by decide +kernel
theorem d_Ru_isSo_150 : decode prog_7_method_19_code 150 = .ok (.iload 4, 2) := by decide +kernel
theorem d_Ru_isSo_152 : decode prog_7_method_19_code 152 = .ok (.aload_n 0, 1) := by decide +kernel
theorem d_Ru_isSo_153 : decode prog_7_method_19_code 153 = .ok (.iload 4, 2) := by decide +kernel
theorem d_Ru_isSo_155 : decode prog_7_method_19_code 155 = .ok (.iconst 1, 1) := by decide +kernel
theorem d_Ru_isSo_156 : decode prog_7_method_19_code 156 = .ok (.iadd, 1) := by decide +kernel
theorem d_Ru_isSo_157 : decode prog_7_method_19_code 157 = .ok (.invokevirtual 111, 3) := by decide +kernel
theorem d_Ru_isSo_160 : decode prog_7_method_19_code 160 = .ok (.invokevirtual 108, 3) := by decide +kernel
theorem d_Ru_isSo_163 : decode prog_7_method_19_code 163 = .ok (.goto 16, 3) := by decide +kernel
theorem d_Ru_isSo_166 : decode prog_7_method_19_code 166 = .ok (.iload 6, 2) := by decide +kernel
theorem d_Ru_isSo_168 : decode prog_7_method_19_code 168 = .ok (.bipush 124, 2) := by decide +kernel
theorem d_Ru_isSo_170 : decode prog_7_method_19_code 170 = .ok (.if_icmp .ne 9, 3) := by decide +kernel
theorem d_Ru_isSo_173 : decode prog_7_method_19_code 173 = .ok (.aload_n 0, 1) := by decide +kernel
theorem d_Ru_isSo_174 : decode prog_7_method_19_code 174 = .ok (.iload 4, 2) := by decide +kernel
theorem d_Ru_isSo_176 : decode prog_7_method_19_code 176 = .ok (.invokevirtual 114, 3) := by decide +kernel
theorem d_Ru_isSo_179 : decode prog_7_method_19_code 179 = .ok (.iinc 5 1, 3) := by decide +kernel
theorem d_Ru_isSo_182 : decode prog_7_method_19_code 182 = .ok (.goto (-168), 3) := by decide +kernel
theorem d_Ru_isSo_185 : decode prog_7_method_19_code 185 = .ok (.aload_n 0, 1) := by decide +kernel
theorem d_Ru_isSo_186 : decode prog_7_method_19_code 186 = .ok (.iconst 0, 1) := by decide +kernel
theorem d_Ru_isSo_187 : decode prog_7_method_19_code 187 = .ok (.invokevirtual 111, 3) := by decide +kernel
theorem d_Ru_isSo_190 : decode prog_7_method_19_code 190 = .ok (.ireturn, 1) := by decide +kernel
set_option maxHeartbeats 4000000 in
set_option maxRecDepth 100000 in
theorem K_Ru_isSo_14 {F : FT} (hD : ∀ σ, va_D F.2.2.1 (GW F.2.1 σ)) (hm : F.2.2.2.2.2.2.2.2.2.2.2.2.2.2.1 = 7) (ok : OkF F prog_7_method_19_code "LastSeen$Rules" ({ frames := 2, cells := 0, slots := 0, locals := 48 } : Room)) {Q : Int → SS → Prop} (hQ : RetZ F Q) {x1 x3 x4 x5 : Int} {s : SS} (h : B_Ru_isSo_14 Q (fun x1 x3 x4 x5 s => AtS F 14 [(0, .ref (F.2.1.1 7)), (1, vI x1), (2, .ref (F.2.1.1 6)), (3, vI x3), (4, vI x4), (5, vI x5)] [] s) x1 x3 x4 x5 s) : AtS F 14 [(0, .ref (F.2.1.1 7)), (1, vI x1), (2, .ref (F.2.1.1 6)), (3, vI x3), (4, vI x4), (5, vI x5)] [] s := by
  unfold B_Ru_isSo_14 at h
  refine r_iload ok 5 d_Ru_isSo_14 rfl ?_
  refine r_sipush ok 200 d_Ru_isSo_16 (by decide) ?_
  refine r_icmp_ge ok 185 d_Ru_isSo_19 (by decide) h.1 (by decide) (fun c => ?_) (fun c => ?_)
  · replace h := h.2.1 c
    refine r_aload_n ok 0 d_Ru_isSo_185 rfl rfl ?_
    refine r_iconst ok 0 d_Ru_isSo_186 rfl ?_
    refine r_callVi (As := [vI 0]) (rest := []) ok 7 rfl rfl rfl wl_Ru_111 wi_y_Ru_groupIsSo ws_y_Ru_groupIsSo wn_Ru wc_y_Ru_groupIsSo (by decide) (by decide) hh_Ru_groupIsSo (Nat.le_of_ble_eq_true rfl) rfl d_Ru_isSo_187 (L_Ru_groupIsSo F.1 F.2.1 F.2.2.1 hD h) (fun r3 s2 h => ?_)
    exact hQ _ _ _ _ _ (ok_code ok) d_Ru_isSo_190 h.1 h.2
  · replace h := h.2.2 c
    refine r_aload_n ok 0 d_Ru_isSo_22 rfl rfl ?_
    refine r_iload_n ok 1 d_Ru_isSo_23 rfl rfl ?_
    refine r_aload_n ok 0 d_Ru_isSo_24 rfl rfl ?_
    refine g_Ru_cursor ok d_Ru_isSo_25 ?_
    refine r_callVi (As := [vI x1, vI (s.1 23)]) (rest := []) ok 7 rfl rfl rfl wl_Ru_91 wi_y_Ru_textAt ws_y_Ru_textAt wn_Ru wc_y_Ru_textAt (by decide) (by decide) hh_Ru_textAt (Nat.le_of_ble_eq_true rfl) rfl d_Ru_isSo_28 (L_Ru_textAt F.1 F.2.1 F.2.2.1 hD h) (fun r5 s4 h => ?_)
    refine r_istore ok [(6, vI r5), (0, .ref (F.2.1.1 7)), (1, vI x1), (2, .ref (F.2.1.1 6)), (3, vI x3), (4, vI x4), (5, vI x5)] d_Ru_isSo_31 hm (by decide) rfl ?_
    refine r_iload ok 0 d_Ru_isSo_33 rfl ?_
    refine r_if_lt ok 185 d_Ru_isSo_35 (by decide) h.1 (fun c => ?_) (fun c => ?_)
    · replace h := h.2.1 c
      refine r_aload_n ok 1 d_Ru_isSo_185 rfl rfl ?_
      refine r_iconst ok 0 d_Ru_isSo_186 rfl ?_
      refine r_callVi (As := [vI 0]) (rest := []) ok 7 rfl rfl rfl wl_Ru_111 wi_y_Ru_groupIsSo ws_y_Ru_groupIsSo wn_Ru wc_y_Ru_groupIsSo (by decide) (by decide) hh_Ru_groupIsSo (Nat.le_of_ble_eq_true rfl) rfl d_Ru_isSo_187 (L_Ru_groupIsSo F.1 F.2.1 F.2.2.1 hD h) (fun r7 s6 h => ?_)
      exact hQ _ _ _ _ _ (ok_code ok) d_Ru_isSo_190 h.1 h.2
    · replace h := h.2.2 c
      refine r_iload ok 0 d_Ru_isSo_38 rfl ?_
      refine r_bipush ok 62 d_Ru_isSo_40 (by decide) ?_
      refine r_icmp_ne ok 48 d_Ru_isSo_42 (by decide) h.1 (by decide) (fun c => ?_) (fun c => ?_)
      · replace h := h.2.1 c
        refine r_iload ok 0 d_Ru_isSo_48 rfl ?_
        refine r_callSi (As := [vI r5]) (rest := []) ok wl_Ru_81 wt_y_Ru_isLetter wn_Ru wc_y_Ru_isLetter (by decide) (by decide) hh_Ru_isLetter (Nat.le_of_ble_eq_true rfl) rfl d_Ru_isSo_50 (L_Ru_isLetter F.1 F.2.1 F.2.2.1 hD h) (fun r9 s8 h => ?_)
        refine r_if_eq ok 82 d_Ru_isSo_53 (by decide) h.1 (fun c => ?_) (fun c => ?_)
        · replace h := h.2.1 c
          refine r_aload_n ok 1 d_Ru_isSo_82 rfl rfl ?_
          refine r_dup ok d_Ru_isSo_83 rfl ?_
          refine g_Ru_cursor ok d_Ru_isSo_84 ?_
          refine r_iconst ok 1 d_Ru_isSo_87 rfl ?_
          refine r_iadd ok d_Ru_isSo_88 ?_
          refine p_Ru_cursor ok d_Ru_isSo_89 ?_
          replace h := h _ rfl
          generalize sF s8 23 ((s8.1 23) + 1) = s10 at h ⊢
          refine r_iload ok 0 d_Ru_isSo_92 rfl ?_
          refine r_bipush ok 33 d_Ru_isSo_94 (by decide) ?_
          refine r_icmp_ne ok 112 d_Ru_isSo_96 (by decide) h.1 (by decide) (fun c => ?_) (fun c => ?_)
          · replace h := h.2.1 c
            refine r_iload ok 0 d_Ru_isSo_112 rfl ?_
            refine r_bipush ok 40 d_Ru_isSo_114 (by decide) ?_
            refine r_icmp_ne ok 134 d_Ru_isSo_116 (by decide) h.1 (by decide) (fun c => ?_) (fun c => ?_)
            · replace h := h.2.1 c
              refine r_iload ok 0 d_Ru_isSo_134 rfl ?_
              refine r_bipush ok 41 d_Ru_isSo_136 (by decide) ?_
              refine r_icmp_ne ok 166 d_Ru_isSo_138 (by decide) h.1 (by decide) (fun c => ?_) (fun c => ?_)
              · replace h := h.2.1 c
                refine r_iload ok 0 d_Ru_isSo_166 rfl ?_
                refine r_bipush ok 124 d_Ru_isSo_168 (by decide) ?_
                refine r_icmp_ne ok 179 d_Ru_isSo_170 (by decide) h.1 (by decide) (fun c => ?_) (fun c => ?_)
                · replace h := h.2.1 c
                  refine r_iinc ok 6 (x5 + 1) [(5, vI (x5 + 1)), (6, vI r5), (0, .ref (F.2.1.1 7)), (1, vI x1), (2, .ref (F.2.1.1 6)), (3, vI x3), (4, vI x4)] d_Ru_isSo_179 rfl rfl hm (by decide) rfl ?_
                  refine r_goto ok 14 d_Ru_isSo_182 (by decide) ?_
                  exact r_sub [2, 3, 4, 5, 6, 0] rfl h
                · replace h := h.2.2 c
                  refine r_aload_n ok 1 d_Ru_isSo_173 rfl rfl ?_
                  refine r_iload ok 5 d_Ru_isSo_174 rfl ?_
                  refine r_callVv (As := [vI x4]) (rest := []) ok 7 rfl rfl rfl wl_Ru_114 wi_y_Ru_closeRow ws_y_Ru_closeRow wn_Ru wc_y_Ru_closeRow (by decide) (by decide) hh_Ru_closeRow (Nat.le_of_ble_eq_true rfl) rfl d_Ru_isSo_176 (L_Ru_closeRow F.1 F.2.1 F.2.2.1 hD h) (fun s11 h => ?_)
                  refine r_iinc ok 6 (x5 + 1) [(5, vI (x5 + 1)), (6, vI r5), (0, .ref (F.2.1.1 7)), (1, vI x1), (2, .ref (F.2.1.1 6)), (3, vI x3), (4, vI x4)] d_Ru_isSo_179 rfl rfl hm (by decide) rfl ?_
                  refine r_goto ok 14 d_Ru_isSo_182 (by decide) ?_
                  exact r_sub [2, 3, 4, 5, 6, 0] rfl h
              · replace h := h.2.2 c
                refine r_iload ok 5 d_Ru_isSo_141 rfl ?_
                refine r_if_le ok 166 d_Ru_isSo_143 (by decide) h.1 (fun c => ?_) (fun c => ?_)
                · replace h := h.2.1 c
                  refine r_iload ok 0 d_Ru_isSo_166 rfl ?_
                  refine r_bipush ok 124 d_Ru_isSo_168 (by decide) ?_
                  refine r_icmp_ne ok 179 d_Ru_isSo_170 (by decide) h.1 (by decide) (fun c => ?_) (fun c => ?_)
                  · replace h := h.2.1 c
                    refine r_iinc ok 6 (x5 + 1) [(5, vI (x5 + 1)), (6, vI r5), (0, .ref (F.2.1.1 7)), (1, vI x1), (2, .ref (F.2.1.1 6)), (3, vI x3), (4, vI x4)] d_Ru_isSo_179 rfl rfl hm (by decide) rfl ?_
                    refine r_goto ok 14 d_Ru_isSo_182 (by decide) ?_
                    exact r_sub [2, 3, 4, 5, 6, 0] rfl h
                  · replace h := h.2.2 c
                    refine r_aload_n ok 1 d_Ru_isSo_173 rfl rfl ?_
                    refine r_iload ok 5 d_Ru_isSo_174 rfl ?_
                    refine r_callVv (As := [vI x4]) (rest := []) ok 7 rfl rfl rfl wl_Ru_114 wi_y_Ru_closeRow ws_y_Ru_closeRow wn_Ru wc_y_Ru_closeRow (by decide) (by decide) hh_Ru_closeRow (Nat.le_of_ble_eq_true rfl) rfl d_Ru_isSo_176 (L_Ru_closeRow F.1 F.2.1 F.2.2.1 hD h) (fun s12 h => ?_)
                    refine r_iinc ok 6 (x5 + 1) [(5, vI (x5 + 1)), (6, vI r5), (0, .ref (F.2.1.1 7)), (1, vI x1), (2, .ref (F.2.1.1 6)), (3, vI x3), (4, vI x4)] d_Ru_isSo_179 rfl rfl hm (by decide) rfl ?_
                    refine r_goto ok 14 d_Ru_isSo_182 (by decide) ?_
                    exact r_sub [2, 3, 4, 5, 6, 0] rfl h
                · replace h := h.2.2 c
                  refine r_iinc ok 5 (x4 + (-1)) [(4, vI (x4 + (-1))), (6, vI r5), (0, .ref (F.2.1.1 7)), (1, vI x1), (2, .ref (F.2.1.1 6)), (3, vI x3), (5, vI x5)] d_Ru_isSo_146 rfl rfl hm (by decide) rfl ?_
                  refine r_aload_n ok 2 d_Ru_isSo_149 rfl rfl ?_
                  refine r_iload ok 0 d_Ru_isSo_150 rfl ?_
                  refine r_aload_n ok 2 d_Ru_isSo_152 rfl rfl ?_
                  refine r_iload ok 0 d_Ru_isSo_153 rfl ?_
                  refine r_iconst ok 1 d_Ru_isSo_155 rfl ?_
                  refine r_iadd ok d_Ru_isSo_156 ?_
                  refine r_callVi (As := [vI ((x4 + (-1)) + 1)]) (rest := [vI (x4 + (-1)), .ref (F.2.1.1 7)]) ok 7 rfl rfl rfl wl_Ru_111 wi_y_Ru_groupIsSo ws_y_Ru_groupIsSo wn_Ru wc_y_Ru_groupIsSo (by decide) (by decide) hh_Ru_groupIsSo (Nat.le_of_ble_eq_true rfl) rfl d_Ru_isSo_157 (L_Ru_groupIsSo F.1 F.2.1 F.2.2.1 hD h) (fun r14 s13 h => ?_)
                  refine r_callVv (As := [vI (x4 + (-1)), vI r14]) (rest := []) ok 7 rfl rfl rfl wl_Ru_108 wi_y_Ru_joinRow ws_y_Ru_joinRow wn_Ru wc_y_Ru_joinRow (by decide) (by decide) hh_Ru_joinRow (Nat.le_of_ble_eq_true rfl) rfl d_Ru_isSo_160 (L_Ru_joinRow F.1 F.2.1 F.2.2.1 hD h) (fun s15 h => ?_)
                  refine r_goto ok 179 d_Ru_isSo_163 (by decide) ?_
                  refine r_iinc ok 6 (x5 + 1) [(5, vI (x5 + 1)), (4, vI (x4 + (-1))), (6, vI r5), (0, .ref (F.2.1.1 7)), (1, vI x1), (2, .ref (F.2.1.1 6)), (3, vI x3)] d_Ru_isSo_179 rfl rfl hm (by decide) rfl ?_
                  refine r_goto ok 14 d_Ru_isSo_182 (by decide) ?_
                  exact r_sub [3, 4, 5, 6, 1, 0] rfl h
            · replace h := h.2.2 c
              refine r_iinc ok 5 (x4 + 1) [(4, vI (x4 + 1)), (6, vI r5), (0, .ref (F.2.1.1 7)), (1, vI x1), (2, .ref (F.2.1.1 6)), (3, vI x3), (5, vI x5)] d_Ru_isSo_119 rfl rfl hm (by decide) rfl ?_
              refine r_aload_n ok 2 d_Ru_isSo_122 rfl rfl ?_
              refine r_iload ok 0 d_Ru_isSo_123 rfl ?_
              refine r_iload_n ok 5 d_Ru_isSo_125 rfl rfl ?_
              refine r_callVv (As := [vI (x4 + 1), vI x3]) (rest := []) ok 7 rfl rfl rfl wl_Ru_101 wi_y_Ru_openGroup ws_y_Ru_openGroup wn_Ru wc_y_Ru_openGroup (by decide) (by decide) hh_Ru_openGroup (Nat.le_of_ble_eq_true rfl) rfl d_Ru_isSo_126 (L_Ru_openGroup F.1 F.2.1 F.2.2.1 hD h) (fun s16 h => ?_)
              refine r_iconst ok 0 d_Ru_isSo_129 rfl ?_
              refine r_istore_n ok [(3, vI 0), (4, vI (x4 + 1)), (6, vI r5), (0, .ref (F.2.1.1 7)), (1, vI x1), (2, .ref (F.2.1.1 6)), (5, vI x5)] d_Ru_isSo_130 rfl hm (by decide) rfl ?_
              refine r_goto ok 179 d_Ru_isSo_131 (by decide) ?_
              refine r_iinc ok 6 (x5 + 1) [(5, vI (x5 + 1)), (3, vI 0), (4, vI (x4 + 1)), (6, vI r5), (0, .ref (F.2.1.1 7)), (1, vI x1), (2, .ref (F.2.1.1 6))] d_Ru_isSo_179 rfl rfl hm (by decide) rfl ?_
              refine r_goto ok 14 d_Ru_isSo_182 (by decide) ?_
              exact r_sub [4, 5, 6, 1, 2, 0] rfl h
          · replace h := h.2.2 c
            refine r_iload_n ok 4 d_Ru_isSo_99 rfl rfl ?_
            refine r_if_ne ok 107 d_Ru_isSo_100 (by decide) h.1 (fun c => ?_) (fun c => ?_)
            · replace h := h.2.1 c
              refine r_iconst ok 0 d_Ru_isSo_107 rfl ?_
              refine r_istore_n ok [(3, vI 0), (6, vI r5), (0, .ref (F.2.1.1 7)), (1, vI x1), (2, .ref (F.2.1.1 6)), (4, vI x4), (5, vI x5)] d_Ru_isSo_108 rfl hm (by decide) rfl ?_
              refine r_goto ok 179 d_Ru_isSo_109 (by decide) ?_
              refine r_iinc ok 6 (x5 + 1) [(5, vI (x5 + 1)), (3, vI 0), (6, vI r5), (0, .ref (F.2.1.1 7)), (1, vI x1), (2, .ref (F.2.1.1 6)), (4, vI x4)] d_Ru_isSo_179 rfl rfl hm (by decide) rfl ?_
              refine r_goto ok 14 d_Ru_isSo_182 (by decide) ?_
              exact r_sub [3, 4, 5, 1, 6, 0] rfl h
            · replace h := h.2.2 c
              refine r_iconst ok 1 d_Ru_isSo_103 rfl ?_
              refine r_goto ok 108 d_Ru_isSo_104 (by decide) ?_
              refine r_istore_n ok [(3, vI 1), (6, vI r5), (0, .ref (F.2.1.1 7)), (1, vI x1), (2, .ref (F.2.1.1 6)), (4, vI x4), (5, vI x5)] d_Ru_isSo_108 rfl hm (by decide) rfl ?_
              refine r_goto ok 179 d_Ru_isSo_109 (by decide) ?_
              refine r_iinc ok 6 (x5 + 1) [(5, vI (x5 + 1)), (3, vI 1), (6, vI r5), (0, .ref (F.2.1.1 7)), (1, vI x1), (2, .ref (F.2.1.1 6)), (4, vI x4)] d_Ru_isSo_179 rfl rfl hm (by decide) rfl ?_
              refine r_goto ok 14 d_Ru_isSo_182 (by decide) ?_
              exact r_sub [3, 4, 5, 1, 6, 0] rfl h
        · replace h := h.2.2 c
          refine r_aload_n ok 1 d_Ru_isSo_56 rfl rfl ?_
          refine r_iload ok 5 d_Ru_isSo_57 rfl ?_
          refine r_aload_n ok 1 d_Ru_isSo_59 rfl rfl ?_
          refine r_iload_n ok 2 d_Ru_isSo_60 rfl rfl ?_
          refine r_aload_n ok 3 d_Ru_isSo_61 rfl rfl ?_
          refine r_callVi (As := [vI x1, .ref (F.2.1.1 6)]) (rest := [vI x4, .ref (F.2.1.1 7)]) ok 7 rfl rfl rfl wl_Ru_105 wi_y_Ru_factIsSo ws_y_Ru_factIsSo wn_Ru wc_y_Ru_factIsSo (by decide) (by decide) hh_Ru_factIsSo (Nat.le_of_ble_eq_true rfl) rfl d_Ru_isSo_62 (L_Ru_factIsSo F.1 F.2.1 F.2.2.1 hD h) (fun r18 s17 h => ?_)
          refine r_iload_n ok 4 d_Ru_isSo_65 rfl rfl ?_
          refine r_icmp_eq ok 73 d_Ru_isSo_66 (by decide) h.1 h.2.1 (fun c => ?_) (fun c => ?_)
          · replace h := h.2.2.1 c
            refine r_iconst ok 0 d_Ru_isSo_73 rfl ?_
            refine r_callVv (As := [vI x4, vI 0]) (rest := []) ok 7 rfl rfl rfl wl_Ru_108 wi_y_Ru_joinRow ws_y_Ru_joinRow wn_Ru wc_y_Ru_joinRow (by decide) (by decide) hh_Ru_joinRow (Nat.le_of_ble_eq_true rfl) rfl d_Ru_isSo_74 (L_Ru_joinRow F.1 F.2.1 F.2.2.1 hD h) (fun s19 h => ?_)
            refine r_iconst ok 0 d_Ru_isSo_77 rfl ?_
            refine r_istore_n ok [(3, vI 0), (6, vI r5), (0, .ref (F.2.1.1 7)), (1, vI x1), (2, .ref (F.2.1.1 6)), (4, vI x4), (5, vI x5)] d_Ru_isSo_78 rfl hm (by decide) rfl ?_
            refine r_goto ok 179 d_Ru_isSo_79 (by decide) ?_
            refine r_iinc ok 6 (x5 + 1) [(5, vI (x5 + 1)), (3, vI 0), (6, vI r5), (0, .ref (F.2.1.1 7)), (1, vI x1), (2, .ref (F.2.1.1 6)), (4, vI x4)] d_Ru_isSo_179 rfl rfl hm (by decide) rfl ?_
            refine r_goto ok 14 d_Ru_isSo_182 (by decide) ?_
            exact r_sub [3, 4, 5, 1, 6, 0] rfl h
          · replace h := h.2.2.2 c
            refine r_iconst ok 1 d_Ru_isSo_69 rfl ?_
            refine r_goto ok 74 d_Ru_isSo_70 (by decide) ?_
            refine r_callVv (As := [vI x4, vI 1]) (rest := []) ok 7 rfl rfl rfl wl_Ru_108 wi_y_Ru_joinRow ws_y_Ru_joinRow wn_Ru wc_y_Ru_joinRow (by decide) (by decide) hh_Ru_joinRow (Nat.le_of_ble_eq_true rfl) rfl d_Ru_isSo_74 (L_Ru_joinRow F.1 F.2.1 F.2.2.1 hD h) (fun s20 h => ?_)
            refine r_iconst ok 0 d_Ru_isSo_77 rfl ?_
            refine r_istore_n ok [(3, vI 0), (6, vI r5), (0, .ref (F.2.1.1 7)), (1, vI x1), (2, .ref (F.2.1.1 6)), (4, vI x4), (5, vI x5)] d_Ru_isSo_78 rfl hm (by decide) rfl ?_
            refine r_goto ok 179 d_Ru_isSo_79 (by decide) ?_
            refine r_iinc ok 6 (x5 + 1) [(5, vI (x5 + 1)), (3, vI 0), (6, vI r5), (0, .ref (F.2.1.1 7)), (1, vI x1), (2, .ref (F.2.1.1 6)), (4, vI x4)] d_Ru_isSo_179 rfl rfl hm (by decide) rfl ?_
            refine r_goto ok 14 d_Ru_isSo_182 (by decide) ?_
            exact r_sub [3, 4, 5, 1, 6, 0] rfl h
      · replace h := h.2.2 c
        refine r_goto ok 185 d_Ru_isSo_45 (by decide) ?_
        refine r_aload_n ok 1 d_Ru_isSo_185 rfl rfl ?_
        refine r_iconst ok 0 d_Ru_isSo_186 rfl ?_
        refine r_callVi (As := [vI 0]) (rest := []) ok 7 rfl rfl rfl wl_Ru_111 wi_y_Ru_groupIsSo ws_y_Ru_groupIsSo wn_Ru wc_y_Ru_groupIsSo (by decide) (by decide) hh_Ru_groupIsSo (Nat.le_of_ble_eq_true rfl) rfl d_Ru_isSo_187 (L_Ru_groupIsSo F.1 F.2.1 F.2.2.1 hD h) (fun r22 s21 h => ?_)
        exact hQ _ _ _ _ _ (ok_code ok) d_Ru_isSo_190 h.1 h.2
set_option maxHeartbeats 4000000 in
set_option maxRecDepth 100000 in
theorem K_Ru_isSo_e {F : FT} (hD : ∀ σ, va_D F.2.2.1 (GW F.2.1 σ)) (hm : F.2.2.2.2.2.2.2.2.2.2.2.2.2.2.1 = 7) (ok : OkF F prog_7_method_19_code "LastSeen$Rules" ({ frames := 2, cells := 0, slots := 0, locals := 48 } : Room)) {Q : Int → SS → Prop} (hQ : RetZ F Q) {x1 : Int} {s : SS} (h : B_Ru_isSo_e Q (fun x1 x3 x4 x5 s => AtS F 14 [(0, .ref (F.2.1.1 7)), (1, vI x1), (2, .ref (F.2.1.1 6)), (3, vI x3), (4, vI x4), (5, vI x5)] [] s) x1 s) : AtS F 0 [(0, .ref (F.2.1.1 7)), (1, vI x1), (2, .ref (F.2.1.1 6))] [] s := by
  unfold B_Ru_isSo_e at h
  refine r_iconst ok 0 d_Ru_isSo_0 rfl ?_
  refine r_istore_n ok [(3, vI 0), (0, .ref (F.2.1.1 7)), (1, vI x1), (2, .ref (F.2.1.1 6))] d_Ru_isSo_1 rfl hm (by decide) rfl ?_
  refine r_iconst ok 0 d_Ru_isSo_2 rfl ?_
  refine r_istore ok [(4, vI 0), (3, vI 0), (0, .ref (F.2.1.1 7)), (1, vI x1), (2, .ref (F.2.1.1 6))] d_Ru_isSo_3 hm (by decide) rfl ?_
  refine r_aload_n ok 2 d_Ru_isSo_5 rfl rfl ?_
  refine r_iconst ok 0 d_Ru_isSo_6 rfl ?_
  refine r_iconst ok 0 d_Ru_isSo_7 rfl ?_
  refine r_callVv (As := [vI 0, vI 0]) (rest := []) ok 7 rfl rfl rfl wl_Ru_101 wi_y_Ru_openGroup ws_y_Ru_openGroup wn_Ru wc_y_Ru_openGroup (by decide) (by decide) hh_Ru_openGroup (Nat.le_of_ble_eq_true rfl) rfl d_Ru_isSo_8 (L_Ru_openGroup F.1 F.2.1 F.2.2.1 hD h) (fun s1 h => ?_)
  refine r_iconst ok 0 d_Ru_isSo_11 rfl ?_
  refine r_istore ok [(5, vI 0), (4, vI 0), (3, vI 0), (0, .ref (F.2.1.1 7)), (1, vI x1), (2, .ref (F.2.1.1 6))] d_Ru_isSo_12 hm (by decide) rfl ?_
  exact r_sub [3, 4, 5, 2, 1, 0] rfl h
theorem L_Ru_isSo (l : Launch) (G : GE) (A : Nat → Prop) (hD : ∀ σ, va_D A (GW G σ)) {x1 : Int} {s : SS} {Q : Int → SS → Prop} (h : Sp_Ru_isSo x1 s Q) : Met l y_Ru_isSo (Cond.code y_Ru_isSo prog_7_method_19_code 7 (some .boolean) :: lw_ok) ({ frames := 2, cells := 0, slots := 0, locals := 48 } : Room) (va_Pc [.ref (G.1 7), vI x1, .ref (G.1 6)] (gB G s)) (va_Qi (fun (r : Int32) (s2 : SS) => ∃ x : Int, r = iI x ∧ Q x s2) (fun s2 t => gB G s2 t) A) 0 0 A := by
  refine met_z hD (by decide) ⟨rfl, rfl⟩ (Nat.le_of_ble_eq_true rfl) (lv := [(0, .ref (G.1 7)), (1, vI x1), (2, .ref (G.1 6))]) rfl (fun F h1 h2 h3 hm ok hQ => ?_)
  subst h1 h2 h3
  have hDF := hD
  exact K_Ru_isSo_e hDF hm ok hQ (h _ (fun _ _ _ _ _ hb => K_Ru_isSo_14 hDF hm ok hQ hb))
theorem d_Ru_decide_0 : decode prog_7_method_18_code 0 = .ok (.aload_n 0, 1) := by decide +kernel
theorem d_Ru_decide_1 : decode prog_7_method_18_code 1 = .ok (.iconst 0, 1) := by decide +kernel
theorem d_Ru_decide_2 : decode prog_7_method_18_code 2 = .ok (.putfield 94, 3) := by decide +kernel
theorem d_Ru_decide_5 : decode prog_7_method_18_code 5 = .ok (.iconst 1, 1) := by decide +kernel
theorem d_Ru_decide_6 : decode prog_7_method_18_code 6 = .ok (.istore_n 3, 1) := by decide +kernel
theorem d_Ru_decide_7 : decode prog_7_method_18_code 7 = .ok (.iload_n 3, 1) := by decide +kernel
theorem d_Ru_decide_8 : decode prog_7_method_18_code 8 = .ok (.aload_n 0, 1) := by decide +kernel
theorem d_Ru_decide_9 : decode prog_7_method_18_code 9 = .ok (.getfield 19, 3) := by decide +kernel
theorem d_Ru_decide_12 : decode prog_7_method_18_code 12 = .ok (.iload_n 1, 1) := by decide +kernel
theorem d_Ru_decide_13 : decode prog_7_method_18_code 13 = .ok (.iaload, 1) := by decide +kernel
theorem d_Ru_decide_14 : decode prog_7_method_18_code 14 = .ok (.if_icmp .ge 51, 3) := by decide +kernel
theorem d_Ru_decide_17 : decode prog_7_method_18_code 17 = .ok (.aload_n 0, 1) := by decide +kernel
theorem d_Ru_decide_18 : decode prog_7_method_18_code 18 = .ok (.iload_n 1, 1) := by decide +kernel
theorem d_Ru_decide_19 : decode prog_7_method_18_code 19 = .ok (.aload_n 2, 1) := by decide +kernel
theorem d_Ru_decide_20 : decode prog_7_method_18_code 20 = .ok (.invokevirtual 97, 3) := by decide +kernel
theorem d_Ru_decide_23 : decode prog_7_method_18_code 23 = .ok (.istore 4, 2) := by decide +kernel
theorem d_Ru_decide_25 : decode prog_7_method_18_code 25 = .ok (.aload_n 0, 1) := by decide +kernel
theorem d_Ru_decide_26 : decode prog_7_method_18_code 26 = .ok (.iload_n 1, 1) := by decide +kernel
theorem d_Ru_decide_27 : decode prog_7_method_18_code 27 = .ok (.aload_n 0, 1) := by decide +kernel
theorem d_Ru_decide_28 : decode prog_7_method_18_code 28 = .ok (.getfield 94, 3) := by decide +kernel
theorem d_Ru_decide_31 : decode prog_7_method_18_code 31 = .ok (.iconst 1, 1) := by decide +kernel
theorem d_Ru_decide_32 : decode prog_7_method_18_code 32 = .ok (.iadd, 1) := by decide +kernel
theorem d_Ru_decide_33 : decode prog_7_method_18_code 33 = .ok (.invokevirtual 91, 3) := by decide +kernel
theorem d_Ru_decide_36 : decode prog_7_method_18_code 36 = .ok (.bipush 48, 2) := by decide +kernel
theorem d_Ru_decide_38 : decode prog_7_method_18_code 38 = .ok (.isub, 1) := by decide +kernel
theorem d_Ru_decide_39 : decode prog_7_method_18_code 39 = .ok (.istore 5, 2) := by decide +kernel
theorem d_Ru_decide_41 : decode prog_7_method_18_code 41 = .ok (.iload 4, 2) := by decide +kernel
theorem d_Ru_decide_43 : decode prog_7_method_18_code 43 = .ok (.ifCond .eq 6, 3) := by decide +kernel
theorem d_Ru_decide_46 : decode prog_7_method_18_code 46 = .ok (.iload 5, 2) := by decide +kernel
theorem d_Ru_decide_48 : decode prog_7_method_18_code 48 = .ok (.ireturn, 1) := by decide +kernel
theorem d_Ru_decide_49 : decode prog_7_method_18_code 49 = .ok (.aload_n 0, 1) := by decide +kernel
theorem d_Ru_decide_50 : decode prog_7_method_18_code 50 = .ok (.dup, 1) := by decide +kernel
theorem d_Ru_decide_51 : decode prog_7_method_18_code 51 = .ok (.getfield 94, 3) := by decide +kernel
theorem d_Ru_decide_54 : decode prog_7_method_18_code 54 = .ok (.iconst 3, 1) := by decide +kernel
theorem d_Ru_decide_55 : decode prog_7_method_18_code 55 = .ok (.iadd, 1) := by decide +kernel
theorem d_Ru_decide_56 : decode prog_7_method_18_code 56 = .ok (.putfield 94, 3) := by decide +kernel
theorem d_Ru_decide_59 : decode prog_7_method_18_code 59 = .ok (.iinc 3 1, 3) := by decide +kernel
theorem d_Ru_decide_62 : decode prog_7_method_18_code 62 = .ok (.goto (-55), 3) := by decide +kernel
theorem d_Ru_decide_65 : decode prog_7_method_18_code 65 = .ok (.aload_n 0, 1) := by decide +kernel
theorem d_Ru_decide_66 : decode prog_7_method_18_code 66 = .ok (.iload_n 1, 1) := by decide +kernel
theorem d_Ru_decide_67 : decode prog_7_method_18_code 67 = .ok (.aload_n 0, 1) := by decide +kernel
theorem d_Ru_decide_68 : decode prog_7_method_18_code 68 = .ok (.getfield 15, 3) := by decide +kernel
theorem d_Ru_decide_71 : decode prog_7_method_18_code 71 = .ok (.iload_n 1, 1) := by decide +kernel
theorem d_Ru_decide_72 : decode prog_7_method_18_code 72 = .ok (.iaload, 1) := by decide +kernel
theorem d_Ru_decide_73 : decode prog_7_method_18_code 73 = .ok (.iconst 1, 1) := by decide +kernel
theorem d_Ru_decide_74 : decode prog_7_method_18_code 74 = .ok (.isub, 1) := by decide +kernel
theorem d_Ru_decide_75 : decode prog_7_method_18_code 75 = .ok (.invokevirtual 91, 3) := by decide +kernel
theorem d_Ru_decide_78 : decode prog_7_method_18_code 78 = .ok (.bipush 48, 2) := by decide +kernel
theorem d_Ru_decide_80 : decode prog_7_method_18_code 80 = .ok (.isub, 1) := by decide +kernel
theorem d_Ru_decide_81 : decode prog_7_method_18_code 81 = .ok (.ireturn, 1) := by decide +kernel
set_option maxHeartbeats 4000000 in
set_option maxRecDepth 100000 in
theorem K_Ru_decide_7 {F : FT} (hD : ∀ σ, va_D F.2.2.1 (GW F.2.1 σ)) (hm : F.2.2.2.2.2.2.2.2.2.2.2.2.2.2.1 = 6) (ok : OkF F prog_7_method_18_code "LastSeen$Rules" ({ frames := 3, cells := 0, slots := 0, locals := 74 } : Room)) {Q : Int → SS → Prop} (hQ : RetI F Q) {x1 x3 : Int} {s : SS} (h : B_Ru_decide_7 Q (fun x1 x3 s => AtS F 7 [(0, .ref (F.2.1.1 7)), (1, vI x1), (2, .ref (F.2.1.1 6)), (3, vI x3)] [] s) x1 x3 s) : AtS F 7 [(0, .ref (F.2.1.1 7)), (1, vI x1), (2, .ref (F.2.1.1 6)), (3, vI x3)] [] s := by
  unfold B_Ru_decide_7 at h
  refine r_iload_n ok 3 d_Ru_decide_7 rfl rfl ?_
  refine r_aload_n ok 0 d_Ru_decide_8 rfl rfl ?_
  refine g_Ru_clauseCounts ok d_Ru_decide_9 ?_
  refine r_iload_n ok 1 d_Ru_decide_12 rfl rfl ?_
  refine r_iald ok 38 d_Ru_decide_13 (by decide) rfl h.1 ?_
  replace h := h.2
  refine r_icmp_ge ok 65 d_Ru_decide_14 (by decide) h.1 h.2.1 (fun c => ?_) (fun c => ?_)
  · replace h := h.2.2.1 c
    refine r_aload_n ok 0 d_Ru_decide_65 rfl rfl ?_
    refine r_iload_n ok 1 d_Ru_decide_66 rfl rfl ?_
    refine r_aload_n ok 0 d_Ru_decide_67 rfl rfl ?_
    refine g_Ru_sizes ok d_Ru_decide_68 ?_
    refine r_iload_n ok 1 d_Ru_decide_71 rfl rfl ?_
    refine r_iald ok 37 d_Ru_decide_72 (by decide) rfl h.1 ?_
    replace h := h.2
    refine r_iconst ok 1 d_Ru_decide_73 rfl ?_
    refine r_isub ok d_Ru_decide_74 ?_
    refine r_callVi (As := [vI x1, vI ((s.2 37 x1) - 1)]) (rest := []) ok 7 rfl rfl rfl wl_Ru_91 wi_y_Ru_textAt ws_y_Ru_textAt wn_Ru wc_y_Ru_textAt (by decide) (by decide) hh_Ru_textAt (Nat.le_of_ble_eq_true rfl) rfl d_Ru_decide_75 (L_Ru_textAt F.1 F.2.1 F.2.2.1 hD h) (fun r3 s2 h => ?_)
    refine r_bipush ok 48 d_Ru_decide_78 (by decide) ?_
    refine r_isub ok d_Ru_decide_80 ?_
    exact hQ _ _ _ _ _ (ok_code ok) d_Ru_decide_81 h
  · replace h := h.2.2.2 c
    refine r_aload_n ok 0 d_Ru_decide_17 rfl rfl ?_
    refine r_iload_n ok 1 d_Ru_decide_18 rfl rfl ?_
    refine r_aload_n ok 2 d_Ru_decide_19 rfl rfl ?_
    refine r_callVi (As := [vI x1, .ref (F.2.1.1 6)]) (rest := []) ok 7 rfl rfl rfl wl_Ru_97 wi_y_Ru_isSo ws_y_Ru_isSo wn_Ru wc_y_Ru_isSo (by decide) (by decide) hh_Ru_isSo (Nat.le_of_ble_eq_true rfl) rfl d_Ru_decide_20 (L_Ru_isSo F.1 F.2.1 F.2.2.1 hD h) (fun r5 s4 h => ?_)
    refine r_istore ok [(4, vI r5), (0, .ref (F.2.1.1 7)), (1, vI x1), (2, .ref (F.2.1.1 6)), (3, vI x3)] d_Ru_decide_23 hm (by decide) rfl ?_
    refine r_aload_n ok 1 d_Ru_decide_25 rfl rfl ?_
    refine r_iload_n ok 2 d_Ru_decide_26 rfl rfl ?_
    refine r_aload_n ok 1 d_Ru_decide_27 rfl rfl ?_
    refine g_Ru_cursor ok d_Ru_decide_28 ?_
    refine r_iconst ok 1 d_Ru_decide_31 rfl ?_
    refine r_iadd ok d_Ru_decide_32 ?_
    refine r_callVi (As := [vI x1, vI ((s4.1 23) + 1)]) (rest := []) ok 7 rfl rfl rfl wl_Ru_91 wi_y_Ru_textAt ws_y_Ru_textAt wn_Ru wc_y_Ru_textAt (by decide) (by decide) hh_Ru_textAt (Nat.le_of_ble_eq_true rfl) rfl d_Ru_decide_33 (L_Ru_textAt F.1 F.2.1 F.2.2.1 hD h) (fun r7 s6 h => ?_)
    refine r_bipush ok 48 d_Ru_decide_36 (by decide) ?_
    refine r_isub ok d_Ru_decide_38 ?_
    refine r_istore ok [(5, vI (r7 - 48)), (4, vI r5), (0, .ref (F.2.1.1 7)), (1, vI x1), (2, .ref (F.2.1.1 6)), (3, vI x3)] d_Ru_decide_39 hm (by decide) rfl ?_
    refine r_iload ok 1 d_Ru_decide_41 rfl ?_
    refine r_if_eq ok 49 d_Ru_decide_43 (by decide) h.1 (fun c => ?_) (fun c => ?_)
    · replace h := h.2.1 c
      refine r_aload_n ok 2 d_Ru_decide_49 rfl rfl ?_
      refine r_dup ok d_Ru_decide_50 rfl ?_
      refine g_Ru_cursor ok d_Ru_decide_51 ?_
      refine r_iconst ok 3 d_Ru_decide_54 rfl ?_
      refine r_iadd ok d_Ru_decide_55 ?_
      refine p_Ru_cursor ok d_Ru_decide_56 ?_
      replace h := h _ rfl
      generalize sF s6 23 ((s6.1 23) + 3) = s8 at h ⊢
      refine r_iinc ok 5 (x3 + 1) [(3, vI (x3 + 1)), (5, vI (r7 - 48)), (4, vI r5), (0, .ref (F.2.1.1 7)), (1, vI x1), (2, .ref (F.2.1.1 6))] d_Ru_decide_59 rfl rfl hm (by decide) rfl ?_
      refine r_goto ok 7 d_Ru_decide_62 (by decide) ?_
      exact r_sub [3, 4, 5, 0] rfl h
    · replace h := h.2.2 c
      refine r_iload ok 0 d_Ru_decide_46 rfl ?_
      exact hQ _ _ _ _ _ (ok_code ok) d_Ru_decide_48 h
set_option maxHeartbeats 4000000 in
set_option maxRecDepth 100000 in
theorem K_Ru_decide_e {F : FT} (hD : ∀ σ, va_D F.2.2.1 (GW F.2.1 σ)) (hm : F.2.2.2.2.2.2.2.2.2.2.2.2.2.2.1 = 6) (ok : OkF F prog_7_method_18_code "LastSeen$Rules" ({ frames := 3, cells := 0, slots := 0, locals := 74 } : Room)) {Q : Int → SS → Prop} (hQ : RetI F Q) {x1 : Int} {s : SS} (h : B_Ru_decide_e Q (fun x1 x3 s => AtS F 7 [(0, .ref (F.2.1.1 7)), (1, vI x1), (2, .ref (F.2.1.1 6)), (3, vI x3)] [] s) x1 s) : AtS F 0 [(0, .ref (F.2.1.1 7)), (1, vI x1), (2, .ref (F.2.1.1 6))] [] s := by
  unfold B_Ru_decide_e at h
  refine r_aload_n ok 0 d_Ru_decide_0 rfl rfl ?_
  refine r_iconst ok 0 d_Ru_decide_1 rfl ?_
  refine p_Ru_cursor ok d_Ru_decide_2 ?_
  replace h := h _ rfl
  generalize sF s 23 0 = s1 at h ⊢
  refine r_iconst ok 1 d_Ru_decide_5 rfl ?_
  refine r_istore_n ok [(3, vI 1), (0, .ref (F.2.1.1 7)), (1, vI x1), (2, .ref (F.2.1.1 6))] d_Ru_decide_6 rfl hm (by decide) rfl ?_
  exact r_sub [1, 2, 3, 0] rfl h
theorem L_Ru_decide (l : Launch) (G : GE) (A : Nat → Prop) (hD : ∀ σ, va_D A (GW G σ)) {x1 : Int} {s : SS} {Q : Int → SS → Prop} (h : Sp_Ru_decide x1 s Q) : Met l y_Ru_decide (Cond.code y_Ru_decide prog_7_method_18_code 6 (some .int) :: lw_ok) ({ frames := 3, cells := 0, slots := 0, locals := 74 } : Room) (va_Pc [.ref (G.1 7), vI x1, .ref (G.1 6)] (gB G s)) (va_Qi (fun (r : Int32) (s2 : SS) => ∃ x : Int, r = iI x ∧ Q x s2) (fun s2 t => gB G s2 t) A) 0 0 A := by
  refine met_i hD (by decide) ⟨rfl, rfl⟩ (Nat.le_of_ble_eq_true rfl) (lv := [(0, .ref (G.1 7)), (1, vI x1), (2, .ref (G.1 6))]) rfl (fun F h1 h2 h3 hm ok hQ => ?_)
  subst h1 h2 h3
  have hDF := hD
  exact K_Ru_decide_e hDF hm ok hQ (h _ (fun _ _ _ hb => K_Ru_decide_7 hDF hm ok hQ hb))
theorem d_LS_digitOf_0 : decode prog_1_method_49_code 0 = .ok (.aload_n 0, 1) := by decide +kernel
theorem d_LS_digitOf_1 : decode prog_1_method_49_code 1 = .ok (.getfield 47, 3) := by decide +kernel
theorem d_LS_digitOf_4 : decode prog_1_method_49_code 4 = .ok (.iload_n 2, 1) := by decide +kernel
theorem d_LS_digitOf_5 : decode prog_1_method_49_code 5 = .ok (.iload_n 3, 1) := by decide +kernel
theorem d_LS_digitOf_6 : decode prog_1_method_49_code 6 = .ok (.iload 4, 2) := by decide +kernel
theorem d_LS_digitOf_8 : decode prog_1_method_49_code 8 = .ok (.invokevirtual 219, 3) := by decide +kernel
theorem d_LS_digitOf_11 : decode prog_1_method_49_code 11 = .ok (.aload_n 0, 1) := by decide +kernel
theorem d_LS_digitOf_12 : decode prog_1_method_49_code 12 = .ok (.getfield 54, 3) := by decide +kernel
theorem d_LS_digitOf_15 : decode prog_1_method_49_code 15 = .ok (.iload_n 1, 1) := by decide +kernel
theorem d_LS_digitOf_16 : decode prog_1_method_49_code 16 = .ok (.invokevirtual 379, 3) := by decide +kernel
theorem d_LS_digitOf_19 : decode prog_1_method_49_code 19 = .ok (.ifCond .eq 10, 3) := by decide +kernel
theorem d_LS_digitOf_22 : decode prog_1_method_49_code 22 = .ok (.aload_n 0, 1) := by decide +kernel
theorem d_LS_digitOf_23 : decode prog_1_method_49_code 23 = .ok (.getfield 47, 3) := by decide +kernel
theorem d_LS_digitOf_26 : decode prog_1_method_49_code 26 = .ok (.invokevirtual 232, 3) := by decide +kernel
theorem d_LS_digitOf_29 : decode prog_1_method_49_code 29 = .ok (.aload_n 0, 1) := by decide +kernel
theorem d_LS_digitOf_30 : decode prog_1_method_49_code 30 = .ok (.getfield 54, 3) := by decide +kernel
theorem d_LS_digitOf_33 : decode prog_1_method_49_code 33 = .ok (.iload_n 1, 1) := by decide +kernel
theorem d_LS_digitOf_34 : decode prog_1_method_49_code 34 = .ok (.aload_n 0, 1) := by decide +kernel
theorem d_LS_digitOf_35 : decode prog_1_method_49_code 35 = .ok (.getfield 47, 3) := by decide +kernel
theorem d_LS_digitOf_38 : decode prog_1_method_49_code 38 = .ok (.invokevirtual 382, 3) := by decide +kernel
theorem d_LS_digitOf_41 : decode prog_1_method_49_code 41 = .ok (.ireturn, 1) := by decide +kernel
set_option maxHeartbeats 4000000 in
set_option maxRecDepth 100000 in
theorem K_LS_digitOf_e {F : FT} (hD : ∀ σ, va_D F.2.2.1 (GW F.2.1 σ)) (hm : F.2.2.2.2.2.2.2.2.2.2.2.2.2.2.1 = 5) (ok : OkF F prog_1_method_49_code "LastSeen" ({ frames := 4, cells := 0, slots := 0, locals := 99 } : Room)) {Q : Int → SS → Prop} (hQ : RetI F Q) {x1 x2 x3 x4 : Int} {s : SS} (h : Sp_LS_digitOf x1 x2 x3 x4 s Q) : AtS F 0 [(0, .ref (F.2.1.1 0)), (1, vI x1), (2, vI x2), (3, vI x3), (4, vI x4)] [] s := by
  unfold Sp_LS_digitOf at h
  refine r_aload_n ok 0 d_LS_digitOf_0 rfl rfl ?_
  refine g_LS_hearing ok d_LS_digitOf_1 ?_
  refine r_iload_n ok 2 d_LS_digitOf_4 rfl rfl ?_
  refine r_iload_n ok 3 d_LS_digitOf_5 rfl rfl ?_
  refine r_iload ok 4 d_LS_digitOf_6 rfl ?_
  refine r_callVv (As := [vI x2, vI x3, vI x4]) (rest := []) ok 6 rfl rfl rfl wl_LS_219 wi_y_He_open ws_y_He_open wn_He wc_y_He_open (by decide) (by decide) hh_He_open (Nat.le_of_ble_eq_true rfl) rfl d_LS_digitOf_8 (L_He_open F.1 F.2.1 F.2.2.1 hD h) (fun s1 h => ?_)
  refine r_aload_n ok 0 d_LS_digitOf_11 rfl rfl ?_
  refine g_LS_rules ok d_LS_digitOf_12 ?_
  refine r_iload_n ok 1 d_LS_digitOf_15 rfl rfl ?_
  refine r_callVi (As := [vI x1]) (rest := []) ok 7 rfl rfl rfl wl_LS_379 wi_y_Ru_asksWhetherCan ws_y_Ru_asksWhetherCan wn_Ru wc_y_Ru_asksWhetherCan (by decide) (by decide) hh_Ru_asksWhetherCan (Nat.le_of_ble_eq_true rfl) rfl d_LS_digitOf_16 (L_Ru_asksWhetherCan F.1 F.2.1 F.2.2.1 hD h) (fun r3 s2 h => ?_)
  refine r_if_eq ok 29 d_LS_digitOf_19 (by decide) h.1 (fun c => ?_) (fun c => ?_)
  · replace h := h.2.1 c
    refine r_aload_n ok 0 d_LS_digitOf_29 rfl rfl ?_
    refine g_LS_rules ok d_LS_digitOf_30 ?_
    refine r_iload_n ok 1 d_LS_digitOf_33 rfl rfl ?_
    refine r_aload_n ok 0 d_LS_digitOf_34 rfl rfl ?_
    refine g_LS_hearing ok d_LS_digitOf_35 ?_
    refine r_callVi (As := [vI x1, .ref (F.2.1.1 6)]) (rest := []) ok 7 rfl rfl rfl wl_LS_382 wi_y_Ru_decide ws_y_Ru_decide wn_Ru wc_y_Ru_decide (by decide) (by decide) hh_Ru_decide (Nat.le_of_ble_eq_true rfl) rfl d_LS_digitOf_38 (L_Ru_decide F.1 F.2.1 F.2.2.1 hD h) (fun r5 s4 h => ?_)
    exact hQ _ _ _ _ _ (ok_code ok) d_LS_digitOf_41 h
  · replace h := h.2.2 c
    refine r_aload_n ok 0 d_LS_digitOf_22 rfl rfl ?_
    refine g_LS_hearing ok d_LS_digitOf_23 ?_
    refine r_callVv (As := []) (rest := []) ok 6 rfl rfl rfl wl_LS_232 wi_y_He_weigh ws_y_He_weigh wn_He wc_y_He_weigh (by decide) (by decide) hh_He_weigh (Nat.le_of_ble_eq_true rfl) rfl d_LS_digitOf_26 (L_He_weigh F.1 F.2.1 F.2.2.1 hD h) (fun s6 h => ?_)
    refine r_aload_n ok 0 d_LS_digitOf_29 rfl rfl ?_
    refine g_LS_rules ok d_LS_digitOf_30 ?_
    refine r_iload_n ok 1 d_LS_digitOf_33 rfl rfl ?_
    refine r_aload_n ok 0 d_LS_digitOf_34 rfl rfl ?_
    refine g_LS_hearing ok d_LS_digitOf_35 ?_
    refine r_callVi (As := [vI x1, .ref (F.2.1.1 6)]) (rest := []) ok 7 rfl rfl rfl wl_LS_382 wi_y_Ru_decide ws_y_Ru_decide wn_Ru wc_y_Ru_decide (by decide) (by decide) hh_Ru_decide (Nat.le_of_ble_eq_true rfl) rfl d_LS_digitOf_38 (L_Ru_decide F.1 F.2.1 F.2.2.1 hD h) (fun r8 s7 h => ?_)
    exact hQ _ _ _ _ _ (ok_code ok) d_LS_digitOf_41 h
theorem L_LS_digitOf (l : Launch) (G : GE) (A : Nat → Prop) (hD : ∀ σ, va_D A (GW G σ)) {x1 x2 x3 x4 : Int} {s : SS} {Q : Int → SS → Prop} (h : Sp_LS_digitOf x1 x2 x3 x4 s Q) : Met l y_LS_digitOf (Cond.code y_LS_digitOf prog_1_method_49_code 5 (some .int) :: lw_ok) ({ frames := 4, cells := 0, slots := 0, locals := 99 } : Room) (va_Pc [.ref (G.1 0), vI x1, vI x2, vI x3, vI x4] (gB G s)) (va_Qi (fun (r : Int32) (s2 : SS) => ∃ x : Int, r = iI x ∧ Q x s2) (fun s2 t => gB G s2 t) A) 0 0 A := by
  refine met_i hD (by decide) ⟨rfl, rfl⟩ (Nat.le_of_ble_eq_true rfl) (lv := [(0, .ref (G.1 0)), (1, vI x1), (2, vI x2), (3, vI x3), (4, vI x4)]) rfl (fun F h1 h2 h3 hm ok hQ => ?_)
  subst h1 h2 h3
  have hDF := hD
  exact K_LS_digitOf_e hDF hm ok hQ h
theorem d_LS_finding_0 : decode prog_1_method_22_code 0 = .ok (.aload_n 0, 1) := by decide +kernel
theorem d_LS_finding_1 : decode prog_1_method_22_code 1 = .ok (.iload_n 2, 1) := by decide +kernel
theorem d_LS_finding_2 : decode prog_1_method_22_code 2 = .ok (.invokevirtual 146, 3) := by decide +kernel
theorem d_LS_finding_5 : decode prog_1_method_22_code 5 = .ok (.istore_n 3, 1) := by decide +kernel
theorem d_LS_finding_6 : decode prog_1_method_22_code 6 = .ok (.aload_n 0, 1) := by decide +kernel
theorem d_LS_finding_7 : decode prog_1_method_22_code 7 = .ok (.iload_n 1, 1) := by decide +kernel
theorem d_LS_finding_8 : decode prog_1_method_22_code 8 = .ok (.iload_n 3, 1) := by decide +kernel
theorem d_LS_finding_9 : decode prog_1_method_22_code 9 = .ok (.invokevirtual 149, 3) := by decide +kernel
theorem d_LS_finding_12 : decode prog_1_method_22_code 12 = .ok (.ifCond .ne 5, 3) := by decide +kernel
theorem d_LS_finding_15 : decode prog_1_method_22_code 15 = .ok (.iconst (-1), 1) := by decide +kernel
theorem d_LS_finding_16 : decode prog_1_method_22_code 16 = .ok (.ireturn, 1) := by decide +kernel
theorem d_LS_finding_17 : decode prog_1_method_22_code 17 = .ok (.aload_n 0, 1) := by decide +kernel
theorem d_LS_finding_18 : decode prog_1_method_22_code 18 = .ok (.getfield 54, 3) := by decide +kernel
theorem d_LS_finding_21 : decode prog_1_method_22_code 21 = .ok (.iload_n 3, 1) := by decide +kernel
theorem d_LS_finding_22 : decode prog_1_method_22_code 22 = .ok (.invokevirtual 263, 3) := by decide +kernel
theorem d_LS_finding_25 : decode prog_1_method_22_code 25 = .ok (.istore 4, 2) := by decide +kernel
theorem d_LS_finding_27 : decode prog_1_method_22_code 27 = .ok (.iload 4, 2) := by decide +kernel
theorem d_LS_finding_29 : decode prog_1_method_22_code 29 = .ok (.ifCond .ge 6, 3) := by decide +kernel
theorem d_LS_finding_32 : decode prog_1_method_22_code 32 = .ok (.bipush (-5), 2) := by decide +kernel
theorem d_LS_finding_34 : decode prog_1_method_22_code 34 = .ok (.ireturn, 1) := by decide +kernel
theorem d_LS_finding_35 : decode prog_1_method_22_code 35 = .ok (.aload_n 0, 1) := by decide +kernel
theorem d_LS_finding_36 : decode prog_1_method_22_code 36 = .ok (.iload 4, 2) := by decide +kernel
theorem d_LS_finding_38 : decode prog_1_method_22_code 38 = .ok (.iload_n 1, 1) := by decide +kernel
theorem d_LS_finding_39 : decode prog_1_method_22_code 39 = .ok (.iload_n 3, 1) := by decide +kernel
theorem d_LS_finding_40 : decode prog_1_method_22_code 40 = .ok (.iload_n 3, 1) := by decide +kernel
theorem d_LS_finding_41 : decode prog_1_method_22_code 41 = .ok (.invokevirtual 266, 3) := by decide +kernel
theorem d_LS_finding_44 : decode prog_1_method_22_code 44 = .ok (.ireturn, 1) := by decide +kernel
set_option maxHeartbeats 4000000 in
set_option maxRecDepth 100000 in
theorem K_LS_finding_e {F : FT} (hD : ∀ σ, va_D F.2.2.1 (GW F.2.1 σ)) (hm : F.2.2.2.2.2.2.2.2.2.2.2.2.2.2.1 = 5) (ok : OkF F prog_1_method_22_code "LastSeen" ({ frames := 5, cells := 0, slots := 0, locals := 123 } : Room)) {Q : Int → SS → Prop} (hQ : RetI F Q) {x1 x2 : Int} {s : SS} (h : Sp_LS_finding x1 x2 s Q) : AtS F 0 [(0, .ref (F.2.1.1 0)), (1, vI x1), (2, vI x2)] [] s := by
  unfold Sp_LS_finding at h
  refine r_aload_n ok 0 d_LS_finding_0 rfl rfl ?_
  refine r_iload_n ok 2 d_LS_finding_1 rfl rfl ?_
  refine r_callVi (As := [vI x2]) (rest := []) ok 0 rfl rfl rfl wl_LS_146 wi_y_LS_upTo ws_y_LS_upTo wn_LS wc_y_LS_upTo (by decide) (by decide) hh_LS_upTo (Nat.le_of_ble_eq_true rfl) rfl d_LS_finding_2 (L_LS_upTo F.1 F.2.1 F.2.2.1 hD h) (fun r2 s1 h => ?_)
  refine r_istore_n ok [(3, vI r2), (0, .ref (F.2.1.1 0)), (1, vI x1), (2, vI x2)] d_LS_finding_5 rfl hm (by decide) rfl ?_
  refine r_aload_n ok 1 d_LS_finding_6 rfl rfl ?_
  refine r_iload_n ok 2 d_LS_finding_7 rfl rfl ?_
  refine r_iload_n ok 0 d_LS_finding_8 rfl rfl ?_
  refine r_callVi (As := [vI x1, vI r2]) (rest := []) ok 0 rfl rfl rfl wl_LS_149 wi_y_LS_isNameBy ws_y_LS_isNameBy wn_LS wc_y_LS_isNameBy (by decide) (by decide) hh_LS_isNameBy (Nat.le_of_ble_eq_true rfl) rfl d_LS_finding_9 (L_LS_isNameBy F.1 F.2.1 F.2.2.1 hD h) (fun r4 s3 h => ?_)
  refine r_if_ne ok 17 d_LS_finding_12 (by decide) h.1 (fun c => ?_) (fun c => ?_)
  · replace h := h.2.1 c
    refine r_aload_n ok 1 d_LS_finding_17 rfl rfl ?_
    refine g_LS_rules ok d_LS_finding_18 ?_
    refine r_iload_n ok 0 d_LS_finding_21 rfl rfl ?_
    refine r_callVi (As := [vI r2]) (rest := []) ok 7 rfl rfl rfl wl_LS_263 wi_y_Ru_latestBy ws_y_Ru_latestBy wn_Ru wc_y_Ru_latestBy (by decide) (by decide) hh_Ru_latestBy (Nat.le_of_ble_eq_true rfl) rfl d_LS_finding_22 (L_Ru_latestBy F.1 F.2.1 F.2.2.1 hD h) (fun r6 s5 h => ?_)
    refine r_istore ok [(4, vI r6), (3, vI r2), (0, .ref (F.2.1.1 0)), (1, vI x1), (2, vI x2)] d_LS_finding_25 hm (by decide) rfl ?_
    refine r_iload ok 0 d_LS_finding_27 rfl ?_
    refine r_if_ge ok 35 d_LS_finding_29 (by decide) h.1 (fun c => ?_) (fun c => ?_)
    · replace h := h.2.1 c
      refine r_aload_n ok 2 d_LS_finding_35 rfl rfl ?_
      refine r_iload ok 0 d_LS_finding_36 rfl ?_
      refine r_iload_n ok 3 d_LS_finding_38 rfl rfl ?_
      refine r_iload_n ok 1 d_LS_finding_39 rfl rfl ?_
      refine r_iload_n ok 1 d_LS_finding_40 rfl rfl ?_
      refine r_callVi (As := [vI r6, vI x1, vI r2, vI r2]) (rest := []) ok 0 rfl rfl rfl wl_LS_266 wi_y_LS_digitOf ws_y_LS_digitOf wn_LS wc_y_LS_digitOf (by decide) (by decide) hh_LS_digitOf (Nat.le_of_ble_eq_true rfl) rfl d_LS_finding_41 (L_LS_digitOf F.1 F.2.1 F.2.2.1 hD h) (fun r8 s7 h => ?_)
      exact hQ _ _ _ _ _ (ok_code ok) d_LS_finding_44 h
    · replace h := h.2.2 c
      refine r_bipush ok (-5) d_LS_finding_32 (by decide) ?_
      exact hQ _ _ _ _ _ (ok_code ok) d_LS_finding_34 h
  · replace h := h.2.2 c
    refine r_iconst ok (-1) d_LS_finding_15 rfl ?_
    exact hQ _ _ _ _ _ (ok_code ok) d_LS_finding_16 h
theorem L_LS_finding (l : Launch) (G : GE) (A : Nat → Prop) (hD : ∀ σ, va_D A (GW G σ)) {x1 x2 : Int} {s : SS} {Q : Int → SS → Prop} (h : Sp_LS_finding x1 x2 s Q) : Met l y_LS_finding (Cond.code y_LS_finding prog_1_method_22_code 5 (some .int) :: lw_ok) ({ frames := 5, cells := 0, slots := 0, locals := 123 } : Room) (va_Pc [.ref (G.1 0), vI x1, vI x2] (gB G s)) (va_Qi (fun (r : Int32) (s2 : SS) => ∃ x : Int, r = iI x ∧ Q x s2) (fun s2 t => gB G s2 t) A) 0 0 A := by
  refine met_i hD (by decide) ⟨rfl, rfl⟩ (Nat.le_of_ble_eq_true rfl) (lv := [(0, .ref (G.1 0)), (1, vI x1), (2, vI x2)]) rfl (fun F h1 h2 h3 hm ok hQ => ?_)
  subst h1 h2 h3
  have hDF := hD
  exact K_LS_finding_e hDF hm ok hQ h
theorem d_LS_find_0 : decode prog_1_method_23_code 0 = .ok (.aload_n 0, 1) := by decide +kernel
theorem d_LS_find_1 : decode prog_1_method_23_code 1 = .ok (.iload_n 1, 1) := by decide +kernel
theorem d_LS_find_2 : decode prog_1_method_23_code 2 = .ok (.invokevirtual 133, 3) := by decide +kernel
theorem d_LS_find_5 : decode prog_1_method_23_code 5 = .ok (.ifCond .ne 5, 3) := by decide +kernel
theorem d_LS_find_8 : decode prog_1_method_23_code 8 = .ok (.iconst (-1), 1) := by decide +kernel
theorem d_LS_find_9 : decode prog_1_method_23_code 9 = .ok (.ireturn, 1) := by decide +kernel
theorem d_LS_find_10 : decode prog_1_method_23_code 10 = .ok (.aload_n 0, 1) := by decide +kernel
theorem d_LS_find_11 : decode prog_1_method_23_code 11 = .ok (.getfield 54, 3) := by decide +kernel
theorem d_LS_find_14 : decode prog_1_method_23_code 14 = .ok (.aload_n 0, 1) := by decide +kernel
theorem d_LS_find_15 : decode prog_1_method_23_code 15 = .ok (.getfield 122, 3) := by decide +kernel
theorem d_LS_find_18 : decode prog_1_method_23_code 18 = .ok (.invokevirtual 263, 3) := by decide +kernel
theorem d_LS_find_21 : decode prog_1_method_23_code 21 = .ok (.istore_n 2, 1) := by decide +kernel
theorem d_LS_find_22 : decode prog_1_method_23_code 22 = .ok (.iload_n 2, 1) := by decide +kernel
theorem d_LS_find_23 : decode prog_1_method_23_code 23 = .ok (.ifCond .ge 6, 3) := by decide +kernel
theorem d_LS_find_26 : decode prog_1_method_23_code 26 = .ok (.bipush (-3), 2) := by decide +kernel
theorem d_LS_find_28 : decode prog_1_method_23_code 28 = .ok (.ireturn, 1) := by decide +kernel
theorem d_LS_find_29 : decode prog_1_method_23_code 29 = .ok (.aload_n 0, 1) := by decide +kernel
theorem d_LS_find_30 : decode prog_1_method_23_code 30 = .ok (.getfield 269, 3) := by decide +kernel
theorem d_LS_find_33 : decode prog_1_method_23_code 33 = .ok (.bipush 30, 2) := by decide +kernel
theorem d_LS_find_35 : decode prog_1_method_23_code 35 = .ok (.if_icmp .lt 6, 3) := by decide +kernel
theorem d_LS_find_38 : decode prog_1_method_23_code 38 = .ok (.bipush (-4), 2) := by decide +kernel
theorem d_LS_find_40 : decode prog_1_method_23_code 40 = .ok (.ireturn, 1) := by decide +kernel
theorem d_LS_find_41 : decode prog_1_method_23_code 41 = .ok (.aload_n 0, 1) := by decide +kernel
theorem d_LS_find_42 : decode prog_1_method_23_code 42 = .ok (.getfield 74, 3) := by decide +kernel
theorem d_LS_find_45 : decode prog_1_method_23_code 45 = .ok (.aload_n 0, 1) := by decide +kernel
theorem d_LS_find_46 : decode prog_1_method_23_code 46 = .ok (.getfield 269, 3) := by decide +kernel
theorem d_LS_find_49 : decode prog_1_method_23_code 49 = .ok (.iload_n 1, 1) := by decide +kernel
theorem d_LS_find_50 : decode prog_1_method_23_code 50 = .ok (.iastore, 1) := by decide +kernel
theorem d_LS_find_51 : decode prog_1_method_23_code 51 = .ok (.aload_n 0, 1) := by decide +kernel
theorem d_LS_find_52 : decode prog_1_method_23_code 52 = .ok (.getfield 78, 3) := by decide +kernel
theorem d_LS_find_55 : decode prog_1_method_23_code 55 = .ok (.aload_n 0, 1) := by decide +kernel
theorem d_LS_find_56 : decode prog_1_method_23_code 56 = .ok (.getfield 269, 3) := by decide +kernel
theorem d_LS_find_59 : decode prog_1_method_23_code 59 = .ok (.aload_n 0, 1) := by decide +kernel
theorem d_LS_find_60 : decode prog_1_method_23_code 60 = .ok (.getfield 122, 3) := by decide +kernel
theorem d_LS_find_63 : decode prog_1_method_23_code 63 = .ok (.iastore, 1) := by decide +kernel
theorem d_LS_find_64 : decode prog_1_method_23_code 64 = .ok (.aload_n 0, 1) := by decide +kernel
theorem d_LS_find_65 : decode prog_1_method_23_code 65 = .ok (.getfield 81, 3) := by decide +kernel
theorem d_LS_find_68 : decode prog_1_method_23_code 68 = .ok (.aload_n 0, 1) := by decide +kernel
theorem d_LS_find_69 : decode prog_1_method_23_code 69 = .ok (.getfield 269, 3) := by decide +kernel
theorem d_LS_find_72 : decode prog_1_method_23_code 72 = .ok (.iload_n 2, 1) := by decide +kernel
theorem d_LS_find_73 : decode prog_1_method_23_code 73 = .ok (.iastore, 1) := by decide +kernel
theorem d_LS_find_74 : decode prog_1_method_23_code 74 = .ok (.aload_n 0, 1) := by decide +kernel
theorem d_LS_find_75 : decode prog_1_method_23_code 75 = .ok (.getfield 84, 3) := by decide +kernel
theorem d_LS_find_78 : decode prog_1_method_23_code 78 = .ok (.aload_n 0, 1) := by decide +kernel
theorem d_LS_find_79 : decode prog_1_method_23_code 79 = .ok (.getfield 269, 3) := by decide +kernel
theorem d_LS_find_82 : decode prog_1_method_23_code 82 = .ok (.aload_n 0, 1) := by decide +kernel
theorem d_LS_find_83 : decode prog_1_method_23_code 83 = .ok (.iload_n 2, 1) := by decide +kernel
theorem d_LS_find_84 : decode prog_1_method_23_code 84 = .ok (.iload_n 1, 1) := by decide +kernel
theorem d_LS_find_85 : decode prog_1_method_23_code 85 = .ok (.aload_n 0, 1) := by decide +kernel
theorem d_LS_find_86 : decode prog_1_method_23_code 86 = .ok (.getfield 122, 3) := by decide +kernel
theorem d_LS_find_89 : decode prog_1_method_23_code 89 = .ok (.aload_n 0, 1) := by decide +kernel
theorem d_LS_find_90 : decode prog_1_method_23_code 90 = .ok (.getfield 122, 3) := by decide +kernel
theorem d_LS_find_93 : decode prog_1_method_23_code 93 = .ok (.invokevirtual 266, 3) := by decide +kernel
theorem d_LS_find_96 : decode prog_1_method_23_code 96 = .ok (.iastore, 1) := by decide +kernel
theorem d_LS_find_97 : decode prog_1_method_23_code 97 = .ok (.aload_n 0, 1) := by decide +kernel
theorem d_LS_find_98 : decode prog_1_method_23_code 98 = .ok (.dup, 1) := by decide +kernel
theorem d_LS_find_99 : decode prog_1_method_23_code 99 = .ok (.getfield 269, 3) := by decide +kernel
theorem d_LS_find_102 : decode prog_1_method_23_code 102 = .ok (.iconst 1, 1) := by decide +kernel
theorem d_LS_find_103 : decode prog_1_method_23_code 103 = .ok (.iadd, 1) := by decide +kernel
theorem d_LS_find_104 : decode prog_1_method_23_code 104 = .ok (.putfield 269, 3) := by decide +kernel
theorem d_LS_find_107 : decode prog_1_method_23_code 107 = .ok (.aload_n 0, 1) := by decide +kernel
theorem d_LS_find_108 : decode prog_1_method_23_code 108 = .ok (.getfield 269, 3) := by decide +kernel
theorem d_LS_find_111 : decode prog_1_method_23_code 111 = .ok (.iconst 1, 1) := by decide +kernel
theorem d_LS_find_112 : decode prog_1_method_23_code 112 = .ok (.isub, 1) := by decide +kernel
theorem d_LS_find_113 : decode prog_1_method_23_code 113 = .ok (.ireturn, 1) := by decide +kernel
set_option maxHeartbeats 4000000 in
set_option maxRecDepth 100000 in
theorem K_LS_find_e {F : FT} (hD : ∀ σ, va_D F.2.2.1 (GW F.2.1 σ)) (hm : F.2.2.2.2.2.2.2.2.2.2.2.2.2.2.1 = 3) (ok : OkF F prog_1_method_23_code "LastSeen" ({ frames := 5, cells := 0, slots := 0, locals := 123 } : Room)) {Q : Int → SS → Prop} (hQ : RetI F Q) {x1 : Int} {s : SS} (h : Sp_LS_find x1 s Q) : AtS F 0 [(0, .ref (F.2.1.1 0)), (1, vI x1)] [] s := by
  unfold Sp_LS_find at h
  refine r_aload_n ok 0 d_LS_find_0 rfl rfl ?_
  refine r_iload_n ok 1 d_LS_find_1 rfl rfl ?_
  refine r_callVi (As := [vI x1]) (rest := []) ok 0 rfl rfl rfl wl_LS_133 wi_y_LS_isName ws_y_LS_isName wn_LS wc_y_LS_isName (by decide) (by decide) hh_LS_isName (Nat.le_of_ble_eq_true rfl) rfl d_LS_find_2 (L_LS_isName F.1 F.2.1 F.2.2.1 hD h) (fun r2 s1 h => ?_)
  refine r_if_ne ok 10 d_LS_find_5 (by decide) h.1 (fun c => ?_) (fun c => ?_)
  · replace h := h.2.1 c
    refine r_aload_n ok 0 d_LS_find_10 rfl rfl ?_
    refine g_LS_rules ok d_LS_find_11 ?_
    refine r_aload_n ok 0 d_LS_find_14 rfl rfl ?_
    refine g_LS_entries ok d_LS_find_15 ?_
    refine r_callVi (As := [vI (s1.1 1)]) (rest := []) ok 7 rfl rfl rfl wl_LS_263 wi_y_Ru_latestBy ws_y_Ru_latestBy wn_Ru wc_y_Ru_latestBy (by decide) (by decide) hh_Ru_latestBy (Nat.le_of_ble_eq_true rfl) rfl d_LS_find_18 (L_Ru_latestBy F.1 F.2.1 F.2.2.1 hD h) (fun r4 s3 h => ?_)
    refine r_istore_n ok [(2, vI r4), (0, .ref (F.2.1.1 0)), (1, vI x1)] d_LS_find_21 rfl hm (by decide) rfl ?_
    refine r_iload_n ok 0 d_LS_find_22 rfl rfl ?_
    refine r_if_ge ok 29 d_LS_find_23 (by decide) h.1 (fun c => ?_) (fun c => ?_)
    · replace h := h.2.1 c
      refine r_aload_n ok 1 d_LS_find_29 rfl rfl ?_
      refine g_LS_founds ok d_LS_find_30 ?_
      refine r_bipush ok 30 d_LS_find_33 (by decide) ?_
      refine r_icmp_lt ok 41 d_LS_find_35 (by decide) h.1 (by decide) (fun c => ?_) (fun c => ?_)
      · replace h := h.2.1 c
        refine r_aload_n ok 1 d_LS_find_41 rfl rfl ?_
        refine g_LS_foundName ok d_LS_find_42 ?_
        refine r_aload_n ok 1 d_LS_find_45 rfl rfl ?_
        refine g_LS_founds ok d_LS_find_46 ?_
        refine r_iload_n ok 2 d_LS_find_49 rfl rfl ?_
        refine r_iast ok 0 d_LS_find_50 (by decide) rfl h.1 ?_
        replace h := h.2 _ rfl
        generalize sA s3 0 (s3.1 0) x1 = s5 at h ⊢
        refine r_aload_n ok 1 d_LS_find_51 rfl rfl ?_
        refine g_LS_foundEntries ok d_LS_find_52 ?_
        refine r_aload_n ok 1 d_LS_find_55 rfl rfl ?_
        refine g_LS_founds ok d_LS_find_56 ?_
        refine r_aload_n ok 1 d_LS_find_59 rfl rfl ?_
        refine g_LS_entries ok d_LS_find_60 ?_
        refine r_iast ok 1 d_LS_find_63 (by decide) rfl h.1 ?_
        replace h := h.2 _ rfl
        generalize sA s5 1 (s5.1 0) (s5.1 1) = s6 at h ⊢
        refine r_aload_n ok 1 d_LS_find_64 rfl rfl ?_
        refine g_LS_foundRule ok d_LS_find_65 ?_
        refine r_aload_n ok 1 d_LS_find_68 rfl rfl ?_
        refine g_LS_founds ok d_LS_find_69 ?_
        refine r_iload_n ok 0 d_LS_find_72 rfl rfl ?_
        refine r_iast ok 2 d_LS_find_73 (by decide) rfl h.1 ?_
        replace h := h.2 _ rfl
        generalize sA s6 2 (s6.1 0) r4 = s7 at h ⊢
        refine r_aload_n ok 1 d_LS_find_74 rfl rfl ?_
        refine g_LS_foundDigit ok d_LS_find_75 ?_
        refine r_aload_n ok 1 d_LS_find_78 rfl rfl ?_
        refine g_LS_founds ok d_LS_find_79 ?_
        refine r_aload_n ok 1 d_LS_find_82 rfl rfl ?_
        refine r_iload_n ok 0 d_LS_find_83 rfl rfl ?_
        refine r_iload_n ok 2 d_LS_find_84 rfl rfl ?_
        refine r_aload_n ok 1 d_LS_find_85 rfl rfl ?_
        refine g_LS_entries ok d_LS_find_86 ?_
        refine r_aload_n ok 1 d_LS_find_89 rfl rfl ?_
        refine g_LS_entries ok d_LS_find_90 ?_
        refine r_callVi (As := [vI r4, vI x1, vI (s7.1 1), vI (s7.1 1)]) (rest := [vI (s7.1 0), .ref (F.2.1.1 14)]) ok 0 rfl rfl rfl wl_LS_266 wi_y_LS_digitOf ws_y_LS_digitOf wn_LS wc_y_LS_digitOf (by decide) (by decide) hh_LS_digitOf (Nat.le_of_ble_eq_true rfl) rfl d_LS_find_93 (L_LS_digitOf F.1 F.2.1 F.2.2.1 hD h) (fun r9 s8 h => ?_)
        refine r_iast ok 3 d_LS_find_96 (by decide) rfl h.1 ?_
        replace h := h.2 _ rfl
        generalize sA s8 3 (s7.1 0) r9 = s10 at h ⊢
        refine r_aload_n ok 1 d_LS_find_97 rfl rfl ?_
        refine r_dup ok d_LS_find_98 rfl ?_
        refine g_LS_founds ok d_LS_find_99 ?_
        refine r_iconst ok 1 d_LS_find_102 rfl ?_
        refine r_iadd ok d_LS_find_103 ?_
        refine p_LS_founds ok d_LS_find_104 ?_
        replace h := h _ rfl
        generalize sF s10 0 ((s10.1 0) + 1) = s11 at h ⊢
        refine r_aload_n ok 1 d_LS_find_107 rfl rfl ?_
        refine g_LS_founds ok d_LS_find_108 ?_
        refine r_iconst ok 1 d_LS_find_111 rfl ?_
        refine r_isub ok d_LS_find_112 ?_
        exact hQ _ _ _ _ _ (ok_code ok) d_LS_find_113 h
      · replace h := h.2.2 c
        refine r_bipush ok (-4) d_LS_find_38 (by decide) ?_
        exact hQ _ _ _ _ _ (ok_code ok) d_LS_find_40 h
    · replace h := h.2.2 c
      refine r_bipush ok (-3) d_LS_find_26 (by decide) ?_
      exact hQ _ _ _ _ _ (ok_code ok) d_LS_find_28 h
  · replace h := h.2.2 c
    refine r_iconst ok (-1) d_LS_find_8 rfl ?_
    exact hQ _ _ _ _ _ (ok_code ok) d_LS_find_9 h
theorem L_LS_find (l : Launch) (G : GE) (A : Nat → Prop) (hD : ∀ σ, va_D A (GW G σ)) {x1 : Int} {s : SS} {Q : Int → SS → Prop} (h : Sp_LS_find x1 s Q) : Met l y_LS_find (Cond.code y_LS_find prog_1_method_23_code 3 (some .int) :: lw_ok) ({ frames := 5, cells := 0, slots := 0, locals := 123 } : Room) (va_Pc [.ref (G.1 0), vI x1] (gB G s)) (va_Qi (fun (r : Int32) (s2 : SS) => ∃ x : Int, r = iI x ∧ Q x s2) (fun s2 t => gB G s2 t) A) 0 0 A := by
  refine met_i hD (by decide) ⟨rfl, rfl⟩ (Nat.le_of_ble_eq_true rfl) (lv := [(0, .ref (G.1 0)), (1, vI x1)]) rfl (fun F h1 h2 h3 hm ok hQ => ?_)
  subst h1 h2 h3
  have hDF := hD
  exact K_LS_find_e hDF hm ok hQ h
theorem d_LS_holding_0 : decode prog_1_method_52_code 0 = .ok (.iconst 0, 1) := by decide +kernel
theorem d_LS_holding_1 : decode prog_1_method_52_code 1 = .ok (.istore_n 3, 1) := by decide +kernel
theorem d_LS_holding_2 : decode prog_1_method_52_code 2 = .ok (.iload_n 1, 1) := by decide +kernel
theorem d_LS_holding_3 : decode prog_1_method_52_code 3 = .ok (.istore 4, 2) := by decide +kernel
theorem d_LS_holding_5 : decode prog_1_method_52_code 5 = .ok (.iload 4, 2) := by decide +kernel
theorem d_LS_holding_7 : decode prog_1_method_52_code 7 = .ok (.iload_n 2, 1) := by decide +kernel
theorem d_LS_holding_8 : decode prog_1_method_52_code 8 = .ok (.if_icmp .ge 55, 3) := by decide +kernel
theorem d_LS_holding_11 : decode prog_1_method_52_code 11 = .ok (.aload_n 0, 1) := by decide +kernel
theorem d_LS_holding_12 : decode prog_1_method_52_code 12 = .ok (.aload_n 0, 1) := by decide +kernel
theorem d_LS_holding_13 : decode prog_1_method_52_code 13 = .ok (.getfield 81, 3) := by decide +kernel
theorem d_LS_holding_16 : decode prog_1_method_52_code 16 = .ok (.iload 4, 2) := by decide +kernel
theorem d_LS_holding_18 : decode prog_1_method_52_code 18 = .ok (.iaload, 1) := by decide +kernel
theorem d_LS_holding_19 : decode prog_1_method_52_code 19 = .ok (.aload_n 0, 1) := by decide +kernel
theorem d_LS_holding_20 : decode prog_1_method_52_code 20 = .ok (.getfield 74, 3) := by decide +kernel
theorem d_LS_holding_23 : decode prog_1_method_52_code 23 = .ok (.iload 4, 2) := by decide +kernel
theorem d_LS_holding_25 : decode prog_1_method_52_code 25 = .ok (.iaload, 1) := by decide +kernel
theorem d_LS_holding_26 : decode prog_1_method_52_code 26 = .ok (.aload_n 0, 1) := by decide +kernel
theorem d_LS_holding_27 : decode prog_1_method_52_code 27 = .ok (.getfield 78, 3) := by decide +kernel
theorem d_LS_holding_30 : decode prog_1_method_52_code 30 = .ok (.iload 4, 2) := by decide +kernel
theorem d_LS_holding_32 : decode prog_1_method_52_code 32 = .ok (.iaload, 1) := by decide +kernel
theorem d_LS_holding_33 : decode prog_1_method_52_code 33 = .ok (.aload_n 0, 1) := by decide +kernel
theorem d_LS_holding_34 : decode prog_1_method_52_code 34 = .ok (.getfield 122, 3) := by decide +kernel
theorem d_LS_holding_37 : decode prog_1_method_52_code 37 = .ok (.invokevirtual 266, 3) := by decide +kernel
theorem d_LS_holding_40 : decode prog_1_method_52_code 40 = .ok (.istore 5, 2) := by decide +kernel
theorem d_LS_holding_42 : decode prog_1_method_52_code 42 = .ok (.iload 5, 2) := by decide +kernel
theorem d_LS_holding_44 : decode prog_1_method_52_code 44 = .ok (.aload_n 0, 1) := by decide +kernel
theorem d_LS_holding_45 : decode prog_1_method_52_code 45 = .ok (.getfield 84, 3) := by decide +kernel
theorem d_LS_holding_48 : decode prog_1_method_52_code 48 = .ok (.iload 4, 2) := by decide +kernel
theorem d_LS_holding_50 : decode prog_1_method_52_code 50 = .ok (.iaload, 1) := by decide +kernel
theorem d_LS_holding_51 : decode prog_1_method_52_code 51 = .ok (.if_icmp .ne 6, 3) := by decide +kernel
theorem d_LS_holding_54 : decode prog_1_method_52_code 54 = .ok (.iinc 3 1, 3) := by decide +kernel
theorem d_LS_holding_57 : decode prog_1_method_52_code 57 = .ok (.iinc 4 1, 3) := by decide +kernel
theorem d_LS_holding_60 : decode prog_1_method_52_code 60 = .ok (.goto (-55), 3) := by decide +kernel
theorem d_LS_holding_63 : decode prog_1_method_52_code 63 = .ok (.iload_n 3, 1) := by decide +kernel
theorem d_LS_holding_64 : decode prog_1_method_52_code 64 = .ok (.ireturn, 1) := by decide +kernel
set_option maxHeartbeats 4000000 in
set_option maxRecDepth 100000 in
theorem K_LS_holding_5 {F : FT} (hD : ∀ σ, va_D F.2.2.1 (GW F.2.1 σ)) (hm : F.2.2.2.2.2.2.2.2.2.2.2.2.2.2.1 = 6) (ok : OkF F prog_1_method_52_code "LastSeen" ({ frames := 5, cells := 0, slots := 0, locals := 123 } : Room)) {Q : Int → SS → Prop} (hQ : RetI F Q) {x2 x3 x4 : Int} {s : SS} (h : B_LS_holding_5 Q (fun x2 x3 x4 s => AtS F 5 [(0, .ref (F.2.1.1 0)), (2, vI x2), (3, vI x3), (4, vI x4)] [] s) x2 x3 x4 s) : AtS F 5 [(0, .ref (F.2.1.1 0)), (2, vI x2), (3, vI x3), (4, vI x4)] [] s := by
  unfold B_LS_holding_5 at h
  refine r_iload ok 3 d_LS_holding_5 rfl ?_
  refine r_iload_n ok 1 d_LS_holding_7 rfl rfl ?_
  refine r_icmp_ge ok 63 d_LS_holding_8 (by decide) h.1 h.2.1 (fun c => ?_) (fun c => ?_)
  · replace h := h.2.2.1 c
    refine r_iload_n ok 2 d_LS_holding_63 rfl rfl ?_
    exact hQ _ _ _ _ _ (ok_code ok) d_LS_holding_64 h
  · replace h := h.2.2.2 c
    refine r_aload_n ok 0 d_LS_holding_11 rfl rfl ?_
    refine r_aload_n ok 0 d_LS_holding_12 rfl rfl ?_
    refine g_LS_foundRule ok d_LS_holding_13 ?_
    refine r_iload ok 3 d_LS_holding_16 rfl ?_
    refine r_iald ok 2 d_LS_holding_18 (by decide) rfl h.1 ?_
    replace h := h.2
    refine r_aload_n ok 0 d_LS_holding_19 rfl rfl ?_
    refine g_LS_foundName ok d_LS_holding_20 ?_
    refine r_iload ok 3 d_LS_holding_23 rfl ?_
    refine r_iald ok 0 d_LS_holding_25 (by decide) rfl h.1 ?_
    replace h := h.2
    refine r_aload_n ok 0 d_LS_holding_26 rfl rfl ?_
    refine g_LS_foundEntries ok d_LS_holding_27 ?_
    refine r_iload ok 3 d_LS_holding_30 rfl ?_
    refine r_iald ok 1 d_LS_holding_32 (by decide) rfl h.1 ?_
    replace h := h.2
    refine r_aload_n ok 0 d_LS_holding_33 rfl rfl ?_
    refine g_LS_entries ok d_LS_holding_34 ?_
    refine r_callVi (As := [vI (s.2 2 x4), vI (s.2 0 x4), vI (s.2 1 x4), vI (s.1 1)]) (rest := []) ok 0 rfl rfl rfl wl_LS_266 wi_y_LS_digitOf ws_y_LS_digitOf wn_LS wc_y_LS_digitOf (by decide) (by decide) hh_LS_digitOf (Nat.le_of_ble_eq_true rfl) rfl d_LS_holding_37 (L_LS_digitOf F.1 F.2.1 F.2.2.1 hD h) (fun r2 s1 h => ?_)
    refine r_istore ok [(5, vI r2), (0, .ref (F.2.1.1 0)), (2, vI x2), (3, vI x3), (4, vI x4)] d_LS_holding_40 hm (by decide) rfl ?_
    refine r_iload ok 0 d_LS_holding_42 rfl ?_
    refine r_aload_n ok 1 d_LS_holding_44 rfl rfl ?_
    refine g_LS_foundDigit ok d_LS_holding_45 ?_
    refine r_iload ok 4 d_LS_holding_48 rfl ?_
    refine r_iald ok 3 d_LS_holding_50 (by decide) rfl h.1 ?_
    replace h := h.2
    refine r_icmp_ne ok 57 d_LS_holding_51 (by decide) h.1 h.2.1 (fun c => ?_) (fun c => ?_)
    · replace h := h.2.2.1 c
      refine r_iinc ok 4 (x4 + 1) [(4, vI (x4 + 1)), (5, vI r2), (0, .ref (F.2.1.1 0)), (2, vI x2), (3, vI x3)] d_LS_holding_57 rfl rfl hm (by decide) rfl ?_
      refine r_goto ok 5 d_LS_holding_60 (by decide) ?_
      exact r_sub [2, 3, 4, 0] rfl h
    · replace h := h.2.2.2 c
      refine r_iinc ok 3 (x3 + 1) [(3, vI (x3 + 1)), (5, vI r2), (0, .ref (F.2.1.1 0)), (2, vI x2), (4, vI x4)] d_LS_holding_54 rfl rfl hm (by decide) rfl ?_
      refine r_iinc ok 4 (x4 + 1) [(4, vI (x4 + 1)), (3, vI (x3 + 1)), (5, vI r2), (0, .ref (F.2.1.1 0)), (2, vI x2)] d_LS_holding_57 rfl rfl hm (by decide) rfl ?_
      refine r_goto ok 5 d_LS_holding_60 (by decide) ?_
      exact r_sub [3, 4, 1, 0] rfl h
set_option maxHeartbeats 4000000 in
set_option maxRecDepth 100000 in
theorem K_LS_holding_e {F : FT} (hD : ∀ σ, va_D F.2.2.1 (GW F.2.1 σ)) (hm : F.2.2.2.2.2.2.2.2.2.2.2.2.2.2.1 = 6) (ok : OkF F prog_1_method_52_code "LastSeen" ({ frames := 5, cells := 0, slots := 0, locals := 123 } : Room)) {Q : Int → SS → Prop} (hQ : RetI F Q) {x1 x2 : Int} {s : SS} (h : B_LS_holding_e Q (fun x2 x3 x4 s => AtS F 5 [(0, .ref (F.2.1.1 0)), (2, vI x2), (3, vI x3), (4, vI x4)] [] s) x1 x2 s) : AtS F 0 [(0, .ref (F.2.1.1 0)), (1, vI x1), (2, vI x2)] [] s := by
  unfold B_LS_holding_e at h
  refine r_iconst ok 0 d_LS_holding_0 rfl ?_
  refine r_istore_n ok [(3, vI 0), (0, .ref (F.2.1.1 0)), (1, vI x1), (2, vI x2)] d_LS_holding_1 rfl hm (by decide) rfl ?_
  refine r_iload_n ok 2 d_LS_holding_2 rfl rfl ?_
  refine r_istore ok [(4, vI x1), (3, vI 0), (0, .ref (F.2.1.1 0)), (1, vI x1), (2, vI x2)] d_LS_holding_3 hm (by decide) rfl ?_
  exact r_sub [2, 4, 1, 0] rfl h
theorem L_LS_holding (l : Launch) (G : GE) (A : Nat → Prop) (hD : ∀ σ, va_D A (GW G σ)) {x1 x2 : Int} {s : SS} {Q : Int → SS → Prop} (h : Sp_LS_holding x1 x2 s Q) : Met l y_LS_holding (Cond.code y_LS_holding prog_1_method_52_code 6 (some .int) :: lw_ok) ({ frames := 5, cells := 0, slots := 0, locals := 123 } : Room) (va_Pc [.ref (G.1 0), vI x1, vI x2] (gB G s)) (va_Qi (fun (r : Int32) (s2 : SS) => ∃ x : Int, r = iI x ∧ Q x s2) (fun s2 t => gB G s2 t) A) 0 0 A := by
  refine met_i hD (by decide) ⟨rfl, rfl⟩ (Nat.le_of_ble_eq_true rfl) (lv := [(0, .ref (G.1 0)), (1, vI x1), (2, vI x2)]) rfl (fun F h1 h2 h3 hm ok hQ => ?_)
  subst h1 h2 h3
  have hDF := hD
  exact K_LS_holding_e hDF hm ok hQ (h _ (fun _ _ _ _ hb => K_LS_holding_5 hDF hm ok hQ hb))
theorem d_LS_openAsFound_0 : decode prog_1_method_48_code 0 = .ok (.aload_n 0, 1) := by decide +kernel
theorem d_LS_openAsFound_1 : decode prog_1_method_48_code 1 = .ok (.getfield 78, 3) := by decide +kernel
theorem d_LS_openAsFound_4 : decode prog_1_method_48_code 4 = .ok (.iload_n 1, 1) := by decide +kernel
theorem d_LS_openAsFound_5 : decode prog_1_method_48_code 5 = .ok (.iaload, 1) := by decide +kernel
theorem d_LS_openAsFound_6 : decode prog_1_method_48_code 6 = .ok (.istore_n 2, 1) := by decide +kernel
theorem d_LS_openAsFound_7 : decode prog_1_method_48_code 7 = .ok (.aload_n 0, 1) := by decide +kernel
theorem d_LS_openAsFound_8 : decode prog_1_method_48_code 8 = .ok (.getfield 47, 3) := by decide +kernel
theorem d_LS_openAsFound_11 : decode prog_1_method_48_code 11 = .ok (.aload_n 0, 1) := by decide +kernel
theorem d_LS_openAsFound_12 : decode prog_1_method_48_code 12 = .ok (.getfield 74, 3) := by decide +kernel
theorem d_LS_openAsFound_15 : decode prog_1_method_48_code 15 = .ok (.iload_n 1, 1) := by decide +kernel
theorem d_LS_openAsFound_16 : decode prog_1_method_48_code 16 = .ok (.iaload, 1) := by decide +kernel
theorem d_LS_openAsFound_17 : decode prog_1_method_48_code 17 = .ok (.iload_n 2, 1) := by decide +kernel
theorem d_LS_openAsFound_18 : decode prog_1_method_48_code 18 = .ok (.iload_n 2, 1) := by decide +kernel
theorem d_LS_openAsFound_19 : decode prog_1_method_48_code 19 = .ok (.invokevirtual 219, 3) := by decide +kernel
theorem d_LS_openAsFound_22 : decode prog_1_method_48_code 22 = .ok (.aload_n 0, 1) := by decide +kernel
theorem d_LS_openAsFound_23 : decode prog_1_method_48_code 23 = .ok (.getfield 47, 3) := by decide +kernel
theorem d_LS_openAsFound_26 : decode prog_1_method_48_code 26 = .ok (.areturn, 1) := by decide +kernel
set_option maxHeartbeats 4000000 in
set_option maxRecDepth 100000 in
theorem K_LS_openAsFound_e {F : FT} (hD : ∀ σ, va_D F.2.2.1 (GW F.2.1 σ)) (hm : F.2.2.2.2.2.2.2.2.2.2.2.2.2.2.1 = 3) (ok : OkF F prog_1_method_48_code "LastSeen" ({ frames := 4, cells := 0, slots := 0, locals := 90 } : Room)) {Q : SS → Prop} (hQ : RetR F 6 Q) {x1 : Int} {s : SS} (h : Sp_LS_openAsFound x1 s Q) : AtS F 0 [(0, .ref (F.2.1.1 0)), (1, vI x1)] [] s := by
  unfold Sp_LS_openAsFound at h
  refine r_aload_n ok 0 d_LS_openAsFound_0 rfl rfl ?_
  refine g_LS_foundEntries ok d_LS_openAsFound_1 ?_
  refine r_iload_n ok 1 d_LS_openAsFound_4 rfl rfl ?_
  refine r_iald ok 1 d_LS_openAsFound_5 (by decide) rfl h.1 ?_
  replace h := h.2
  refine r_istore_n ok [(2, vI (s.2 1 x1)), (0, .ref (F.2.1.1 0)), (1, vI x1)] d_LS_openAsFound_6 rfl hm (by decide) rfl ?_
  refine r_aload_n ok 1 d_LS_openAsFound_7 rfl rfl ?_
  refine g_LS_hearing ok d_LS_openAsFound_8 ?_
  refine r_aload_n ok 1 d_LS_openAsFound_11 rfl rfl ?_
  refine g_LS_foundName ok d_LS_openAsFound_12 ?_
  refine r_iload_n ok 2 d_LS_openAsFound_15 rfl rfl ?_
  refine r_iald ok 0 d_LS_openAsFound_16 (by decide) rfl h.1 ?_
  replace h := h.2
  refine r_iload_n ok 0 d_LS_openAsFound_17 rfl rfl ?_
  refine r_iload_n ok 0 d_LS_openAsFound_18 rfl rfl ?_
  refine r_callVv (As := [vI (s.2 0 x1), vI (s.2 1 x1), vI (s.2 1 x1)]) (rest := []) ok 6 rfl rfl rfl wl_LS_219 wi_y_He_open ws_y_He_open wn_He wc_y_He_open (by decide) (by decide) hh_He_open (Nat.le_of_ble_eq_true rfl) rfl d_LS_openAsFound_19 (L_He_open F.1 F.2.1 F.2.2.1 hD h) (fun s1 h => ?_)
  refine r_aload_n ok 1 d_LS_openAsFound_22 rfl rfl ?_
  refine g_LS_hearing ok d_LS_openAsFound_23 ?_
  exact hQ _ _ _ _ (ok_code ok) d_LS_openAsFound_26 h
theorem L_LS_openAsFound (l : Launch) (G : GE) (A : Nat → Prop) (hD : ∀ σ, va_D A (GW G σ)) {x1 : Int} {s : SS} {Q : SS → Prop} (h : Sp_LS_openAsFound x1 s Q) : Met l y_LS_openAsFound (Cond.code y_LS_openAsFound prog_1_method_48_code 3 (some (.object "LastSeen$Hearing")) :: lw_ok) ({ frames := 4, cells := 0, slots := 0, locals := 90 } : Room) (va_Pc [.ref (G.1 0), vI x1] (gB G s)) (va_Qr (fun (s2 : SS) => Q s2) (fun s2 a t => a = G.1 6 ∧ gB G s2 t) A) 0 0 A := by
  refine met_r hD (by decide) ⟨rfl, rfl⟩ (Nat.le_of_ble_eq_true rfl) (lv := [(0, .ref (G.1 0)), (1, vI x1)]) rfl (fun F h1 h2 h3 hm ok hQ => ?_)
  subst h1 h2 h3
  have hDF := hD
  exact K_LS_openAsFound_e hDF hm ok hQ h
theorem d_He_leanCount_0 : decode prog_4_method_10_code 0 = .ok (.iconst 0, 1) := by decide +kernel
theorem d_He_leanCount_1 : decode prog_4_method_10_code 1 = .ok (.istore_n 1, 1) := by decide +kernel
theorem d_He_leanCount_2 : decode prog_4_method_10_code 2 = .ok (.iconst 0, 1) := by decide +kernel
theorem d_He_leanCount_3 : decode prog_4_method_10_code 3 = .ok (.istore_n 2, 1) := by decide +kernel
theorem d_He_leanCount_4 : decode prog_4_method_10_code 4 = .ok (.iload_n 2, 1) := by decide +kernel
theorem d_He_leanCount_5 : decode prog_4_method_10_code 5 = .ok (.aload_n 0, 1) := by decide +kernel
theorem d_He_leanCount_6 : decode prog_4_method_10_code 6 = .ok (.getfield 28, 3) := by decide +kernel
theorem d_He_leanCount_9 : decode prog_4_method_10_code 9 = .ok (.invokevirtual 71, 3) := by decide +kernel
theorem d_He_leanCount_12 : decode prog_4_method_10_code 12 = .ok (.if_icmp .ge 21, 3) := by decide +kernel
theorem d_He_leanCount_15 : decode prog_4_method_10_code 15 = .ok (.aload_n 0, 1) := by decide +kernel
theorem d_He_leanCount_16 : decode prog_4_method_10_code 16 = .ok (.getfield 17, 3) := by decide +kernel
theorem d_He_leanCount_19 : decode prog_4_method_10_code 19 = .ok (.iload_n 2, 1) := by decide +kernel
theorem d_He_leanCount_20 : decode prog_4_method_10_code 20 = .ok (.baload, 1) := by decide +kernel
theorem d_He_leanCount_21 : decode prog_4_method_10_code 21 = .ok (.ifCond .eq 6, 3) := by decide +kernel
theorem d_He_leanCount_24 : decode prog_4_method_10_code 24 = .ok (.iinc 1 1, 3) := by decide +kernel
theorem d_He_leanCount_27 : decode prog_4_method_10_code 27 = .ok (.iinc 2 1, 3) := by decide +kernel
theorem d_He_leanCount_30 : decode prog_4_method_10_code 30 = .ok (.goto (-26), 3) := by decide +kernel
theorem d_He_leanCount_33 : decode prog_4_method_10_code 33 = .ok (.iload_n 1, 1) := by decide +kernel
theorem d_He_leanCount_34 : decode prog_4_method_10_code 34 = .ok (.ireturn, 1) := by decide +kernel
set_option maxHeartbeats 4000000 in
set_option maxRecDepth 100000 in
theorem K_He_leanCount_4 {F : FT} (hD : ∀ σ, va_D F.2.2.1 (GW F.2.1 σ)) (hm : F.2.2.2.2.2.2.2.2.2.2.2.2.2.2.1 = 3) (ok : OkF F prog_4_method_10_code "LastSeen$Hearing" ({ frames := 1, cells := 0, slots := 0, locals := 20 } : Room)) {Q : Int → SS → Prop} (hQ : RetI F Q) {x1 x2 : Int} {s : SS} (h : B_He_leanCount_4 Q (fun x1 x2 s => AtS F 4 [(0, .ref (F.2.1.1 6)), (1, vI x1), (2, vI x2)] [] s) x1 x2 s) : AtS F 4 [(0, .ref (F.2.1.1 6)), (1, vI x1), (2, vI x2)] [] s := by
  unfold B_He_leanCount_4 at h
  refine r_iload_n ok 2 d_He_leanCount_4 rfl rfl ?_
  refine r_aload_n ok 0 d_He_leanCount_5 rfl rfl ?_
  refine g_He_words ok d_He_leanCount_6 ?_
  refine r_callVi (As := []) (rest := [vI x2]) ok 4 rfl rfl rfl wl_He_71 wi_y_Wo_size ws_y_Wo_size wn_Wo wc_y_Wo_size (by decide) (by decide) hh_Wo_size (Nat.le_of_ble_eq_true rfl) rfl d_He_leanCount_9 (L_Wo_size F.1 F.2.1 F.2.2.1 hD h) (fun r2 s1 h => ?_)
  refine r_icmp_ge ok 33 d_He_leanCount_12 (by decide) h.1 h.2.1 (fun c => ?_) (fun c => ?_)
  · replace h := h.2.2.1 c
    refine r_iload_n ok 1 d_He_leanCount_33 rfl rfl ?_
    exact hQ _ _ _ _ _ (ok_code ok) d_He_leanCount_34 h
  · replace h := h.2.2.2 c
    refine r_aload_n ok 0 d_He_leanCount_15 rfl rfl ?_
    refine g_He_isLeanedOn ok d_He_leanCount_16 ?_
    refine r_iload_n ok 2 d_He_leanCount_19 rfl rfl ?_
    refine r_zald ok 34 d_He_leanCount_20 (by decide) rfl h.1 ?_
    replace h := h.2
    refine r_if_eq ok 27 d_He_leanCount_21 (by decide) h.1 (fun c => ?_) (fun c => ?_)
    · replace h := h.2.1 c
      refine r_iinc ok 2 (x2 + 1) [(2, vI (x2 + 1)), (0, .ref (F.2.1.1 6)), (1, vI x1)] d_He_leanCount_27 rfl rfl hm (by decide) rfl ?_
      refine r_goto ok 4 d_He_leanCount_30 (by decide) ?_
      exact r_sub [1, 2, 0] rfl h
    · replace h := h.2.2 c
      refine r_iinc ok 1 (x1 + 1) [(1, vI (x1 + 1)), (0, .ref (F.2.1.1 6)), (2, vI x2)] d_He_leanCount_24 rfl rfl hm (by decide) rfl ?_
      refine r_iinc ok 2 (x2 + 1) [(2, vI (x2 + 1)), (1, vI (x1 + 1)), (0, .ref (F.2.1.1 6))] d_He_leanCount_27 rfl rfl hm (by decide) rfl ?_
      refine r_goto ok 4 d_He_leanCount_30 (by decide) ?_
      exact r_sub [2, 1, 0] rfl h
set_option maxHeartbeats 4000000 in
set_option maxRecDepth 100000 in
theorem K_He_leanCount_e {F : FT} (hD : ∀ σ, va_D F.2.2.1 (GW F.2.1 σ)) (hm : F.2.2.2.2.2.2.2.2.2.2.2.2.2.2.1 = 3) (ok : OkF F prog_4_method_10_code "LastSeen$Hearing" ({ frames := 1, cells := 0, slots := 0, locals := 20 } : Room)) {Q : Int → SS → Prop} (hQ : RetI F Q) {s : SS} (h : B_He_leanCount_e Q (fun x1 x2 s => AtS F 4 [(0, .ref (F.2.1.1 6)), (1, vI x1), (2, vI x2)] [] s)  s) : AtS F 0 [(0, .ref (F.2.1.1 6))] [] s := by
  unfold B_He_leanCount_e at h
  refine r_iconst ok 0 d_He_leanCount_0 rfl ?_
  refine r_istore_n ok [(1, vI 0), (0, .ref (F.2.1.1 6))] d_He_leanCount_1 rfl hm (by decide) rfl ?_
  refine r_iconst ok 0 d_He_leanCount_2 rfl ?_
  refine r_istore_n ok [(2, vI 0), (1, vI 0), (0, .ref (F.2.1.1 6))] d_He_leanCount_3 rfl hm (by decide) rfl ?_
  exact r_sub [2, 1, 0] rfl h
theorem L_He_leanCount (l : Launch) (G : GE) (A : Nat → Prop) (hD : ∀ σ, va_D A (GW G σ)) {s : SS} {Q : Int → SS → Prop} (h : Sp_He_leanCount  s Q) : Met l y_He_leanCount (Cond.code y_He_leanCount prog_4_method_10_code 3 (some .int) :: lw_ok) ({ frames := 1, cells := 0, slots := 0, locals := 20 } : Room) (va_Pc [.ref (G.1 6)] (gB G s)) (va_Qi (fun (r : Int32) (s2 : SS) => ∃ x : Int, r = iI x ∧ Q x s2) (fun s2 t => gB G s2 t) A) 0 0 A := by
  refine met_i hD (by decide) ⟨rfl, rfl⟩ (Nat.le_of_ble_eq_true rfl) (lv := [(0, .ref (G.1 6))]) rfl (fun F h1 h2 h3 hm ok hQ => ?_)
  subst h1 h2 h3
  have hDF := hD
  exact K_He_leanCount_e hDF hm ok hQ (h _ (fun _ _ _ hb => K_He_leanCount_4 hDF hm ok hQ hb))
theorem d_He_leanAt_0 : decode prog_4_method_11_code 0 = .ok (.iconst 0, 1) := by decide +kernel
theorem d_He_leanAt_1 : decode prog_4_method_11_code 1 = .ok (.istore_n 2, 1) := by decide +kernel
theorem d_He_leanAt_2 : decode prog_4_method_11_code 2 = .ok (.iconst 0, 1) := by decide +kernel
theorem d_He_leanAt_3 : decode prog_4_method_11_code 3 = .ok (.istore_n 3, 1) := by decide +kernel
theorem d_He_leanAt_4 : decode prog_4_method_11_code 4 = .ok (.iload_n 3, 1) := by decide +kernel
theorem d_He_leanAt_5 : decode prog_4_method_11_code 5 = .ok (.aload_n 0, 1) := by decide +kernel
theorem d_He_leanAt_6 : decode prog_4_method_11_code 6 = .ok (.getfield 28, 3) := by decide +kernel
theorem d_He_leanAt_9 : decode prog_4_method_11_code 9 = .ok (.invokevirtual 71, 3) := by decide +kernel
theorem d_He_leanAt_12 : decode prog_4_method_11_code 12 = .ok (.if_icmp .ge 31, 3) := by decide +kernel
theorem d_He_leanAt_15 : decode prog_4_method_11_code 15 = .ok (.aload_n 0, 1) := by decide +kernel
theorem d_He_leanAt_16 : decode prog_4_method_11_code 16 = .ok (.getfield 17, 3) := by decide +kernel
theorem d_He_leanAt_19 : decode prog_4_method_11_code 19 = .ok (.iload_n 3, 1) := by decide +kernel
theorem d_He_leanAt_20 : decode prog_4_method_11_code 20 = .ok (.baload, 1) := by decide +kernel
theorem d_He_leanAt_21 : decode prog_4_method_11_code 21 = .ok (.ifCond .ne 6, 3) := by decide +kernel
theorem d_He_leanAt_24 : decode prog_4_method_11_code 24 = .ok (.goto 13, 3) := by decide +kernel
theorem d_He_leanAt_27 : decode prog_4_method_11_code 27 = .ok (.iload_n 2, 1) := by decide +kernel
theorem d_He_leanAt_28 : decode prog_4_method_11_code 28 = .ok (.iload_n 1, 1) := by decide +kernel
theorem d_He_leanAt_29 : decode prog_4_method_11_code 29 = .ok (.if_icmp .ne 5, 3) := by decide +kernel
theorem d_He_leanAt_32 : decode prog_4_method_11_code 32 = .ok (.iload_n 3, 1) := by decide +kernel
theorem d_He_leanAt_33 : decode prog_4_method_11_code 33 = .ok (.ireturn, 1) := by decide +kernel
theorem d_He_leanAt_34 : decode prog_4_method_11_code 34 = .ok (.iinc 2 1, 3) := by decide +kernel
theorem d_He_leanAt_37 : decode prog_4_method_11_code 37 = .ok (.iinc 3 1, 3) := by decide +kernel
theorem d_He_leanAt_40 : decode prog_4_method_11_code 40 = .ok (.goto (-36), 3) := by decide +kernel
theorem d_He_leanAt_43 : decode prog_4_method_11_code 43 = .ok (.iconst (-1), 1) := by decide +kernel
theorem d_He_leanAt_44 : decode prog_4_method_11_code 44 = .ok (.ireturn, 1) := by decide +kernel
set_option maxHeartbeats 4000000 in
set_option maxRecDepth 100000 in
theorem K_He_leanAt_4 {F : FT} (hD : ∀ σ, va_D F.2.2.1 (GW F.2.1 σ)) (hm : F.2.2.2.2.2.2.2.2.2.2.2.2.2.2.1 = 4) (ok : OkF F prog_4_method_11_code "LastSeen$Hearing" ({ frames := 1, cells := 0, slots := 0, locals := 20 } : Room)) {Q : Int → SS → Prop} (hQ : RetI F Q) {x1 x2 x3 : Int} {s : SS} (h : B_He_leanAt_4 Q (fun x1 x2 x3 s => AtS F 4 [(0, .ref (F.2.1.1 6)), (1, vI x1), (2, vI x2), (3, vI x3)] [] s) x1 x2 x3 s) : AtS F 4 [(0, .ref (F.2.1.1 6)), (1, vI x1), (2, vI x2), (3, vI x3)] [] s := by
  unfold B_He_leanAt_4 at h
  refine r_iload_n ok 3 d_He_leanAt_4 rfl rfl ?_
  refine r_aload_n ok 0 d_He_leanAt_5 rfl rfl ?_
  refine g_He_words ok d_He_leanAt_6 ?_
  refine r_callVi (As := []) (rest := [vI x3]) ok 4 rfl rfl rfl wl_He_71 wi_y_Wo_size ws_y_Wo_size wn_Wo wc_y_Wo_size (by decide) (by decide) hh_Wo_size (Nat.le_of_ble_eq_true rfl) rfl d_He_leanAt_9 (L_Wo_size F.1 F.2.1 F.2.2.1 hD h) (fun r2 s1 h => ?_)
  refine r_icmp_ge ok 43 d_He_leanAt_12 (by decide) h.1 h.2.1 (fun c => ?_) (fun c => ?_)
  · replace h := h.2.2.1 c
    refine r_iconst ok (-1) d_He_leanAt_43 rfl ?_
    exact hQ _ _ _ _ _ (ok_code ok) d_He_leanAt_44 h
  · replace h := h.2.2.2 c
    refine r_aload_n ok 0 d_He_leanAt_15 rfl rfl ?_
    refine g_He_isLeanedOn ok d_He_leanAt_16 ?_
    refine r_iload_n ok 3 d_He_leanAt_19 rfl rfl ?_
    refine r_zald ok 34 d_He_leanAt_20 (by decide) rfl h.1 ?_
    replace h := h.2
    refine r_if_ne ok 27 d_He_leanAt_21 (by decide) h.1 (fun c => ?_) (fun c => ?_)
    · replace h := h.2.1 c
      refine r_iload_n ok 2 d_He_leanAt_27 rfl rfl ?_
      refine r_iload_n ok 1 d_He_leanAt_28 rfl rfl ?_
      refine r_icmp_ne ok 34 d_He_leanAt_29 (by decide) h.1 h.2.1 (fun c => ?_) (fun c => ?_)
      · replace h := h.2.2.1 c
        refine r_iinc ok 2 (x2 + 1) [(2, vI (x2 + 1)), (0, .ref (F.2.1.1 6)), (1, vI x1), (3, vI x3)] d_He_leanAt_34 rfl rfl hm (by decide) rfl ?_
        refine r_iinc ok 3 (x3 + 1) [(3, vI (x3 + 1)), (2, vI (x2 + 1)), (0, .ref (F.2.1.1 6)), (1, vI x1)] d_He_leanAt_37 rfl rfl hm (by decide) rfl ?_
        refine r_goto ok 4 d_He_leanAt_40 (by decide) ?_
        exact r_sub [2, 3, 1, 0] rfl h
      · replace h := h.2.2.2 c
        refine r_iload_n ok 3 d_He_leanAt_32 rfl rfl ?_
        exact hQ _ _ _ _ _ (ok_code ok) d_He_leanAt_33 h
    · replace h := h.2.2 c
      refine r_goto ok 37 d_He_leanAt_24 (by decide) ?_
      refine r_iinc ok 3 (x3 + 1) [(3, vI (x3 + 1)), (0, .ref (F.2.1.1 6)), (1, vI x1), (2, vI x2)] d_He_leanAt_37 rfl rfl hm (by decide) rfl ?_
      refine r_goto ok 4 d_He_leanAt_40 (by decide) ?_
      exact r_sub [1, 2, 3, 0] rfl h
set_option maxHeartbeats 4000000 in
set_option maxRecDepth 100000 in
theorem K_He_leanAt_e {F : FT} (hD : ∀ σ, va_D F.2.2.1 (GW F.2.1 σ)) (hm : F.2.2.2.2.2.2.2.2.2.2.2.2.2.2.1 = 4) (ok : OkF F prog_4_method_11_code "LastSeen$Hearing" ({ frames := 1, cells := 0, slots := 0, locals := 20 } : Room)) {Q : Int → SS → Prop} (hQ : RetI F Q) {x1 : Int} {s : SS} (h : B_He_leanAt_e Q (fun x1 x2 x3 s => AtS F 4 [(0, .ref (F.2.1.1 6)), (1, vI x1), (2, vI x2), (3, vI x3)] [] s) x1 s) : AtS F 0 [(0, .ref (F.2.1.1 6)), (1, vI x1)] [] s := by
  unfold B_He_leanAt_e at h
  refine r_iconst ok 0 d_He_leanAt_0 rfl ?_
  refine r_istore_n ok [(2, vI 0), (0, .ref (F.2.1.1 6)), (1, vI x1)] d_He_leanAt_1 rfl hm (by decide) rfl ?_
  refine r_iconst ok 0 d_He_leanAt_2 rfl ?_
  refine r_istore_n ok [(3, vI 0), (2, vI 0), (0, .ref (F.2.1.1 6)), (1, vI x1)] d_He_leanAt_3 rfl hm (by decide) rfl ?_
  exact r_sub [2, 3, 1, 0] rfl h
theorem L_He_leanAt (l : Launch) (G : GE) (A : Nat → Prop) (hD : ∀ σ, va_D A (GW G σ)) {x1 : Int} {s : SS} {Q : Int → SS → Prop} (h : Sp_He_leanAt x1 s Q) : Met l y_He_leanAt (Cond.code y_He_leanAt prog_4_method_11_code 4 (some .int) :: lw_ok) ({ frames := 1, cells := 0, slots := 0, locals := 20 } : Room) (va_Pc [.ref (G.1 6), vI x1] (gB G s)) (va_Qi (fun (r : Int32) (s2 : SS) => ∃ x : Int, r = iI x ∧ Q x s2) (fun s2 t => gB G s2 t) A) 0 0 A := by
  refine met_i hD (by decide) ⟨rfl, rfl⟩ (Nat.le_of_ble_eq_true rfl) (lv := [(0, .ref (G.1 6)), (1, vI x1)]) rfl (fun F h1 h2 h3 hm ok hQ => ?_)
  subst h1 h2 h3
  have hDF := hD
  exact K_He_leanAt_e hDF hm ok hQ (h _ (fun _ _ _ _ hb => K_He_leanAt_4 hDF hm ok hQ hb))
theorem d_LS_found_0 : decode prog_1_method_24_code 0 = .ok (.iload_n 1, 1) := by decide +kernel
theorem d_LS_found_1 : decode prog_1_method_24_code 1 = .ok (.ifCond .lt 11, 3) := by decide +kernel
theorem d_LS_found_4 : decode prog_1_method_24_code 4 = .ok (.iload_n 1, 1) := by decide +kernel
theorem d_LS_found_5 : decode prog_1_method_24_code 5 = .ok (.aload_n 0, 1) := by decide +kernel
theorem d_LS_found_6 : decode prog_1_method_24_code 6 = .ok (.getfield 269, 3) := by decide +kernel
theorem d_LS_found_9 : decode prog_1_method_24_code 9 = .ok (.if_icmp .lt 5, 3) := by decide +kernel
theorem d_LS_found_12 : decode prog_1_method_24_code 12 = .ok (.iconst (-1), 1) := by decide +kernel
theorem d_LS_found_13 : decode prog_1_method_24_code 13 = .ok (.ireturn, 1) := by decide +kernel
theorem d_LS_found_14 : decode prog_1_method_24_code 14 = .ok (.iload_n 2, 1) := by decide +kernel
theorem d_LS_found_15 : decode prog_1_method_24_code 15 = .ok (.tableswitch 72 0 4 #[33, 40, 47, 54, 63], 33) := by decide +kernel
theorem d_LS_found_48 : decode prog_1_method_24_code 48 = .ok (.aload_n 0, 1) := by decide +kernel
theorem d_LS_found_49 : decode prog_1_method_24_code 49 = .ok (.getfield 74, 3) := by decide +kernel
theorem d_LS_found_52 : decode prog_1_method_24_code 52 = .ok (.iload_n 1, 1) := by decide +kernel
theorem d_LS_found_53 : decode prog_1_method_24_code 53 = .ok (.iaload, 1) := by decide +kernel
theorem d_LS_found_54 : decode prog_1_method_24_code 54 = .ok (.ireturn, 1) := by decide +kernel
theorem d_LS_found_55 : decode prog_1_method_24_code 55 = .ok (.aload_n 0, 1) := by decide +kernel
theorem d_LS_found_56 : decode prog_1_method_24_code 56 = .ok (.getfield 78, 3) := by decide +kernel
theorem d_LS_found_59 : decode prog_1_method_24_code 59 = .ok (.iload_n 1, 1) := by decide +kernel
theorem d_LS_found_60 : decode prog_1_method_24_code 60 = .ok (.iaload, 1) := by decide +kernel
theorem d_LS_found_61 : decode prog_1_method_24_code 61 = .ok (.ireturn, 1) := by decide +kernel
theorem d_LS_found_62 : decode prog_1_method_24_code 62 = .ok (.aload_n 0, 1) := by decide +kernel
theorem d_LS_found_63 : decode prog_1_method_24_code 63 = .ok (.getfield 84, 3) := by decide +kernel
theorem d_LS_found_66 : decode prog_1_method_24_code 66 = .ok (.iload_n 1, 1) := by decide +kernel
theorem d_LS_found_67 : decode prog_1_method_24_code 67 = .ok (.iaload, 1) := by decide +kernel
theorem d_LS_found_68 : decode prog_1_method_24_code 68 = .ok (.ireturn, 1) := by decide +kernel
theorem d_LS_found_69 : decode prog_1_method_24_code 69 = .ok (.aload_n 0, 1) := by decide +kernel
theorem d_LS_found_70 : decode prog_1_method_24_code 70 = .ok (.iload_n 1, 1) := by decide +kernel
theorem d_LS_found_71 : decode prog_1_method_24_code 71 = .ok (.iload_n 1, 1) := by decide +kernel
theorem d_LS_found_72 : decode prog_1_method_24_code 72 = .ok (.iconst 1, 1) := by decide +kernel
theorem d_LS_found_73 : decode prog_1_method_24_code 73 = .ok (.iadd, 1) := by decide +kernel
theorem d_LS_found_74 : decode prog_1_method_24_code 74 = .ok (.invokevirtual 272, 3) := by decide +kernel
theorem d_LS_found_77 : decode prog_1_method_24_code 77 = .ok (.ireturn, 1) := by decide +kernel
theorem d_LS_found_78 : decode prog_1_method_24_code 78 = .ok (.aload_n 0, 1) := by decide +kernel
theorem d_LS_found_79 : decode prog_1_method_24_code 79 = .ok (.iload_n 1, 1) := by decide +kernel
theorem d_LS_found_80 : decode prog_1_method_24_code 80 = .ok (.invokevirtual 275, 3) := by decide +kernel
theorem d_LS_found_83 : decode prog_1_method_24_code 83 = .ok (.invokevirtual 279, 3) := by decide +kernel
theorem d_LS_found_86 : decode prog_1_method_24_code 86 = .ok (.ireturn, 1) := by decide +kernel
theorem d_LS_found_87 : decode prog_1_method_24_code 87 = .ok (.iload_n 2, 1) := by decide +kernel
theorem d_LS_found_88 : decode prog_1_method_24_code 88 = .ok (.bipush 10, 2) := by decide +kernel
theorem d_LS_found_90 : decode prog_1_method_24_code 90 = .ok (.if_icmp .ge 7, 3) := by decide +kernel
theorem d_LS_found_93 : decode prog_1_method_24_code 93 = .ok (.iconst (-1), 1) := by decide +kernel
theorem d_LS_found_94 : decode prog_1_method_24_code 94 = .ok (.goto 15, 3) := by decide +kernel
theorem d_LS_found_97 : decode prog_1_method_24_code 97 = .ok (.aload_n 0, 1) := by decide +kernel
theorem d_LS_found_98 : decode prog_1_method_24_code 98 = .ok (.iload_n 1, 1) := by decide +kernel
theorem d_LS_found_99 : decode prog_1_method_24_code 99 = .ok (.invokevirtual 275, 3) := by decide +kernel
theorem d_LS_found_102 : decode prog_1_method_24_code 102 = .ok (.iload_n 2, 1) := by decide +kernel
theorem d_LS_found_103 : decode prog_1_method_24_code 103 = .ok (.bipush 10, 2) := by decide +kernel
theorem d_LS_found_105 : decode prog_1_method_24_code 105 = .ok (.isub, 1) := by decide +kernel
theorem d_LS_found_106 : decode prog_1_method_24_code 106 = .ok (.invokevirtual 282, 3) := by decide +kernel
theorem d_LS_found_109 : decode prog_1_method_24_code 109 = .ok (.ireturn, 1) := by decide +kernel
set_option maxHeartbeats 4000000 in
set_option maxRecDepth 100000 in
theorem K_LS_found_e {F : FT} (hD : ∀ σ, va_D F.2.2.1 (GW F.2.1 σ)) (hm : F.2.2.2.2.2.2.2.2.2.2.2.2.2.2.1 = 3) (ok : OkF F prog_1_method_24_code "LastSeen" ({ frames := 6, cells := 0, slots := 0, locals := 148 } : Room)) {Q : Int → SS → Prop} (hQ : RetI F Q) {x1 x2 : Int} {s : SS} (h : Sp_LS_found x1 x2 s Q) : AtS F 0 [(0, .ref (F.2.1.1 0)), (1, vI x1), (2, vI x2)] [] s := by
  unfold Sp_LS_found at h
  refine r_iload_n ok 1 d_LS_found_0 rfl rfl ?_
  refine r_if_lt ok 12 d_LS_found_1 (by decide) h.1 (fun c => ?_) (fun c => ?_)
  · replace h := h.2.1 c
    refine r_iconst ok (-1) d_LS_found_12 rfl ?_
    exact hQ _ _ _ _ _ (ok_code ok) d_LS_found_13 h
  · replace h := h.2.2 c
    refine r_iload_n ok 1 d_LS_found_4 rfl rfl ?_
    refine r_aload_n ok 0 d_LS_found_5 rfl rfl ?_
    refine g_LS_founds ok d_LS_found_6 ?_
    refine r_icmp_lt ok 14 d_LS_found_9 (by decide) h.1 h.2.1 (fun c => ?_) (fun c => ?_)
    · replace h := h.2.2.1 c
      refine r_iload_n ok 2 d_LS_found_14 rfl rfl ?_
      have hx := h.1
      replace h := h.2
      rcases Decidable.em (x2 = 0) with c0 | c0
      · replace h := h.1 c0
        refine r_tblIn ok 0 48 d_LS_found_15 hx c0 (by decide) rfl (by decide) ?_
        refine r_aload_n ok 0 d_LS_found_48 rfl rfl ?_
        refine g_LS_foundName ok d_LS_found_49 ?_
        refine r_iload_n ok 1 d_LS_found_52 rfl rfl ?_
        refine r_iald ok 0 d_LS_found_53 (by decide) rfl h.1 ?_
        replace h := h.2
        exact hQ _ _ _ _ _ (ok_code ok) d_LS_found_54 h
      replace h := h.2
      rcases Decidable.em (x2 = 1) with c1 | c1
      · replace h := h.1 c1
        refine r_tblIn ok 1 55 d_LS_found_15 hx c1 (by decide) rfl (by decide) ?_
        refine r_aload_n ok 0 d_LS_found_55 rfl rfl ?_
        refine g_LS_foundEntries ok d_LS_found_56 ?_
        refine r_iload_n ok 1 d_LS_found_59 rfl rfl ?_
        refine r_iald ok 1 d_LS_found_60 (by decide) rfl h.1 ?_
        replace h := h.2
        exact hQ _ _ _ _ _ (ok_code ok) d_LS_found_61 h
      replace h := h.2
      rcases Decidable.em (x2 = 2) with c2 | c2
      · replace h := h.1 c2
        refine r_tblIn ok 2 62 d_LS_found_15 hx c2 (by decide) rfl (by decide) ?_
        refine r_aload_n ok 0 d_LS_found_62 rfl rfl ?_
        refine g_LS_foundDigit ok d_LS_found_63 ?_
        refine r_iload_n ok 1 d_LS_found_66 rfl rfl ?_
        refine r_iald ok 3 d_LS_found_67 (by decide) rfl h.1 ?_
        replace h := h.2
        exact hQ _ _ _ _ _ (ok_code ok) d_LS_found_68 h
      replace h := h.2
      rcases Decidable.em (x2 = 3) with c3 | c3
      · replace h := h.1 c3
        refine r_tblIn ok 3 69 d_LS_found_15 hx c3 (by decide) rfl (by decide) ?_
        refine r_aload_n ok 0 d_LS_found_69 rfl rfl ?_
        refine r_iload_n ok 1 d_LS_found_70 rfl rfl ?_
        refine r_iload_n ok 1 d_LS_found_71 rfl rfl ?_
        refine r_iconst ok 1 d_LS_found_72 rfl ?_
        refine r_iadd ok d_LS_found_73 ?_
        refine r_callVi (As := [vI x1, vI (x1 + 1)]) (rest := []) ok 0 rfl rfl rfl wl_LS_272 wi_y_LS_holding ws_y_LS_holding wn_LS wc_y_LS_holding (by decide) (by decide) hh_LS_holding (Nat.le_of_ble_eq_true rfl) rfl d_LS_found_74 (L_LS_holding F.1 F.2.1 F.2.2.1 hD h) (fun r2 s1 h => ?_)
        exact hQ _ _ _ _ _ (ok_code ok) d_LS_found_77 h
      replace h := h.2
      rcases Decidable.em (x2 = 4) with c4 | c4
      · replace h := h.1 c4
        refine r_tblIn ok 4 78 d_LS_found_15 hx c4 (by decide) rfl (by decide) ?_
        refine r_aload_n ok 0 d_LS_found_78 rfl rfl ?_
        refine r_iload_n ok 1 d_LS_found_79 rfl rfl ?_
        refine r_callVr (o2 := 6) (As := [vI x1]) (rest := []) ok 0 rfl rfl rfl wl_LS_275 wi_y_LS_openAsFound ws_y_LS_openAsFound wn_LS wc_y_LS_openAsFound (by decide) (by decide) hh_LS_openAsFound (Nat.le_of_ble_eq_true rfl) rfl d_LS_found_80 (L_LS_openAsFound F.1 F.2.1 F.2.2.1 hD h) (fun s3 h => ?_)
        refine r_callVi (As := []) (rest := []) ok 6 rfl rfl rfl wl_LS_279 wi_y_He_leanCount ws_y_He_leanCount wn_He wc_y_He_leanCount (by decide) (by decide) hh_He_leanCount (Nat.le_of_ble_eq_true rfl) rfl d_LS_found_83 (L_He_leanCount F.1 F.2.1 F.2.2.1 hD h) (fun r5 s4 h => ?_)
        exact hQ _ _ _ _ _ (ok_code ok) d_LS_found_86 h
      replace h := h.2
      replace h := h c0 c1 c2 c3 c4
      refine r_tblOut ok 87 d_LS_found_15 hx (by omega) (by decide) ?_
      refine r_iload_n ok 2 d_LS_found_87 rfl rfl ?_
      refine r_bipush ok 10 d_LS_found_88 (by decide) ?_
      refine r_icmp_ge ok 97 d_LS_found_90 (by decide) h.1 (by decide) (fun c => ?_) (fun c => ?_)
      · replace h := h.2.1 c
        refine r_aload_n ok 0 d_LS_found_97 rfl rfl ?_
        refine r_iload_n ok 1 d_LS_found_98 rfl rfl ?_
        refine r_callVr (o2 := 6) (As := [vI x1]) (rest := []) ok 0 rfl rfl rfl wl_LS_275 wi_y_LS_openAsFound ws_y_LS_openAsFound wn_LS wc_y_LS_openAsFound (by decide) (by decide) hh_LS_openAsFound (Nat.le_of_ble_eq_true rfl) rfl d_LS_found_99 (L_LS_openAsFound F.1 F.2.1 F.2.2.1 hD h) (fun s6 h => ?_)
        refine r_iload_n ok 2 d_LS_found_102 rfl rfl ?_
        refine r_bipush ok 10 d_LS_found_103 (by decide) ?_
        refine r_isub ok d_LS_found_105 ?_
        refine r_callVi (As := [vI (x2 - 10)]) (rest := []) ok 6 rfl rfl rfl wl_LS_282 wi_y_He_leanAt ws_y_He_leanAt wn_He wc_y_He_leanAt (by decide) (by decide) hh_He_leanAt (Nat.le_of_ble_eq_true rfl) rfl d_LS_found_106 (L_He_leanAt F.1 F.2.1 F.2.2.1 hD h) (fun r8 s7 h => ?_)
        exact hQ _ _ _ _ _ (ok_code ok) d_LS_found_109 h
      · replace h := h.2.2 c
        refine r_iconst ok (-1) d_LS_found_93 rfl ?_
        refine r_goto ok 109 d_LS_found_94 (by decide) ?_
        exact hQ _ _ _ _ _ (ok_code ok) d_LS_found_109 h
    · replace h := h.2.2.2 c
      refine r_iconst ok (-1) d_LS_found_12 rfl ?_
      exact hQ _ _ _ _ _ (ok_code ok) d_LS_found_13 h
theorem L_LS_found (l : Launch) (G : GE) (A : Nat → Prop) (hD : ∀ σ, va_D A (GW G σ)) {x1 x2 : Int} {s : SS} {Q : Int → SS → Prop} (h : Sp_LS_found x1 x2 s Q) : Met l y_LS_found (Cond.code y_LS_found prog_1_method_24_code 3 (some .int) :: lw_ok) ({ frames := 6, cells := 0, slots := 0, locals := 148 } : Room) (va_Pc [.ref (G.1 0), vI x1, vI x2] (gB G s)) (va_Qi (fun (r : Int32) (s2 : SS) => ∃ x : Int, r = iI x ∧ Q x s2) (fun s2 t => gB G s2 t) A) 0 0 A := by
  refine met_i hD (by decide) ⟨rfl, rfl⟩ (Nat.le_of_ble_eq_true rfl) (lv := [(0, .ref (G.1 0)), (1, vI x1), (2, vI x2)]) rfl (fun F h1 h2 h3 hm ok hQ => ?_)
  subst h1 h2 h3
  have hDF := hD
  exact K_LS_found_e hDF hm ok hQ h
theorem d_Gr_isGrave_0 : decode prog_3_method_2_code 0 = .ok (.iload_n 0, 1) := by decide +kernel
theorem d_Gr_isGrave_1 : decode prog_3_method_2_code 1 = .ok (.ifCond .lt 12, 3) := by decide +kernel
theorem d_Gr_isGrave_4 : decode prog_3_method_2_code 4 = .ok (.iload_n 0, 1) := by decide +kernel
theorem d_Gr_isGrave_5 : decode prog_3_method_2_code 5 = .ok (.iconst 4, 1) := by decide +kernel
theorem d_Gr_isGrave_6 : decode prog_3_method_2_code 6 = .ok (.if_icmp .ge 7, 3) := by decide +kernel
theorem d_Gr_isGrave_9 : decode prog_3_method_2_code 9 = .ok (.iconst 1, 1) := by decide +kernel
theorem d_Gr_isGrave_10 : decode prog_3_method_2_code 10 = .ok (.goto 4, 3) := by decide +kernel
theorem d_Gr_isGrave_13 : decode prog_3_method_2_code 13 = .ok (.iconst 0, 1) := by decide +kernel
theorem d_Gr_isGrave_14 : decode prog_3_method_2_code 14 = .ok (.ireturn, 1) := by decide +kernel
set_option maxHeartbeats 4000000 in
set_option maxRecDepth 100000 in
theorem K_Gr_isGrave_e {F : FT} (hD : ∀ σ, va_D F.2.2.1 (GW F.2.1 σ)) (hm : F.2.2.2.2.2.2.2.2.2.2.2.2.2.2.1 = 1) (ok : OkF F prog_3_method_2_code "LastSeen$Graves" ({ frames := 0, cells := 0, slots := 0, locals := 0 } : Room)) {Q : Int → SS → Prop} (hQ : RetZ F Q) {x0 : Int} {s : SS} (h : Sp_Gr_isGrave x0 s Q) : AtS F 0 [(0, vI x0)] [] s := by
  unfold Sp_Gr_isGrave at h
  refine r_iload_n ok 0 d_Gr_isGrave_0 rfl rfl ?_
  refine r_if_lt ok 13 d_Gr_isGrave_1 (by decide) h.1 (fun c => ?_) (fun c => ?_)
  · replace h := h.2.1 c
    refine r_iconst ok 0 d_Gr_isGrave_13 rfl ?_
    exact hQ _ _ _ _ _ (ok_code ok) d_Gr_isGrave_14 (by decide) h
  · replace h := h.2.2 c
    refine r_iload_n ok 0 d_Gr_isGrave_4 rfl rfl ?_
    refine r_iconst ok 4 d_Gr_isGrave_5 rfl ?_
    refine r_icmp_ge ok 13 d_Gr_isGrave_6 (by decide) h.1 (by decide) (fun c => ?_) (fun c => ?_)
    · replace h := h.2.1 c
      refine r_iconst ok 0 d_Gr_isGrave_13 rfl ?_
      exact hQ _ _ _ _ _ (ok_code ok) d_Gr_isGrave_14 (by decide) h
    · replace h := h.2.2 c
      refine r_iconst ok 1 d_Gr_isGrave_9 rfl ?_
      refine r_goto ok 14 d_Gr_isGrave_10 (by decide) ?_
      exact hQ _ _ _ _ _ (ok_code ok) d_Gr_isGrave_14 (by decide) h
theorem L_Gr_isGrave (l : Launch) (G : GE) (A : Nat → Prop) (hD : ∀ σ, va_D A (GW G σ)) {x0 : Int} {s : SS} {Q : Int → SS → Prop} (h : Sp_Gr_isGrave x0 s Q) : Met l y_Gr_isGrave (Cond.code y_Gr_isGrave prog_3_method_2_code 1 (some .boolean) :: lw_ok) ({ frames := 0, cells := 0, slots := 0, locals := 0 } : Room) (va_Pc [vI x0] (gB G s)) (va_Qi (fun (r : Int32) (s2 : SS) => ∃ x : Int, r = iI x ∧ Q x s2) (fun s2 t => gB G s2 t) A) 0 0 A := by
  refine met_z hD (by decide) ⟨rfl, rfl⟩ (Nat.le_of_ble_eq_true rfl) (lv := [(0, vI x0)]) rfl (fun F h1 h2 h3 hm ok hQ => ?_)
  subst h1 h2 h3
  have hDF := hD
  exact K_Gr_isGrave_e hDF hm ok hQ h
theorem d_Bn_heapOf_0 : decode prog_2_method_2_code 0 = .ok (.iload_n 0, 1) := by decide +kernel
theorem d_Bn_heapOf_1 : decode prog_2_method_2_code 1 = .ok (.iconst 4, 1) := by decide +kernel
theorem d_Bn_heapOf_2 : decode prog_2_method_2_code 2 = .ok (.imul, 1) := by decide +kernel
theorem d_Bn_heapOf_3 : decode prog_2_method_2_code 3 = .ok (.iload_n 1, 1) := by decide +kernel
theorem d_Bn_heapOf_4 : decode prog_2_method_2_code 4 = .ok (.iadd, 1) := by decide +kernel
theorem d_Bn_heapOf_5 : decode prog_2_method_2_code 5 = .ok (.iconst 2, 1) := by decide +kernel
theorem d_Bn_heapOf_6 : decode prog_2_method_2_code 6 = .ok (.imul, 1) := by decide +kernel
theorem d_Bn_heapOf_7 : decode prog_2_method_2_code 7 = .ok (.iload_n 2, 1) := by decide +kernel
theorem d_Bn_heapOf_8 : decode prog_2_method_2_code 8 = .ok (.iadd, 1) := by decide +kernel
theorem d_Bn_heapOf_9 : decode prog_2_method_2_code 9 = .ok (.ireturn, 1) := by decide +kernel
set_option maxHeartbeats 4000000 in
set_option maxRecDepth 100000 in
theorem K_Bn_heapOf_e {F : FT} (hD : ∀ σ, va_D F.2.2.1 (GW F.2.1 σ)) (hm : F.2.2.2.2.2.2.2.2.2.2.2.2.2.2.1 = 3) (ok : OkF F prog_2_method_2_code "LastSeen$Bones" ({ frames := 0, cells := 0, slots := 0, locals := 0 } : Room)) {Q : Int → SS → Prop} (hQ : RetI F Q) {x0 x1 x2 : Int} {s : SS} (h : Sp_Bn_heapOf x0 x1 x2 s Q) : AtS F 0 [(0, vI x0), (1, vI x1), (2, vI x2)] [] s := by
  unfold Sp_Bn_heapOf at h
  refine r_iload_n ok 0 d_Bn_heapOf_0 rfl rfl ?_
  refine r_iconst ok 4 d_Bn_heapOf_1 rfl ?_
  refine r_imul ok d_Bn_heapOf_2 ?_
  refine r_iload_n ok 1 d_Bn_heapOf_3 rfl rfl ?_
  refine r_iadd ok d_Bn_heapOf_4 ?_
  refine r_iconst ok 2 d_Bn_heapOf_5 rfl ?_
  refine r_imul ok d_Bn_heapOf_6 ?_
  refine r_iload_n ok 2 d_Bn_heapOf_7 rfl rfl ?_
  refine r_iadd ok d_Bn_heapOf_8 ?_
  exact hQ _ _ _ _ _ (ok_code ok) d_Bn_heapOf_9 h
theorem L_Bn_heapOf (l : Launch) (G : GE) (A : Nat → Prop) (hD : ∀ σ, va_D A (GW G σ)) {x0 x1 x2 : Int} {s : SS} {Q : Int → SS → Prop} (h : Sp_Bn_heapOf x0 x1 x2 s Q) : Met l y_Bn_heapOf (Cond.code y_Bn_heapOf prog_2_method_2_code 3 (some .int) :: lw_ok) ({ frames := 0, cells := 0, slots := 0, locals := 0 } : Room) (va_Pc [vI x0, vI x1, vI x2] (gB G s)) (va_Qi (fun (r : Int32) (s2 : SS) => ∃ x : Int, r = iI x ∧ Q x s2) (fun s2 t => gB G s2 t) A) 0 0 A := by
  refine met_i hD (by decide) ⟨rfl, rfl⟩ (Nat.le_of_ble_eq_true rfl) (lv := [(0, vI x0), (1, vI x1), (2, vI x2)]) rfl (fun F h1 h2 h3 hm ok hQ => ?_)
  subst h1 h2 h3
  have hDF := hD
  exact K_Bn_heapOf_e hDF hm ok hQ h
theorem d_Bn_isFull_0 : decode prog_2_method_3_code 0 = .ok (.aload_n 0, 1) := by decide +kernel
theorem d_Bn_isFull_1 : decode prog_2_method_3_code 1 = .ok (.getfield 15, 3) := by decide +kernel
theorem d_Bn_isFull_4 : decode prog_2_method_3_code 4 = .ok (.iload_n 1, 1) := by decide +kernel
theorem d_Bn_isFull_5 : decode prog_2_method_3_code 5 = .ok (.iload_n 2, 1) := by decide +kernel
theorem d_Bn_isFull_6 : decode prog_2_method_3_code 6 = .ok (.iload_n 3, 1) := by decide +kernel
theorem d_Bn_isFull_7 : decode prog_2_method_3_code 7 = .ok (.invokestatic 22, 3) := by decide +kernel
theorem d_Bn_isFull_10 : decode prog_2_method_3_code 10 = .ok (.iaload, 1) := by decide +kernel
theorem d_Bn_isFull_11 : decode prog_2_method_3_code 11 = .ok (.bipush 12, 2) := by decide +kernel
theorem d_Bn_isFull_13 : decode prog_2_method_3_code 13 = .ok (.if_icmp .lt 7, 3) := by decide +kernel
theorem d_Bn_isFull_16 : decode prog_2_method_3_code 16 = .ok (.iconst 1, 1) := by decide +kernel
theorem d_Bn_isFull_17 : decode prog_2_method_3_code 17 = .ok (.goto 4, 3) := by decide +kernel
theorem d_Bn_isFull_20 : decode prog_2_method_3_code 20 = .ok (.iconst 0, 1) := by decide +kernel
theorem d_Bn_isFull_21 : decode prog_2_method_3_code 21 = .ok (.ireturn, 1) := by decide +kernel
set_option maxHeartbeats 4000000 in
set_option maxRecDepth 100000 in
theorem K_Bn_isFull_e {F : FT} (hD : ∀ σ, va_D F.2.2.1 (GW F.2.1 σ)) (hm : F.2.2.2.2.2.2.2.2.2.2.2.2.2.2.1 = 4) (ok : OkF F prog_2_method_3_code "LastSeen$Bones" ({ frames := 1, cells := 0, slots := 0, locals := 22 } : Room)) {Q : Int → SS → Prop} (hQ : RetZ F Q) {x1 x2 x3 : Int} {s : SS} (h : Sp_Bn_isFull x1 x2 x3 s Q) : AtS F 0 [(0, .ref (F.2.1.1 8)), (1, vI x1), (2, vI x2), (3, vI x3)] [] s := by
  unfold Sp_Bn_isFull at h
  refine r_aload_n ok 0 d_Bn_isFull_0 rfl rfl ?_
  refine g_Bn_counts ok d_Bn_isFull_1 ?_
  refine r_iload_n ok 1 d_Bn_isFull_4 rfl rfl ?_
  refine r_iload_n ok 2 d_Bn_isFull_5 rfl rfl ?_
  refine r_iload_n ok 3 d_Bn_isFull_6 rfl rfl ?_
  refine r_callSi (As := [vI x1, vI x2, vI x3]) (rest := [.ref (F.2.1.1 55)]) ok wl_Bn_22 wt_y_Bn_heapOf wn_Bn wc_y_Bn_heapOf (by decide) (by decide) hh_Bn_heapOf (Nat.le_of_ble_eq_true rfl) rfl d_Bn_isFull_7 (L_Bn_heapOf F.1 F.2.1 F.2.2.1 hD h) (fun r2 s1 h => ?_)
  refine r_iald ok 44 d_Bn_isFull_10 (by decide) rfl h.1 ?_
  replace h := h.2
  refine r_bipush ok 12 d_Bn_isFull_11 (by decide) ?_
  refine r_icmp_lt ok 20 d_Bn_isFull_13 (by decide) h.1 (by decide) (fun c => ?_) (fun c => ?_)
  · replace h := h.2.1 c
    refine r_iconst ok 0 d_Bn_isFull_20 rfl ?_
    exact hQ _ _ _ _ _ (ok_code ok) d_Bn_isFull_21 (by decide) h
  · replace h := h.2.2 c
    refine r_iconst ok 1 d_Bn_isFull_16 rfl ?_
    refine r_goto ok 21 d_Bn_isFull_17 (by decide) ?_
    exact hQ _ _ _ _ _ (ok_code ok) d_Bn_isFull_21 (by decide) h
theorem L_Bn_isFull (l : Launch) (G : GE) (A : Nat → Prop) (hD : ∀ σ, va_D A (GW G σ)) {x1 x2 x3 : Int} {s : SS} {Q : Int → SS → Prop} (h : Sp_Bn_isFull x1 x2 x3 s Q) : Met l y_Bn_isFull (Cond.code y_Bn_isFull prog_2_method_3_code 4 (some .boolean) :: lw_ok) ({ frames := 1, cells := 0, slots := 0, locals := 22 } : Room) (va_Pc [.ref (G.1 8), vI x1, vI x2, vI x3] (gB G s)) (va_Qi (fun (r : Int32) (s2 : SS) => ∃ x : Int, r = iI x ∧ Q x s2) (fun s2 t => gB G s2 t) A) 0 0 A := by
  refine met_z hD (by decide) ⟨rfl, rfl⟩ (Nat.le_of_ble_eq_true rfl) (lv := [(0, .ref (G.1 8)), (1, vI x1), (2, vI x2), (3, vI x3)]) rfl (fun F h1 h2 h3 hm ok hQ => ?_)
  subst h1 h2 h3
  have hDF := hD
  exact K_Bn_isFull_e hDF hm ok hQ h
theorem d_Bn_lay_0 : decode prog_2_method_4_code 0 = .ok (.iload_n 1, 1) := by decide +kernel
theorem d_Bn_lay_1 : decode prog_2_method_4_code 1 = .ok (.iload_n 2, 1) := by decide +kernel
theorem d_Bn_lay_2 : decode prog_2_method_4_code 2 = .ok (.iload_n 3, 1) := by decide +kernel
theorem d_Bn_lay_3 : decode prog_2_method_4_code 3 = .ok (.invokestatic 22, 3) := by decide +kernel
theorem d_Bn_lay_6 : decode prog_2_method_4_code 6 = .ok (.istore 5, 2) := by decide +kernel
theorem d_Bn_lay_8 : decode prog_2_method_4_code 8 = .ok (.aload_n 0, 1) := by decide +kernel
theorem d_Bn_lay_9 : decode prog_2_method_4_code 9 = .ok (.getfield 15, 3) := by decide +kernel
theorem d_Bn_lay_12 : decode prog_2_method_4_code 12 = .ok (.iload 5, 2) := by decide +kernel
theorem d_Bn_lay_14 : decode prog_2_method_4_code 14 = .ok (.iaload, 1) := by decide +kernel
theorem d_Bn_lay_15 : decode prog_2_method_4_code 15 = .ok (.istore 6, 2) := by decide +kernel
theorem d_Bn_lay_17 : decode prog_2_method_4_code 17 = .ok (.iload 6, 2) := by decide +kernel
theorem d_Bn_lay_19 : decode prog_2_method_4_code 19 = .ok (.ifCond .le 57, 3) := by decide +kernel
theorem d_Bn_lay_22 : decode prog_2_method_4_code 22 = .ok (.aload_n 0, 1) := by decide +kernel
theorem d_Bn_lay_23 : decode prog_2_method_4_code 23 = .ok (.getfield 11, 3) := by decide +kernel
theorem d_Bn_lay_26 : decode prog_2_method_4_code 26 = .ok (.iload 5, 2) := by decide +kernel
theorem d_Bn_lay_28 : decode prog_2_method_4_code 28 = .ok (.bipush 12, 2) := by decide +kernel
theorem d_Bn_lay_30 : decode prog_2_method_4_code 30 = .ok (.imul, 1) := by decide +kernel
theorem d_Bn_lay_31 : decode prog_2_method_4_code 31 = .ok (.iload 6, 2) := by decide +kernel
theorem d_Bn_lay_33 : decode prog_2_method_4_code 33 = .ok (.iadd, 1) := by decide +kernel
theorem d_Bn_lay_34 : decode prog_2_method_4_code 34 = .ok (.iconst 1, 1) := by decide +kernel
theorem d_Bn_lay_35 : decode prog_2_method_4_code 35 = .ok (.isub, 1) := by decide +kernel
theorem d_Bn_lay_36 : decode prog_2_method_4_code 36 = .ok (.iaload, 1) := by decide +kernel
theorem d_Bn_lay_37 : decode prog_2_method_4_code 37 = .ok (.iload 4, 2) := by decide +kernel
theorem d_Bn_lay_39 : decode prog_2_method_4_code 39 = .ok (.if_icmp .le 37, 3) := by decide +kernel
theorem d_Bn_lay_42 : decode prog_2_method_4_code 42 = .ok (.aload_n 0, 1) := by decide +kernel
theorem d_Bn_lay_43 : decode prog_2_method_4_code 43 = .ok (.getfield 11, 3) := by decide +kernel
theorem d_Bn_lay_46 : decode prog_2_method_4_code 46 = .ok (.iload 5, 2) := by decide +kernel
theorem d_Bn_lay_48 : decode prog_2_method_4_code 48 = .ok (.bipush 12, 2) := by decide +kernel
theorem d_Bn_lay_50 : decode prog_2_method_4_code 50 = .ok (.imul, 1) := by decide +kernel
theorem d_Bn_lay_51 : decode prog_2_method_4_code 51 = .ok (.iload 6, 2) := by decide +kernel
theorem d_Bn_lay_53 : decode prog_2_method_4_code 53 = .ok (.iadd, 1) := by decide +kernel
theorem d_Bn_lay_54 : decode prog_2_method_4_code 54 = .ok (.aload_n 0, 1) := by decide +kernel
theorem d_Bn_lay_55 : decode prog_2_method_4_code 55 = .ok (.getfield 11, 3) := by decide +kernel
theorem d_Bn_lay_58 : decode prog_2_method_4_code 58 = .ok (.iload 5, 2) := by decide +kernel
theorem d_Bn_lay_60 : decode prog_2_method_4_code 60 = .ok (.bipush 12, 2) := by decide +kernel
theorem d_Bn_lay_62 : decode prog_2_method_4_code 62 = .ok (.imul, 1) := by decide +kernel
theorem d_Bn_lay_63 : decode prog_2_method_4_code 63 = .ok (.iload 6, 2) := by decide +kernel
theorem d_Bn_lay_65 : decode prog_2_method_4_code 65 = .ok (.iadd, 1) := by decide +kernel
theorem d_Bn_lay_66 : decode prog_2_method_4_code 66 = .ok (.iconst 1, 1) := by decide +kernel
theorem d_Bn_lay_67 : decode prog_2_method_4_code 67 = .ok (.isub, 1) := by decide +kernel
theorem d_Bn_lay_68 : decode prog_2_method_4_code 68 = .ok (.iaload, 1) := by decide +kernel
theorem d_Bn_lay_69 : decode prog_2_method_4_code 69 = .ok (.iastore, 1) := by decide +kernel
theorem d_Bn_lay_70 : decode prog_2_method_4_code 70 = .ok (.iinc 6 (-1), 3) := by decide +kernel
theorem d_Bn_lay_73 : decode prog_2_method_4_code 73 = .ok (.goto (-56), 3) := by decide +kernel
theorem d_Bn_lay_76 : decode prog_2_method_4_code 76 = .ok (.aload_n 0, 1) := by decide +kernel
theorem d_Bn_lay_77 : decode prog_2_method_4_code 77 = .ok (.getfield 11, 3) := by decide +kernel
theorem d_Bn_lay_80 : decode prog_2_method_4_code 80 = .ok (.iload 5, 2) := by decide +kernel
theorem d_Bn_lay_82 : decode prog_2_method_4_code 82 = .ok (.bipush 12, 2) := by decide +kernel
theorem d_Bn_lay_84 : decode prog_2_method_4_code 84 = .ok (.imul, 1) := by decide +kernel
theorem d_Bn_lay_85 : decode prog_2_method_4_code 85 = .ok (.iload 6, 2) := by decide +kernel
theorem d_Bn_lay_87 : decode prog_2_method_4_code 87 = .ok (.iadd, 1) := by decide +kernel
theorem d_Bn_lay_88 : decode prog_2_method_4_code 88 = .ok (.iload 4, 2) := by decide +kernel
theorem d_Bn_lay_90 : decode prog_2_method_4_code 90 = .ok (.iastore, 1) := by decide +kernel
theorem d_Bn_lay_91 : decode prog_2_method_4_code 91 = .ok (.aload_n 0, 1) := by decide +kernel
theorem d_Bn_lay_92 : decode prog_2_method_4_code 92 = .ok (.getfield 15, 3) := by decide +kernel
theorem d_Bn_lay_95 : decode prog_2_method_4_code 95 = .ok (.iload 5, 2) := by decide +kernel
theorem d_Bn_lay_97 : decode prog_2_method_4_code 97 = .ok (.dup2, 1) := by decide +kernel
theorem d_Bn_lay_98 : decode prog_2_method_4_code 98 = .ok (.iaload, 1) := by decide +kernel
theorem d_Bn_lay_99 : decode prog_2_method_4_code 99 = .ok (.iconst 1, 1) := by decide +kernel
theorem d_Bn_lay_100 : decode prog_2_method_4_code 100 = .ok (.iadd, 1) := by decide +kernel
theorem d_Bn_lay_101 : decode prog_2_method_4_code 101 = .ok (.iastore, 1) := by decide +kernel
theorem d_Bn_lay_102 : decode prog_2_method_4_code 102 = .ok (.aload_n 0, 1) := by decide +kernel
theorem d_Bn_lay_103 : decode prog_2_method_4_code 103 = .ok (.getfield 15, 3) := by decide +kernel
theorem d_Bn_lay_106 : decode prog_2_method_4_code 106 = .ok (.iload 5, 2) := by decide +kernel
theorem d_Bn_lay_108 : decode prog_2_method_4_code 108 = .ok (.iaload, 1) := by decide +kernel
theorem d_Bn_lay_109 : decode prog_2_method_4_code 109 = .ok (.ireturn, 1) := by decide +kernel
set_option maxHeartbeats 4000000 in
set_option maxRecDepth 100000 in
theorem K_Bn_lay_17 {F : FT} (hD : ∀ σ, va_D F.2.2.1 (GW F.2.1 σ)) (hm : F.2.2.2.2.2.2.2.2.2.2.2.2.2.2.1 = 7) (ok : OkF F prog_2_method_4_code "LastSeen$Bones" ({ frames := 1, cells := 0, slots := 0, locals := 22 } : Room)) {Q : Int → SS → Prop} (hQ : RetI F Q) {x4 x5 x6 : Int} {s : SS} (h : B_Bn_lay_17 Q (fun x4 x5 x6 s => AtS F 17 [(0, .ref (F.2.1.1 8)), (4, vI x4), (5, vI x5), (6, vI x6)] [] s) (fun x4 x5 x6 s => AtS F 76 [(0, .ref (F.2.1.1 8)), (4, vI x4), (5, vI x5), (6, vI x6)] [] s) x4 x5 x6 s) : AtS F 17 [(0, .ref (F.2.1.1 8)), (4, vI x4), (5, vI x5), (6, vI x6)] [] s := by
  unfold B_Bn_lay_17 at h
  refine r_iload ok 3 d_Bn_lay_17 rfl ?_
  refine r_if_le ok 76 d_Bn_lay_19 (by decide) h.1 (fun c => ?_) (fun c => ?_)
  · replace h := h.2.1 c
    exact r_sub [0, 1, 2, 3] rfl h
  · replace h := h.2.2 c
    refine r_aload_n ok 0 d_Bn_lay_22 rfl rfl ?_
    refine g_Bn_sizes ok d_Bn_lay_23 ?_
    refine r_iload ok 2 d_Bn_lay_26 rfl ?_
    refine r_bipush ok 12 d_Bn_lay_28 (by decide) ?_
    refine r_imul ok d_Bn_lay_30 ?_
    refine r_iload ok 3 d_Bn_lay_31 rfl ?_
    refine r_iadd ok d_Bn_lay_33 ?_
    refine r_iconst ok 1 d_Bn_lay_34 rfl ?_
    refine r_isub ok d_Bn_lay_35 ?_
    refine r_iald ok 43 d_Bn_lay_36 (by decide) rfl h.1 ?_
    replace h := h.2
    refine r_iload ok 1 d_Bn_lay_37 rfl ?_
    refine r_icmp_le ok 76 d_Bn_lay_39 (by decide) h.1 h.2.1 (fun c => ?_) (fun c => ?_)
    · replace h := h.2.2.1 c
      exact r_sub [0, 1, 2, 3] rfl h
    · replace h := h.2.2.2 c
      refine r_aload_n ok 0 d_Bn_lay_42 rfl rfl ?_
      refine g_Bn_sizes ok d_Bn_lay_43 ?_
      refine r_iload ok 2 d_Bn_lay_46 rfl ?_
      refine r_bipush ok 12 d_Bn_lay_48 (by decide) ?_
      refine r_imul ok d_Bn_lay_50 ?_
      refine r_iload ok 3 d_Bn_lay_51 rfl ?_
      refine r_iadd ok d_Bn_lay_53 ?_
      refine r_aload_n ok 0 d_Bn_lay_54 rfl rfl ?_
      refine g_Bn_sizes ok d_Bn_lay_55 ?_
      refine r_iload ok 2 d_Bn_lay_58 rfl ?_
      refine r_bipush ok 12 d_Bn_lay_60 (by decide) ?_
      refine r_imul ok d_Bn_lay_62 ?_
      refine r_iload ok 3 d_Bn_lay_63 rfl ?_
      refine r_iadd ok d_Bn_lay_65 ?_
      refine r_iconst ok 1 d_Bn_lay_66 rfl ?_
      refine r_isub ok d_Bn_lay_67 ?_
      refine r_iald ok 43 d_Bn_lay_68 (by decide) rfl h.1 ?_
      replace h := h.2
      refine r_iast ok 43 d_Bn_lay_69 (by decide) rfl h.1 ?_
      replace h := h.2 _ rfl
      generalize sA s 43 ((x5 * 12) + x6) (s.2 43 (((x5 * 12) + x6) - 1)) = s3 at h ⊢
      refine r_iinc ok 3 (x6 + (-1)) [(6, vI (x6 + (-1))), (0, .ref (F.2.1.1 8)), (4, vI x4), (5, vI x5)] d_Bn_lay_70 rfl rfl hm (by decide) rfl ?_
      refine r_goto ok 17 d_Bn_lay_73 (by decide) ?_
      exact r_sub [1, 2, 3, 0] rfl h
set_option maxHeartbeats 4000000 in
set_option maxRecDepth 100000 in
theorem K_Bn_lay_76 {F : FT} (hD : ∀ σ, va_D F.2.2.1 (GW F.2.1 σ)) (hm : F.2.2.2.2.2.2.2.2.2.2.2.2.2.2.1 = 7) (ok : OkF F prog_2_method_4_code "LastSeen$Bones" ({ frames := 1, cells := 0, slots := 0, locals := 22 } : Room)) {Q : Int → SS → Prop} (hQ : RetI F Q) {x4 x5 x6 : Int} {s : SS} (h : B_Bn_lay_76 Q (fun x4 x5 x6 s => AtS F 17 [(0, .ref (F.2.1.1 8)), (4, vI x4), (5, vI x5), (6, vI x6)] [] s) (fun x4 x5 x6 s => AtS F 76 [(0, .ref (F.2.1.1 8)), (4, vI x4), (5, vI x5), (6, vI x6)] [] s) x4 x5 x6 s) : AtS F 76 [(0, .ref (F.2.1.1 8)), (4, vI x4), (5, vI x5), (6, vI x6)] [] s := by
  unfold B_Bn_lay_76 at h
  refine r_aload_n ok 0 d_Bn_lay_76 rfl rfl ?_
  refine g_Bn_sizes ok d_Bn_lay_77 ?_
  refine r_iload ok 2 d_Bn_lay_80 rfl ?_
  refine r_bipush ok 12 d_Bn_lay_82 (by decide) ?_
  refine r_imul ok d_Bn_lay_84 ?_
  refine r_iload ok 3 d_Bn_lay_85 rfl ?_
  refine r_iadd ok d_Bn_lay_87 ?_
  refine r_iload ok 1 d_Bn_lay_88 rfl ?_
  refine r_iast ok 43 d_Bn_lay_90 (by decide) rfl h.1 ?_
  replace h := h.2 _ rfl
  generalize sA s 43 ((x5 * 12) + x6) x4 = s4 at h ⊢
  refine r_aload_n ok 0 d_Bn_lay_91 rfl rfl ?_
  refine g_Bn_counts ok d_Bn_lay_92 ?_
  refine r_iload ok 2 d_Bn_lay_95 rfl ?_
  refine r_dup2 ok d_Bn_lay_97 rfl rfl ?_
  refine r_iald ok 44 d_Bn_lay_98 (by decide) rfl h.1 ?_
  replace h := h.2
  refine r_iconst ok 1 d_Bn_lay_99 rfl ?_
  refine r_iadd ok d_Bn_lay_100 ?_
  refine r_iast ok 44 d_Bn_lay_101 (by decide) rfl h.1 ?_
  replace h := h.2 _ rfl
  generalize sA s4 44 x5 ((s4.2 44 x5) + 1) = s5 at h ⊢
  refine r_aload_n ok 0 d_Bn_lay_102 rfl rfl ?_
  refine g_Bn_counts ok d_Bn_lay_103 ?_
  refine r_iload ok 2 d_Bn_lay_106 rfl ?_
  refine r_iald ok 44 d_Bn_lay_108 (by decide) rfl h.1 ?_
  replace h := h.2
  exact hQ _ _ _ _ _ (ok_code ok) d_Bn_lay_109 h
set_option maxHeartbeats 4000000 in
set_option maxRecDepth 100000 in
theorem K_Bn_lay_e {F : FT} (hD : ∀ σ, va_D F.2.2.1 (GW F.2.1 σ)) (hm : F.2.2.2.2.2.2.2.2.2.2.2.2.2.2.1 = 7) (ok : OkF F prog_2_method_4_code "LastSeen$Bones" ({ frames := 1, cells := 0, slots := 0, locals := 22 } : Room)) {Q : Int → SS → Prop} (hQ : RetI F Q) {x1 x2 x3 x4 : Int} {s : SS} (h : B_Bn_lay_e Q (fun x4 x5 x6 s => AtS F 17 [(0, .ref (F.2.1.1 8)), (4, vI x4), (5, vI x5), (6, vI x6)] [] s) (fun x4 x5 x6 s => AtS F 76 [(0, .ref (F.2.1.1 8)), (4, vI x4), (5, vI x5), (6, vI x6)] [] s) x1 x2 x3 x4 s) : AtS F 0 [(0, .ref (F.2.1.1 8)), (1, vI x1), (2, vI x2), (3, vI x3), (4, vI x4)] [] s := by
  unfold B_Bn_lay_e at h
  refine r_iload_n ok 1 d_Bn_lay_0 rfl rfl ?_
  refine r_iload_n ok 2 d_Bn_lay_1 rfl rfl ?_
  refine r_iload_n ok 3 d_Bn_lay_2 rfl rfl ?_
  refine r_callSi (As := [vI x1, vI x2, vI x3]) (rest := []) ok wl_Bn_22 wt_y_Bn_heapOf wn_Bn wc_y_Bn_heapOf (by decide) (by decide) hh_Bn_heapOf (Nat.le_of_ble_eq_true rfl) rfl d_Bn_lay_3 (L_Bn_heapOf F.1 F.2.1 F.2.2.1 hD h) (fun r2 s1 h => ?_)
  refine r_istore ok [(5, vI r2), (0, .ref (F.2.1.1 8)), (1, vI x1), (2, vI x2), (3, vI x3), (4, vI x4)] d_Bn_lay_6 hm (by decide) rfl ?_
  refine r_aload_n ok 1 d_Bn_lay_8 rfl rfl ?_
  refine g_Bn_counts ok d_Bn_lay_9 ?_
  refine r_iload ok 0 d_Bn_lay_12 rfl ?_
  refine r_iald ok 44 d_Bn_lay_14 (by decide) rfl h.1 ?_
  replace h := h.2
  refine r_istore ok [(6, vI (s1.2 44 r2)), (5, vI r2), (0, .ref (F.2.1.1 8)), (1, vI x1), (2, vI x2), (3, vI x3), (4, vI x4)] d_Bn_lay_15 hm (by decide) rfl ?_
  exact r_sub [2, 6, 1, 0] rfl h
theorem L_Bn_lay (l : Launch) (G : GE) (A : Nat → Prop) (hD : ∀ σ, va_D A (GW G σ)) {x1 x2 x3 x4 : Int} {s : SS} {Q : Int → SS → Prop} (h : Sp_Bn_lay x1 x2 x3 x4 s Q) : Met l y_Bn_lay (Cond.code y_Bn_lay prog_2_method_4_code 7 (some .int) :: lw_ok) ({ frames := 1, cells := 0, slots := 0, locals := 22 } : Room) (va_Pc [.ref (G.1 8), vI x1, vI x2, vI x3, vI x4] (gB G s)) (va_Qi (fun (r : Int32) (s2 : SS) => ∃ x : Int, r = iI x ∧ Q x s2) (fun s2 t => gB G s2 t) A) 0 0 A := by
  refine met_i hD (by decide) ⟨rfl, rfl⟩ (Nat.le_of_ble_eq_true rfl) (lv := [(0, .ref (G.1 8)), (1, vI x1), (2, vI x2), (3, vI x3), (4, vI x4)]) rfl (fun F h1 h2 h3 hm ok hQ => ?_)
  subst h1 h2 h3
  have hDF := hD
  exact K_Bn_lay_e hDF hm ok hQ (h _ _ (fun _ _ _ _ hb => K_Bn_lay_17 hDF hm ok hQ hb) (fun _ _ _ _ hb => K_Bn_lay_76 hDF hm ok hQ hb))
theorem d_LS_bone_0 : decode prog_1_method_25_code 0 = .ok (.iload_n 1, 1) := by decide +kernel
theorem d_LS_bone_1 : decode prog_1_method_25_code 1 = .ok (.invokestatic 285, 3) := by decide +kernel
theorem d_LS_bone_4 : decode prog_1_method_25_code 4 = .ok (.ifCond .ne 5, 3) := by decide +kernel
theorem d_LS_bone_7 : decode prog_1_method_25_code 7 = .ok (.iconst (-1), 1) := by decide +kernel
theorem d_LS_bone_8 : decode prog_1_method_25_code 8 = .ok (.ireturn, 1) := by decide +kernel
theorem d_LS_bone_9 : decode prog_1_method_25_code 9 = .ok (.iload_n 2, 1) := by decide +kernel
theorem d_LS_bone_10 : decode prog_1_method_25_code 10 = .ok (.ifCond .lt 29, 3) := by decide +kernel
theorem d_LS_bone_13 : decode prog_1_method_25_code 13 = .ok (.iload_n 2, 1) := by decide +kernel
theorem d_LS_bone_14 : decode prog_1_method_25_code 14 = .ok (.iconst 4, 1) := by decide +kernel
theorem d_LS_bone_15 : decode prog_1_method_25_code 15 = .ok (.if_icmp .ge 24, 3) := by decide +kernel
theorem d_LS_bone_18 : decode prog_1_method_25_code 18 = .ok (.iload_n 3, 1) := by decide +kernel
theorem d_LS_bone_19 : decode prog_1_method_25_code 19 = .ok (.ifCond .lt 20, 3) := by decide +kernel
theorem d_LS_bone_22 : decode prog_1_method_25_code 22 = .ok (.iload_n 3, 1) := by decide +kernel
theorem d_LS_bone_23 : decode prog_1_method_25_code 23 = .ok (.iconst 1, 1) := by decide +kernel
theorem d_LS_bone_24 : decode prog_1_method_25_code 24 = .ok (.if_icmp .gt 15, 3) := by decide +kernel
theorem d_LS_bone_27 : decode prog_1_method_25_code 27 = .ok (.iload 4, 2) := by decide +kernel
theorem d_LS_bone_29 : decode prog_1_method_25_code 29 = .ok (.ifCond .lt 10, 3) := by decide +kernel
theorem d_LS_bone_32 : decode prog_1_method_25_code 32 = .ok (.iload 4, 2) := by decide +kernel
theorem d_LS_bone_34 : decode prog_1_method_25_code 34 = .ok (.bipush 99, 2) := by decide +kernel
theorem d_LS_bone_36 : decode prog_1_method_25_code 36 = .ok (.if_icmp .le 6, 3) := by decide +kernel
theorem d_LS_bone_39 : decode prog_1_method_25_code 39 = .ok (.bipush (-2), 2) := by decide +kernel
theorem d_LS_bone_41 : decode prog_1_method_25_code 41 = .ok (.ireturn, 1) := by decide +kernel
theorem d_LS_bone_42 : decode prog_1_method_25_code 42 = .ok (.aload_n 0, 1) := by decide +kernel
theorem d_LS_bone_43 : decode prog_1_method_25_code 43 = .ok (.getfield 61, 3) := by decide +kernel
theorem d_LS_bone_46 : decode prog_1_method_25_code 46 = .ok (.iload_n 1, 1) := by decide +kernel
theorem d_LS_bone_47 : decode prog_1_method_25_code 47 = .ok (.iload_n 2, 1) := by decide +kernel
theorem d_LS_bone_48 : decode prog_1_method_25_code 48 = .ok (.iload_n 3, 1) := by decide +kernel
theorem d_LS_bone_49 : decode prog_1_method_25_code 49 = .ok (.invokevirtual 288, 3) := by decide +kernel
theorem d_LS_bone_52 : decode prog_1_method_25_code 52 = .ok (.ifCond .eq 6, 3) := by decide +kernel
theorem d_LS_bone_55 : decode prog_1_method_25_code 55 = .ok (.bipush (-4), 2) := by decide +kernel
theorem d_LS_bone_57 : decode prog_1_method_25_code 57 = .ok (.ireturn, 1) := by decide +kernel
theorem d_LS_bone_58 : decode prog_1_method_25_code 58 = .ok (.aload_n 0, 1) := by decide +kernel
theorem d_LS_bone_59 : decode prog_1_method_25_code 59 = .ok (.getfield 61, 3) := by decide +kernel
theorem d_LS_bone_62 : decode prog_1_method_25_code 62 = .ok (.iload_n 1, 1) := by decide +kernel
theorem d_LS_bone_63 : decode prog_1_method_25_code 63 = .ok (.iload_n 2, 1) := by decide +kernel
theorem d_LS_bone_64 : decode prog_1_method_25_code 64 = .ok (.iload_n 3, 1) := by decide +kernel
theorem d_LS_bone_65 : decode prog_1_method_25_code 65 = .ok (.iload 4, 2) := by decide +kernel
theorem d_LS_bone_67 : decode prog_1_method_25_code 67 = .ok (.invokevirtual 291, 3) := by decide +kernel
theorem d_LS_bone_70 : decode prog_1_method_25_code 70 = .ok (.ireturn, 1) := by decide +kernel
set_option maxHeartbeats 4000000 in
set_option maxRecDepth 100000 in
theorem K_LS_bone_e {F : FT} (hD : ∀ σ, va_D F.2.2.1 (GW F.2.1 σ)) (hm : F.2.2.2.2.2.2.2.2.2.2.2.2.2.2.1 = 5) (ok : OkF F prog_1_method_25_code "LastSeen" ({ frames := 2, cells := 0, slots := 0, locals := 48 } : Room)) {Q : Int → SS → Prop} (hQ : RetI F Q) {x1 x2 x3 x4 : Int} {s : SS} (h : Sp_LS_bone x1 x2 x3 x4 s Q) : AtS F 0 [(0, .ref (F.2.1.1 0)), (1, vI x1), (2, vI x2), (3, vI x3), (4, vI x4)] [] s := by
  unfold Sp_LS_bone at h
  refine r_iload_n ok 1 d_LS_bone_0 rfl rfl ?_
  refine r_callSi (As := [vI x1]) (rest := []) ok wl_LS_285 wt_y_Gr_isGrave wn_Gr wc_y_Gr_isGrave (by decide) (by decide) hh_Gr_isGrave (Nat.le_of_ble_eq_true rfl) rfl d_LS_bone_1 (L_Gr_isGrave F.1 F.2.1 F.2.2.1 hD h) (fun r2 s1 h => ?_)
  refine r_if_ne ok 9 d_LS_bone_4 (by decide) h.1 (fun c => ?_) (fun c => ?_)
  · replace h := h.2.1 c
    refine r_iload_n ok 2 d_LS_bone_9 rfl rfl ?_
    refine r_if_lt ok 39 d_LS_bone_10 (by decide) h.1 (fun c => ?_) (fun c => ?_)
    · replace h := h.2.1 c
      refine r_bipush ok (-2) d_LS_bone_39 (by decide) ?_
      exact hQ _ _ _ _ _ (ok_code ok) d_LS_bone_41 h
    · replace h := h.2.2 c
      refine r_iload_n ok 2 d_LS_bone_13 rfl rfl ?_
      refine r_iconst ok 4 d_LS_bone_14 rfl ?_
      refine r_icmp_ge ok 39 d_LS_bone_15 (by decide) h.1 (by decide) (fun c => ?_) (fun c => ?_)
      · replace h := h.2.1 c
        refine r_bipush ok (-2) d_LS_bone_39 (by decide) ?_
        exact hQ _ _ _ _ _ (ok_code ok) d_LS_bone_41 h
      · replace h := h.2.2 c
        refine r_iload_n ok 3 d_LS_bone_18 rfl rfl ?_
        refine r_if_lt ok 39 d_LS_bone_19 (by decide) h.1 (fun c => ?_) (fun c => ?_)
        · replace h := h.2.1 c
          refine r_bipush ok (-2) d_LS_bone_39 (by decide) ?_
          exact hQ _ _ _ _ _ (ok_code ok) d_LS_bone_41 h
        · replace h := h.2.2 c
          refine r_iload_n ok 3 d_LS_bone_22 rfl rfl ?_
          refine r_iconst ok 1 d_LS_bone_23 rfl ?_
          refine r_icmp_gt ok 39 d_LS_bone_24 (by decide) h.1 (by decide) (fun c => ?_) (fun c => ?_)
          · replace h := h.2.1 c
            refine r_bipush ok (-2) d_LS_bone_39 (by decide) ?_
            exact hQ _ _ _ _ _ (ok_code ok) d_LS_bone_41 h
          · replace h := h.2.2 c
            refine r_iload ok 4 d_LS_bone_27 rfl ?_
            refine r_if_lt ok 39 d_LS_bone_29 (by decide) h.1 (fun c => ?_) (fun c => ?_)
            · replace h := h.2.1 c
              refine r_bipush ok (-2) d_LS_bone_39 (by decide) ?_
              exact hQ _ _ _ _ _ (ok_code ok) d_LS_bone_41 h
            · replace h := h.2.2 c
              refine r_iload ok 4 d_LS_bone_32 rfl ?_
              refine r_bipush ok 99 d_LS_bone_34 (by decide) ?_
              refine r_icmp_le ok 42 d_LS_bone_36 (by decide) h.1 (by decide) (fun c => ?_) (fun c => ?_)
              · replace h := h.2.1 c
                refine r_aload_n ok 0 d_LS_bone_42 rfl rfl ?_
                refine g_LS_bones ok d_LS_bone_43 ?_
                refine r_iload_n ok 1 d_LS_bone_46 rfl rfl ?_
                refine r_iload_n ok 2 d_LS_bone_47 rfl rfl ?_
                refine r_iload_n ok 3 d_LS_bone_48 rfl rfl ?_
                refine r_callVi (As := [vI x1, vI x2, vI x3]) (rest := []) ok 8 rfl rfl rfl wl_LS_288 wi_y_Bn_isFull ws_y_Bn_isFull wn_Bn wc_y_Bn_isFull (by decide) (by decide) hh_Bn_isFull (Nat.le_of_ble_eq_true rfl) rfl d_LS_bone_49 (L_Bn_isFull F.1 F.2.1 F.2.2.1 hD h) (fun r4 s3 h => ?_)
                refine r_if_eq ok 58 d_LS_bone_52 (by decide) h.1 (fun c => ?_) (fun c => ?_)
                · replace h := h.2.1 c
                  refine r_aload_n ok 0 d_LS_bone_58 rfl rfl ?_
                  refine g_LS_bones ok d_LS_bone_59 ?_
                  refine r_iload_n ok 1 d_LS_bone_62 rfl rfl ?_
                  refine r_iload_n ok 2 d_LS_bone_63 rfl rfl ?_
                  refine r_iload_n ok 3 d_LS_bone_64 rfl rfl ?_
                  refine r_iload ok 4 d_LS_bone_65 rfl ?_
                  refine r_callVi (As := [vI x1, vI x2, vI x3, vI x4]) (rest := []) ok 8 rfl rfl rfl wl_LS_291 wi_y_Bn_lay ws_y_Bn_lay wn_Bn wc_y_Bn_lay (by decide) (by decide) hh_Bn_lay (Nat.le_of_ble_eq_true rfl) rfl d_LS_bone_67 (L_Bn_lay F.1 F.2.1 F.2.2.1 hD h) (fun r6 s5 h => ?_)
                  exact hQ _ _ _ _ _ (ok_code ok) d_LS_bone_70 h
                · replace h := h.2.2 c
                  refine r_bipush ok (-4) d_LS_bone_55 (by decide) ?_
                  exact hQ _ _ _ _ _ (ok_code ok) d_LS_bone_57 h
              · replace h := h.2.2 c
                refine r_bipush ok (-2) d_LS_bone_39 (by decide) ?_
                exact hQ _ _ _ _ _ (ok_code ok) d_LS_bone_41 h
  · replace h := h.2.2 c
    refine r_iconst ok (-1) d_LS_bone_7 rfl ?_
    exact hQ _ _ _ _ _ (ok_code ok) d_LS_bone_8 h
theorem L_LS_bone (l : Launch) (G : GE) (A : Nat → Prop) (hD : ∀ σ, va_D A (GW G σ)) {x1 x2 x3 x4 : Int} {s : SS} {Q : Int → SS → Prop} (h : Sp_LS_bone x1 x2 x3 x4 s Q) : Met l y_LS_bone (Cond.code y_LS_bone prog_1_method_25_code 5 (some .int) :: lw_ok) ({ frames := 2, cells := 0, slots := 0, locals := 48 } : Room) (va_Pc [.ref (G.1 0), vI x1, vI x2, vI x3, vI x4] (gB G s)) (va_Qi (fun (r : Int32) (s2 : SS) => ∃ x : Int, r = iI x ∧ Q x s2) (fun s2 t => gB G s2 t) A) 0 0 A := by
  refine met_i hD (by decide) ⟨rfl, rfl⟩ (Nat.le_of_ble_eq_true rfl) (lv := [(0, .ref (G.1 0)), (1, vI x1), (2, vI x2), (3, vI x3), (4, vI x4)]) rfl (fun F h1 h2 h3 hm ok hQ => ?_)
  subst h1 h2 h3
  have hDF := hD
  exact K_LS_bone_e hDF hm ok hQ h
theorem d_Bn_changeBound_0 : decode prog_2_method_5_code 0 = .ok (.aload_n 0, 1) := by decide +kernel
theorem d_Bn_changeBound_1 : decode prog_2_method_5_code 1 = .ok (.getfield 18, 3) := by decide +kernel
theorem d_Bn_changeBound_4 : decode prog_2_method_5_code 4 = .ok (.istore_n 2, 1) := by decide +kernel
theorem d_Bn_changeBound_5 : decode prog_2_method_5_code 5 = .ok (.aload_n 0, 1) := by decide +kernel
theorem d_Bn_changeBound_6 : decode prog_2_method_5_code 6 = .ok (.iload_n 1, 1) := by decide +kernel
theorem d_Bn_changeBound_7 : decode prog_2_method_5_code 7 = .ok (.putfield 18, 3) := by decide +kernel
theorem d_Bn_changeBound_10 : decode prog_2_method_5_code 10 = .ok (.iload_n 2, 1) := by decide +kernel
theorem d_Bn_changeBound_11 : decode prog_2_method_5_code 11 = .ok (.ireturn, 1) := by decide +kernel
set_option maxHeartbeats 4000000 in
set_option maxRecDepth 100000 in
theorem K_Bn_changeBound_e {F : FT} (hD : ∀ σ, va_D F.2.2.1 (GW F.2.1 σ)) (hm : F.2.2.2.2.2.2.2.2.2.2.2.2.2.2.1 = 3) (ok : OkF F prog_2_method_5_code "LastSeen$Bones" ({ frames := 0, cells := 0, slots := 0, locals := 0 } : Room)) {Q : Int → SS → Prop} (hQ : RetI F Q) {x1 : Int} {s : SS} (h : Sp_Bn_changeBound x1 s Q) : AtS F 0 [(0, .ref (F.2.1.1 8)), (1, vI x1)] [] s := by
  unfold Sp_Bn_changeBound at h
  refine r_aload_n ok 0 d_Bn_changeBound_0 rfl rfl ?_
  refine g_Bn_most ok d_Bn_changeBound_1 ?_
  refine r_istore_n ok [(2, vI (s.1 24)), (0, .ref (F.2.1.1 8)), (1, vI x1)] d_Bn_changeBound_4 rfl hm (by decide) rfl ?_
  refine r_aload_n ok 1 d_Bn_changeBound_5 rfl rfl ?_
  refine r_iload_n ok 2 d_Bn_changeBound_6 rfl rfl ?_
  refine p_Bn_most ok d_Bn_changeBound_7 ?_
  replace h := h _ rfl
  generalize sF s 24 x1 = s1 at h ⊢
  refine r_iload_n ok 0 d_Bn_changeBound_10 rfl rfl ?_
  exact hQ _ _ _ _ _ (ok_code ok) d_Bn_changeBound_11 h
theorem L_Bn_changeBound (l : Launch) (G : GE) (A : Nat → Prop) (hD : ∀ σ, va_D A (GW G σ)) {x1 : Int} {s : SS} {Q : Int → SS → Prop} (h : Sp_Bn_changeBound x1 s Q) : Met l y_Bn_changeBound (Cond.code y_Bn_changeBound prog_2_method_5_code 3 (some .int) :: lw_ok) ({ frames := 0, cells := 0, slots := 0, locals := 0 } : Room) (va_Pc [.ref (G.1 8), vI x1] (gB G s)) (va_Qi (fun (r : Int32) (s2 : SS) => ∃ x : Int, r = iI x ∧ Q x s2) (fun s2 t => gB G s2 t) A) 0 0 A := by
  refine met_i hD (by decide) ⟨rfl, rfl⟩ (Nat.le_of_ble_eq_true rfl) (lv := [(0, .ref (G.1 8)), (1, vI x1)]) rfl (fun F h1 h2 h3 hm ok hQ => ?_)
  subst h1 h2 h3
  have hDF := hD
  exact K_Bn_changeBound_e hDF hm ok hQ h
theorem d_LS_bound_0 : decode prog_1_method_26_code 0 = .ok (.iload_n 1, 1) := by decide +kernel
theorem d_LS_bound_1 : decode prog_1_method_26_code 1 = .ok (.ifCond .lt 9, 3) := by decide +kernel
theorem d_LS_bound_4 : decode prog_1_method_26_code 4 = .ok (.iload_n 1, 1) := by decide +kernel
theorem d_LS_bound_5 : decode prog_1_method_26_code 5 = .ok (.bipush 20, 2) := by decide +kernel
theorem d_LS_bound_7 : decode prog_1_method_26_code 7 = .ok (.if_icmp .le 6, 3) := by decide +kernel
theorem d_LS_bound_10 : decode prog_1_method_26_code 10 = .ok (.bipush (-2), 2) := by decide +kernel
theorem d_LS_bound_12 : decode prog_1_method_26_code 12 = .ok (.ireturn, 1) := by decide +kernel
theorem d_LS_bound_13 : decode prog_1_method_26_code 13 = .ok (.aload_n 0, 1) := by decide +kernel
theorem d_LS_bound_14 : decode prog_1_method_26_code 14 = .ok (.getfield 61, 3) := by decide +kernel
theorem d_LS_bound_17 : decode prog_1_method_26_code 17 = .ok (.iload_n 1, 1) := by decide +kernel
theorem d_LS_bound_18 : decode prog_1_method_26_code 18 = .ok (.invokevirtual 293, 3) := by decide +kernel
theorem d_LS_bound_21 : decode prog_1_method_26_code 21 = .ok (.ireturn, 1) := by decide +kernel
set_option maxHeartbeats 4000000 in
set_option maxRecDepth 100000 in
theorem K_LS_bound_e {F : FT} (hD : ∀ σ, va_D F.2.2.1 (GW F.2.1 σ)) (hm : F.2.2.2.2.2.2.2.2.2.2.2.2.2.2.1 = 2) (ok : OkF F prog_1_method_26_code "LastSeen" ({ frames := 1, cells := 0, slots := 0, locals := 22 } : Room)) {Q : Int → SS → Prop} (hQ : RetI F Q) {x1 : Int} {s : SS} (h : Sp_LS_bound x1 s Q) : AtS F 0 [(0, .ref (F.2.1.1 0)), (1, vI x1)] [] s := by
  unfold Sp_LS_bound at h
  refine r_iload_n ok 1 d_LS_bound_0 rfl rfl ?_
  refine r_if_lt ok 10 d_LS_bound_1 (by decide) h.1 (fun c => ?_) (fun c => ?_)
  · replace h := h.2.1 c
    refine r_bipush ok (-2) d_LS_bound_10 (by decide) ?_
    exact hQ _ _ _ _ _ (ok_code ok) d_LS_bound_12 h
  · replace h := h.2.2 c
    refine r_iload_n ok 1 d_LS_bound_4 rfl rfl ?_
    refine r_bipush ok 20 d_LS_bound_5 (by decide) ?_
    refine r_icmp_le ok 13 d_LS_bound_7 (by decide) h.1 (by decide) (fun c => ?_) (fun c => ?_)
    · replace h := h.2.1 c
      refine r_aload_n ok 0 d_LS_bound_13 rfl rfl ?_
      refine g_LS_bones ok d_LS_bound_14 ?_
      refine r_iload_n ok 1 d_LS_bound_17 rfl rfl ?_
      refine r_callVi (As := [vI x1]) (rest := []) ok 8 rfl rfl rfl wl_LS_293 wi_y_Bn_changeBound ws_y_Bn_changeBound wn_Bn wc_y_Bn_changeBound (by decide) (by decide) hh_Bn_changeBound (Nat.le_of_ble_eq_true rfl) rfl d_LS_bound_18 (L_Bn_changeBound F.1 F.2.1 F.2.2.1 hD h) (fun r2 s1 h => ?_)
      exact hQ _ _ _ _ _ (ok_code ok) d_LS_bound_21 h
    · replace h := h.2.2 c
      refine r_bipush ok (-2) d_LS_bound_10 (by decide) ?_
      exact hQ _ _ _ _ _ (ok_code ok) d_LS_bound_12 h
theorem L_LS_bound (l : Launch) (G : GE) (A : Nat → Prop) (hD : ∀ σ, va_D A (GW G σ)) {x1 : Int} {s : SS} {Q : Int → SS → Prop} (h : Sp_LS_bound x1 s Q) : Met l y_LS_bound (Cond.code y_LS_bound prog_1_method_26_code 2 (some .int) :: lw_ok) ({ frames := 1, cells := 0, slots := 0, locals := 22 } : Room) (va_Pc [.ref (G.1 0), vI x1] (gB G s)) (va_Qi (fun (r : Int32) (s2 : SS) => ∃ x : Int, r = iI x ∧ Q x s2) (fun s2 t => gB G s2 t) A) 0 0 A := by
  refine met_i hD (by decide) ⟨rfl, rfl⟩ (Nat.le_of_ble_eq_true rfl) (lv := [(0, .ref (G.1 0)), (1, vI x1)]) rfl (fun F h1 h2 h3 hm ok hQ => ?_)
  subst h1 h2 h3
  have hDF := hD
  exact K_LS_bound_e hDF hm ok hQ h
theorem d_Bn_couples_0 : decode prog_2_method_7_code 0 = .ok (.iconst 0, 1) := by decide +kernel
theorem d_Bn_couples_1 : decode prog_2_method_7_code 1 = .ok (.istore_n 3, 1) := by decide +kernel
theorem d_Bn_couples_2 : decode prog_2_method_7_code 2 = .ok (.iconst 0, 1) := by decide +kernel
theorem d_Bn_couples_3 : decode prog_2_method_7_code 3 = .ok (.istore 4, 2) := by decide +kernel
theorem d_Bn_couples_5 : decode prog_2_method_7_code 5 = .ok (.iconst 0, 1) := by decide +kernel
theorem d_Bn_couples_6 : decode prog_2_method_7_code 6 = .ok (.istore 5, 2) := by decide +kernel
theorem d_Bn_couples_8 : decode prog_2_method_7_code 8 = .ok (.iload_n 3, 1) := by decide +kernel
theorem d_Bn_couples_9 : decode prog_2_method_7_code 9 = .ok (.aload_n 0, 1) := by decide +kernel
theorem d_Bn_couples_10 : decode prog_2_method_7_code 10 = .ok (.getfield 15, 3) := by decide +kernel
theorem d_Bn_couples_13 : decode prog_2_method_7_code 13 = .ok (.iload_n 1, 1) := by decide +kernel
theorem d_Bn_couples_14 : decode prog_2_method_7_code 14 = .ok (.iaload, 1) := by decide +kernel
theorem d_Bn_couples_15 : decode prog_2_method_7_code 15 = .ok (.if_icmp .ge 83, 3) := by decide +kernel
theorem d_Bn_couples_18 : decode prog_2_method_7_code 18 = .ok (.iload 4, 2) := by decide +kernel
theorem d_Bn_couples_20 : decode prog_2_method_7_code 20 = .ok (.aload_n 0, 1) := by decide +kernel
theorem d_Bn_couples_21 : decode prog_2_method_7_code 21 = .ok (.getfield 15, 3) := by decide +kernel
theorem d_Bn_couples_24 : decode prog_2_method_7_code 24 = .ok (.iload_n 2, 1) := by decide +kernel
theorem d_Bn_couples_25 : decode prog_2_method_7_code 25 = .ok (.iaload, 1) := by decide +kernel
theorem d_Bn_couples_26 : decode prog_2_method_7_code 26 = .ok (.if_icmp .ge 72, 3) := by decide +kernel
theorem d_Bn_couples_29 : decode prog_2_method_7_code 29 = .ok (.aload_n 0, 1) := by decide +kernel
theorem d_Bn_couples_30 : decode prog_2_method_7_code 30 = .ok (.getfield 11, 3) := by decide +kernel
theorem d_Bn_couples_33 : decode prog_2_method_7_code 33 = .ok (.iload_n 1, 1) := by decide +kernel
theorem d_Bn_couples_34 : decode prog_2_method_7_code 34 = .ok (.bipush 12, 2) := by decide +kernel
theorem d_Bn_couples_36 : decode prog_2_method_7_code 36 = .ok (.imul, 1) := by decide +kernel
theorem d_Bn_couples_37 : decode prog_2_method_7_code 37 = .ok (.iload_n 3, 1) := by decide +kernel
theorem d_Bn_couples_38 : decode prog_2_method_7_code 38 = .ok (.iadd, 1) := by decide +kernel
theorem d_Bn_couples_39 : decode prog_2_method_7_code 39 = .ok (.iaload, 1) := by decide +kernel
theorem d_Bn_couples_40 : decode prog_2_method_7_code 40 = .ok (.aload_n 0, 1) := by decide +kernel
theorem d_Bn_couples_41 : decode prog_2_method_7_code 41 = .ok (.getfield 11, 3) := by decide +kernel
theorem d_Bn_couples_44 : decode prog_2_method_7_code 44 = .ok (.iload_n 2, 1) := by decide +kernel
theorem d_Bn_couples_45 : decode prog_2_method_7_code 45 = .ok (.bipush 12, 2) := by decide +kernel
theorem d_Bn_couples_47 : decode prog_2_method_7_code 47 = .ok (.imul, 1) := by decide +kernel
theorem d_Bn_couples_48 : decode prog_2_method_7_code 48 = .ok (.iload 4, 2) := by decide +kernel
theorem d_Bn_couples_50 : decode prog_2_method_7_code 50 = .ok (.iadd, 1) := by decide +kernel
theorem d_Bn_couples_51 : decode prog_2_method_7_code 51 = .ok (.iaload, 1) := by decide +kernel
theorem d_Bn_couples_52 : decode prog_2_method_7_code 52 = .ok (.isub, 1) := by decide +kernel
theorem d_Bn_couples_53 : decode prog_2_method_7_code 53 = .ok (.istore 6, 2) := by decide +kernel
theorem d_Bn_couples_55 : decode prog_2_method_7_code 55 = .ok (.iload 6, 2) := by decide +kernel
theorem d_Bn_couples_57 : decode prog_2_method_7_code 57 = .ok (.aload_n 0, 1) := by decide +kernel
theorem d_Bn_couples_58 : decode prog_2_method_7_code 58 = .ok (.getfield 18, 3) := by decide +kernel
theorem d_Bn_couples_61 : decode prog_2_method_7_code 61 = .ok (.if_icmp .le 9, 3) := by decide +kernel
theorem d_Bn_couples_64 : decode prog_2_method_7_code 64 = .ok (.iinc 4 1, 3) := by decide +kernel
theorem d_Bn_couples_67 : decode prog_2_method_7_code 67 = .ok (.goto 28, 3) := by decide +kernel
theorem d_Bn_couples_70 : decode prog_2_method_7_code 70 = .ok (.iload 6, 2) := by decide +kernel
theorem d_Bn_couples_72 : decode prog_2_method_7_code 72 = .ok (.aload_n 0, 1) := by decide +kernel
theorem d_Bn_couples_73 : decode prog_2_method_7_code 73 = .ok (.getfield 18, 3) := by decide +kernel
theorem d_Bn_couples_76 : decode prog_2_method_7_code 76 = .ok (.ineg, 1) := by decide +kernel
theorem d_Bn_couples_77 : decode prog_2_method_7_code 77 = .ok (.if_icmp .ge 9, 3) := by decide +kernel
theorem d_Bn_couples_80 : decode prog_2_method_7_code 80 = .ok (.iinc 3 1, 3) := by decide +kernel
theorem d_Bn_couples_83 : decode prog_2_method_7_code 83 = .ok (.goto 12, 3) := by decide +kernel
theorem d_Bn_couples_86 : decode prog_2_method_7_code 86 = .ok (.iinc 3 1, 3) := by decide +kernel
theorem d_Bn_couples_89 : decode prog_2_method_7_code 89 = .ok (.iinc 4 1, 3) := by decide +kernel
theorem d_Bn_couples_92 : decode prog_2_method_7_code 92 = .ok (.iinc 5 1, 3) := by decide +kernel
theorem d_Bn_couples_95 : decode prog_2_method_7_code 95 = .ok (.goto (-87), 3) := by decide +kernel
theorem d_Bn_couples_98 : decode prog_2_method_7_code 98 = .ok (.iload 5, 2) := by decide +kernel
theorem d_Bn_couples_100 : decode prog_2_method_7_code 100 = .ok (.ireturn, 1) := by decide +kernel
set_option maxHeartbeats 4000000 in
set_option maxRecDepth 100000 in
theorem K_Bn_couples_8 {F : FT} (hD : ∀ σ, va_D F.2.2.1 (GW F.2.1 σ)) (hm : F.2.2.2.2.2.2.2.2.2.2.2.2.2.2.1 = 7) (ok : OkF F prog_2_method_7_code "LastSeen$Bones" ({ frames := 0, cells := 0, slots := 0, locals := 0 } : Room)) {Q : Int → SS → Prop} (hQ : RetI F Q) {x1 x2 x3 x4 x5 : Int} {s : SS} (h : B_Bn_couples_8 Q (fun x1 x2 x3 x4 x5 s => AtS F 8 [(0, .ref (F.2.1.1 8)), (1, vI x1), (2, vI x2), (3, vI x3), (4, vI x4), (5, vI x5)] [] s) x1 x2 x3 x4 x5 s) : AtS F 8 [(0, .ref (F.2.1.1 8)), (1, vI x1), (2, vI x2), (3, vI x3), (4, vI x4), (5, vI x5)] [] s := by
  unfold B_Bn_couples_8 at h
  refine r_iload_n ok 3 d_Bn_couples_8 rfl rfl ?_
  refine r_aload_n ok 0 d_Bn_couples_9 rfl rfl ?_
  refine g_Bn_counts ok d_Bn_couples_10 ?_
  refine r_iload_n ok 1 d_Bn_couples_13 rfl rfl ?_
  refine r_iald ok 44 d_Bn_couples_14 (by decide) rfl h.1 ?_
  replace h := h.2
  refine r_icmp_ge ok 98 d_Bn_couples_15 (by decide) h.1 h.2.1 (fun c => ?_) (fun c => ?_)
  · replace h := h.2.2.1 c
    refine r_iload ok 5 d_Bn_couples_98 rfl ?_
    exact hQ _ _ _ _ _ (ok_code ok) d_Bn_couples_100 h
  · replace h := h.2.2.2 c
    refine r_iload ok 4 d_Bn_couples_18 rfl ?_
    refine r_aload_n ok 0 d_Bn_couples_20 rfl rfl ?_
    refine g_Bn_counts ok d_Bn_couples_21 ?_
    refine r_iload_n ok 2 d_Bn_couples_24 rfl rfl ?_
    refine r_iald ok 44 d_Bn_couples_25 (by decide) rfl h.1 ?_
    replace h := h.2
    refine r_icmp_ge ok 98 d_Bn_couples_26 (by decide) h.1 h.2.1 (fun c => ?_) (fun c => ?_)
    · replace h := h.2.2.1 c
      refine r_iload ok 5 d_Bn_couples_98 rfl ?_
      exact hQ _ _ _ _ _ (ok_code ok) d_Bn_couples_100 h
    · replace h := h.2.2.2 c
      refine r_aload_n ok 0 d_Bn_couples_29 rfl rfl ?_
      refine g_Bn_sizes ok d_Bn_couples_30 ?_
      refine r_iload_n ok 1 d_Bn_couples_33 rfl rfl ?_
      refine r_bipush ok 12 d_Bn_couples_34 (by decide) ?_
      refine r_imul ok d_Bn_couples_36 ?_
      refine r_iload_n ok 3 d_Bn_couples_37 rfl rfl ?_
      refine r_iadd ok d_Bn_couples_38 ?_
      refine r_iald ok 43 d_Bn_couples_39 (by decide) rfl h.1 ?_
      replace h := h.2
      refine r_aload_n ok 0 d_Bn_couples_40 rfl rfl ?_
      refine g_Bn_sizes ok d_Bn_couples_41 ?_
      refine r_iload_n ok 2 d_Bn_couples_44 rfl rfl ?_
      refine r_bipush ok 12 d_Bn_couples_45 (by decide) ?_
      refine r_imul ok d_Bn_couples_47 ?_
      refine r_iload ok 4 d_Bn_couples_48 rfl ?_
      refine r_iadd ok d_Bn_couples_50 ?_
      refine r_iald ok 43 d_Bn_couples_51 (by decide) rfl h.1 ?_
      replace h := h.2
      refine r_isub ok d_Bn_couples_52 ?_
      refine r_istore ok [(6, vI ((s.2 43 ((x1 * 12) + x3)) - (s.2 43 ((x2 * 12) + x4)))), (0, .ref (F.2.1.1 8)), (1, vI x1), (2, vI x2), (3, vI x3), (4, vI x4), (5, vI x5)] d_Bn_couples_53 hm (by decide) rfl ?_
      refine r_iload ok 0 d_Bn_couples_55 rfl ?_
      refine r_aload_n ok 1 d_Bn_couples_57 rfl rfl ?_
      refine g_Bn_most ok d_Bn_couples_58 ?_
      refine r_icmp_le ok 70 d_Bn_couples_61 (by decide) h.1 h.2.1 (fun c => ?_) (fun c => ?_)
      · replace h := h.2.2.1 c
        refine r_iload ok 0 d_Bn_couples_70 rfl ?_
        refine r_aload_n ok 1 d_Bn_couples_72 rfl rfl ?_
        refine g_Bn_most ok d_Bn_couples_73 ?_
        refine r_ineg ok d_Bn_couples_76 ?_
        refine r_icmp_ge ok 86 d_Bn_couples_77 (by decide) h.1 h.2.1 (fun c => ?_) (fun c => ?_)
        · replace h := h.2.2.1 c
          refine r_iinc ok 4 (x3 + 1) [(3, vI (x3 + 1)), (6, vI ((s.2 43 ((x1 * 12) + x3)) - (s.2 43 ((x2 * 12) + x4)))), (0, .ref (F.2.1.1 8)), (1, vI x1), (2, vI x2), (4, vI x4), (5, vI x5)] d_Bn_couples_86 rfl rfl hm (by decide) rfl ?_
          refine r_iinc ok 5 (x4 + 1) [(4, vI (x4 + 1)), (3, vI (x3 + 1)), (6, vI ((s.2 43 ((x1 * 12) + x3)) - (s.2 43 ((x2 * 12) + x4)))), (0, .ref (F.2.1.1 8)), (1, vI x1), (2, vI x2), (5, vI x5)] d_Bn_couples_89 rfl rfl hm (by decide) rfl ?_
          refine r_iinc ok 6 (x5 + 1) [(5, vI (x5 + 1)), (4, vI (x4 + 1)), (3, vI (x3 + 1)), (6, vI ((s.2 43 ((x1 * 12) + x3)) - (s.2 43 ((x2 * 12) + x4)))), (0, .ref (F.2.1.1 8)), (1, vI x1), (2, vI x2)] d_Bn_couples_92 rfl rfl hm (by decide) rfl ?_
          refine r_goto ok 8 d_Bn_couples_95 (by decide) ?_
          exact r_sub [4, 5, 6, 2, 1, 0] rfl h
        · replace h := h.2.2.2 c
          refine r_iinc ok 4 (x3 + 1) [(3, vI (x3 + 1)), (6, vI ((s.2 43 ((x1 * 12) + x3)) - (s.2 43 ((x2 * 12) + x4)))), (0, .ref (F.2.1.1 8)), (1, vI x1), (2, vI x2), (4, vI x4), (5, vI x5)] d_Bn_couples_80 rfl rfl hm (by decide) rfl ?_
          refine r_goto ok 95 d_Bn_couples_83 (by decide) ?_
          refine r_goto ok 8 d_Bn_couples_95 (by decide) ?_
          exact r_sub [2, 3, 4, 0, 5, 6] rfl h
      · replace h := h.2.2.2 c
        refine r_iinc ok 5 (x4 + 1) [(4, vI (x4 + 1)), (6, vI ((s.2 43 ((x1 * 12) + x3)) - (s.2 43 ((x2 * 12) + x4)))), (0, .ref (F.2.1.1 8)), (1, vI x1), (2, vI x2), (3, vI x3), (5, vI x5)] d_Bn_couples_64 rfl rfl hm (by decide) rfl ?_
        refine r_goto ok 95 d_Bn_couples_67 (by decide) ?_
        refine r_goto ok 8 d_Bn_couples_95 (by decide) ?_
        exact r_sub [2, 3, 4, 5, 0, 6] rfl h
set_option maxHeartbeats 4000000 in
set_option maxRecDepth 100000 in
theorem K_Bn_couples_e {F : FT} (hD : ∀ σ, va_D F.2.2.1 (GW F.2.1 σ)) (hm : F.2.2.2.2.2.2.2.2.2.2.2.2.2.2.1 = 7) (ok : OkF F prog_2_method_7_code "LastSeen$Bones" ({ frames := 0, cells := 0, slots := 0, locals := 0 } : Room)) {Q : Int → SS → Prop} (hQ : RetI F Q) {x1 x2 : Int} {s : SS} (h : B_Bn_couples_e Q (fun x1 x2 x3 x4 x5 s => AtS F 8 [(0, .ref (F.2.1.1 8)), (1, vI x1), (2, vI x2), (3, vI x3), (4, vI x4), (5, vI x5)] [] s) x1 x2 s) : AtS F 0 [(0, .ref (F.2.1.1 8)), (1, vI x1), (2, vI x2)] [] s := by
  unfold B_Bn_couples_e at h
  refine r_iconst ok 0 d_Bn_couples_0 rfl ?_
  refine r_istore_n ok [(3, vI 0), (0, .ref (F.2.1.1 8)), (1, vI x1), (2, vI x2)] d_Bn_couples_1 rfl hm (by decide) rfl ?_
  refine r_iconst ok 0 d_Bn_couples_2 rfl ?_
  refine r_istore ok [(4, vI 0), (3, vI 0), (0, .ref (F.2.1.1 8)), (1, vI x1), (2, vI x2)] d_Bn_couples_3 hm (by decide) rfl ?_
  refine r_iconst ok 0 d_Bn_couples_5 rfl ?_
  refine r_istore ok [(5, vI 0), (4, vI 0), (3, vI 0), (0, .ref (F.2.1.1 8)), (1, vI x1), (2, vI x2)] d_Bn_couples_6 hm (by decide) rfl ?_
  exact r_sub [3, 4, 5, 2, 1, 0] rfl h
theorem L_Bn_couples (l : Launch) (G : GE) (A : Nat → Prop) (hD : ∀ σ, va_D A (GW G σ)) {x1 x2 : Int} {s : SS} {Q : Int → SS → Prop} (h : Sp_Bn_couples x1 x2 s Q) : Met l y_Bn_couples (Cond.code y_Bn_couples prog_2_method_7_code 7 (some .int) :: lw_ok) ({ frames := 0, cells := 0, slots := 0, locals := 0 } : Room) (va_Pc [.ref (G.1 8), vI x1, vI x2] (gB G s)) (va_Qi (fun (r : Int32) (s2 : SS) => ∃ x : Int, r = iI x ∧ Q x s2) (fun s2 t => gB G s2 t) A) 0 0 A := by
  refine met_i hD (by decide) ⟨rfl, rfl⟩ (Nat.le_of_ble_eq_true rfl) (lv := [(0, .ref (G.1 8)), (1, vI x1), (2, vI x2)]) rfl (fun F h1 h2 h3 hm ok hQ => ?_)
  subst h1 h2 h3
  have hDF := hD
  exact K_Bn_couples_e hDF hm ok hQ (h _ (fun _ _ _ _ _ _ hb => K_Bn_couples_8 hDF hm ok hQ hb))
theorem d_Bn_leastPersons_0 : decode prog_2_method_6_code 0 = .ok (.iconst 0, 1) := by decide +kernel
theorem d_Bn_leastPersons_1 : decode prog_2_method_6_code 1 = .ok (.istore_n 2, 1) := by decide +kernel
theorem d_Bn_leastPersons_2 : decode prog_2_method_6_code 2 = .ok (.iconst 0, 1) := by decide +kernel
theorem d_Bn_leastPersons_3 : decode prog_2_method_6_code 3 = .ok (.istore_n 3, 1) := by decide +kernel
theorem d_Bn_leastPersons_4 : decode prog_2_method_6_code 4 = .ok (.iload_n 3, 1) := by decide +kernel
theorem d_Bn_leastPersons_5 : decode prog_2_method_6_code 5 = .ok (.iconst 4, 1) := by decide +kernel
theorem d_Bn_leastPersons_6 : decode prog_2_method_6_code 6 = .ok (.if_icmp .ge 54, 3) := by decide +kernel
theorem d_Bn_leastPersons_9 : decode prog_2_method_6_code 9 = .ok (.iload_n 1, 1) := by decide +kernel
theorem d_Bn_leastPersons_10 : decode prog_2_method_6_code 10 = .ok (.iload_n 3, 1) := by decide +kernel
theorem d_Bn_leastPersons_11 : decode prog_2_method_6_code 11 = .ok (.iconst 0, 1) := by decide +kernel
theorem d_Bn_leastPersons_12 : decode prog_2_method_6_code 12 = .ok (.invokestatic 22, 3) := by decide +kernel
theorem d_Bn_leastPersons_15 : decode prog_2_method_6_code 15 = .ok (.istore 4, 2) := by decide +kernel
theorem d_Bn_leastPersons_17 : decode prog_2_method_6_code 17 = .ok (.iload_n 1, 1) := by decide +kernel
theorem d_Bn_leastPersons_18 : decode prog_2_method_6_code 18 = .ok (.iload_n 3, 1) := by decide +kernel
theorem d_Bn_leastPersons_19 : decode prog_2_method_6_code 19 = .ok (.iconst 1, 1) := by decide +kernel
theorem d_Bn_leastPersons_20 : decode prog_2_method_6_code 20 = .ok (.invokestatic 22, 3) := by decide +kernel
theorem d_Bn_leastPersons_23 : decode prog_2_method_6_code 23 = .ok (.istore 5, 2) := by decide +kernel
theorem d_Bn_leastPersons_25 : decode prog_2_method_6_code 25 = .ok (.iload_n 2, 1) := by decide +kernel
theorem d_Bn_leastPersons_26 : decode prog_2_method_6_code 26 = .ok (.aload_n 0, 1) := by decide +kernel
theorem d_Bn_leastPersons_27 : decode prog_2_method_6_code 27 = .ok (.getfield 15, 3) := by decide +kernel
theorem d_Bn_leastPersons_30 : decode prog_2_method_6_code 30 = .ok (.iload 4, 2) := by decide +kernel
theorem d_Bn_leastPersons_32 : decode prog_2_method_6_code 32 = .ok (.iaload, 1) := by decide +kernel
theorem d_Bn_leastPersons_33 : decode prog_2_method_6_code 33 = .ok (.aload_n 0, 1) := by decide +kernel
theorem d_Bn_leastPersons_34 : decode prog_2_method_6_code 34 = .ok (.getfield 15, 3) := by decide +kernel
theorem d_Bn_leastPersons_37 : decode prog_2_method_6_code 37 = .ok (.iload 5, 2) := by decide +kernel
theorem d_Bn_leastPersons_39 : decode prog_2_method_6_code 39 = .ok (.iaload, 1) := by decide +kernel
theorem d_Bn_leastPersons_40 : decode prog_2_method_6_code 40 = .ok (.iadd, 1) := by decide +kernel
theorem d_Bn_leastPersons_41 : decode prog_2_method_6_code 41 = .ok (.aload_n 0, 1) := by decide +kernel
theorem d_Bn_leastPersons_42 : decode prog_2_method_6_code 42 = .ok (.iload 4, 2) := by decide +kernel
theorem d_Bn_leastPersons_44 : decode prog_2_method_6_code 44 = .ok (.iload 5, 2) := by decide +kernel
theorem d_Bn_leastPersons_46 : decode prog_2_method_6_code 46 = .ok (.invokevirtual 26, 3) := by decide +kernel
theorem d_Bn_leastPersons_49 : decode prog_2_method_6_code 49 = .ok (.isub, 1) := by decide +kernel
theorem d_Bn_leastPersons_50 : decode prog_2_method_6_code 50 = .ok (.invokestatic 30, 3) := by decide +kernel
theorem d_Bn_leastPersons_53 : decode prog_2_method_6_code 53 = .ok (.istore_n 2, 1) := by decide +kernel
theorem d_Bn_leastPersons_54 : decode prog_2_method_6_code 54 = .ok (.iinc 3 1, 3) := by decide +kernel
theorem d_Bn_leastPersons_57 : decode prog_2_method_6_code 57 = .ok (.goto (-53), 3) := by decide +kernel
theorem d_Bn_leastPersons_60 : decode prog_2_method_6_code 60 = .ok (.iload_n 2, 1) := by decide +kernel
theorem d_Bn_leastPersons_61 : decode prog_2_method_6_code 61 = .ok (.ireturn, 1) := by decide +kernel
set_option maxHeartbeats 4000000 in
set_option maxRecDepth 100000 in
theorem K_Bn_leastPersons_4 {F : FT} (hD : ∀ σ, va_D F.2.2.1 (GW F.2.1 σ)) (hm : F.2.2.2.2.2.2.2.2.2.2.2.2.2.2.1 = 6) (ok : OkF F prog_2_method_6_code "LastSeen$Bones" ({ frames := 1, cells := 0, slots := 0, locals := 26 } : Room)) {Q : Int → SS → Prop} (hQ : RetI F Q) {x1 x2 x3 : Int} {s : SS} (h : B_Bn_leastPersons_4 Q (fun x1 x2 x3 s => AtS F 4 [(0, .ref (F.2.1.1 8)), (1, vI x1), (2, vI x2), (3, vI x3)] [] s) x1 x2 x3 s) : AtS F 4 [(0, .ref (F.2.1.1 8)), (1, vI x1), (2, vI x2), (3, vI x3)] [] s := by
  unfold B_Bn_leastPersons_4 at h
  refine r_iload_n ok 3 d_Bn_leastPersons_4 rfl rfl ?_
  refine r_iconst ok 4 d_Bn_leastPersons_5 rfl ?_
  refine r_icmp_ge ok 60 d_Bn_leastPersons_6 (by decide) h.1 (by decide) (fun c => ?_) (fun c => ?_)
  · replace h := h.2.1 c
    refine r_iload_n ok 2 d_Bn_leastPersons_60 rfl rfl ?_
    exact hQ _ _ _ _ _ (ok_code ok) d_Bn_leastPersons_61 h
  · replace h := h.2.2 c
    refine r_iload_n ok 1 d_Bn_leastPersons_9 rfl rfl ?_
    refine r_iload_n ok 3 d_Bn_leastPersons_10 rfl rfl ?_
    refine r_iconst ok 0 d_Bn_leastPersons_11 rfl ?_
    refine r_callSi (As := [vI x1, vI x3, vI 0]) (rest := []) ok wl_Bn_22 wt_y_Bn_heapOf wn_Bn wc_y_Bn_heapOf (by decide) (by decide) hh_Bn_heapOf (Nat.le_of_ble_eq_true rfl) rfl d_Bn_leastPersons_12 (L_Bn_heapOf F.1 F.2.1 F.2.2.1 hD h) (fun r2 s1 h => ?_)
    refine r_istore ok [(4, vI r2), (0, .ref (F.2.1.1 8)), (1, vI x1), (2, vI x2), (3, vI x3)] d_Bn_leastPersons_15 hm (by decide) rfl ?_
    refine r_iload_n ok 2 d_Bn_leastPersons_17 rfl rfl ?_
    refine r_iload_n ok 4 d_Bn_leastPersons_18 rfl rfl ?_
    refine r_iconst ok 1 d_Bn_leastPersons_19 rfl ?_
    refine r_callSi (As := [vI x1, vI x3, vI 1]) (rest := []) ok wl_Bn_22 wt_y_Bn_heapOf wn_Bn wc_y_Bn_heapOf (by decide) (by decide) hh_Bn_heapOf (Nat.le_of_ble_eq_true rfl) rfl d_Bn_leastPersons_20 (L_Bn_heapOf F.1 F.2.1 F.2.2.1 hD h) (fun r4 s3 h => ?_)
    refine r_istore ok [(5, vI r4), (4, vI r2), (0, .ref (F.2.1.1 8)), (1, vI x1), (2, vI x2), (3, vI x3)] d_Bn_leastPersons_23 hm (by decide) rfl ?_
    refine r_iload_n ok 4 d_Bn_leastPersons_25 rfl rfl ?_
    refine r_aload_n ok 2 d_Bn_leastPersons_26 rfl rfl ?_
    refine g_Bn_counts ok d_Bn_leastPersons_27 ?_
    refine r_iload ok 1 d_Bn_leastPersons_30 rfl ?_
    refine r_iald ok 44 d_Bn_leastPersons_32 (by decide) rfl h.1 ?_
    replace h := h.2
    refine r_aload_n ok 2 d_Bn_leastPersons_33 rfl rfl ?_
    refine g_Bn_counts ok d_Bn_leastPersons_34 ?_
    refine r_iload ok 0 d_Bn_leastPersons_37 rfl ?_
    refine r_iald ok 44 d_Bn_leastPersons_39 (by decide) rfl h.1 ?_
    replace h := h.2
    refine r_iadd ok d_Bn_leastPersons_40 ?_
    refine r_aload_n ok 2 d_Bn_leastPersons_41 rfl rfl ?_
    refine r_iload ok 1 d_Bn_leastPersons_42 rfl ?_
    refine r_iload ok 0 d_Bn_leastPersons_44 rfl ?_
    refine r_callVi (As := [vI r2, vI r4]) (rest := [vI ((s3.2 44 r2) + (s3.2 44 r4)), vI x2]) ok 8 rfl rfl rfl wl_Bn_26 wi_y_Bn_couples ws_y_Bn_couples wn_Bn wc_y_Bn_couples (by decide) (by decide) hh_Bn_couples (Nat.le_of_ble_eq_true rfl) rfl d_Bn_leastPersons_46 (L_Bn_couples F.1 F.2.1 F.2.2.1 hD h) (fun r6 s5 h => ?_)
    refine r_isub ok d_Bn_leastPersons_49 ?_
    refine r_max ok wl_Bn_30 (by decide) (Nat.le_of_ble_eq_true rfl) d_Bn_leastPersons_50 h.1 h.2.1 ?_
    replace h := h.2.2
    refine r_istore_n ok [(2, vI (max x2 (((s3.2 44 r2) + (s3.2 44 r4)) - r6))), (5, vI r4), (4, vI r2), (0, .ref (F.2.1.1 8)), (1, vI x1), (3, vI x3)] d_Bn_leastPersons_53 rfl hm (by decide) rfl ?_
    refine r_iinc ok 5 (x3 + 1) [(3, vI (x3 + 1)), (2, vI (max x2 (((s3.2 44 r2) + (s3.2 44 r4)) - r6))), (5, vI r4), (4, vI r2), (0, .ref (F.2.1.1 8)), (1, vI x1)] d_Bn_leastPersons_54 rfl rfl hm (by decide) rfl ?_
    refine r_goto ok 4 d_Bn_leastPersons_57 (by decide) ?_
    exact r_sub [4, 5, 1, 0] rfl h
set_option maxHeartbeats 4000000 in
set_option maxRecDepth 100000 in
theorem K_Bn_leastPersons_e {F : FT} (hD : ∀ σ, va_D F.2.2.1 (GW F.2.1 σ)) (hm : F.2.2.2.2.2.2.2.2.2.2.2.2.2.2.1 = 6) (ok : OkF F prog_2_method_6_code "LastSeen$Bones" ({ frames := 1, cells := 0, slots := 0, locals := 26 } : Room)) {Q : Int → SS → Prop} (hQ : RetI F Q) {x1 : Int} {s : SS} (h : B_Bn_leastPersons_e Q (fun x1 x2 x3 s => AtS F 4 [(0, .ref (F.2.1.1 8)), (1, vI x1), (2, vI x2), (3, vI x3)] [] s) x1 s) : AtS F 0 [(0, .ref (F.2.1.1 8)), (1, vI x1)] [] s := by
  unfold B_Bn_leastPersons_e at h
  refine r_iconst ok 0 d_Bn_leastPersons_0 rfl ?_
  refine r_istore_n ok [(2, vI 0), (0, .ref (F.2.1.1 8)), (1, vI x1)] d_Bn_leastPersons_1 rfl hm (by decide) rfl ?_
  refine r_iconst ok 0 d_Bn_leastPersons_2 rfl ?_
  refine r_istore_n ok [(3, vI 0), (2, vI 0), (0, .ref (F.2.1.1 8)), (1, vI x1)] d_Bn_leastPersons_3 rfl hm (by decide) rfl ?_
  exact r_sub [2, 3, 1, 0] rfl h
theorem L_Bn_leastPersons (l : Launch) (G : GE) (A : Nat → Prop) (hD : ∀ σ, va_D A (GW G σ)) {x1 : Int} {s : SS} {Q : Int → SS → Prop} (h : Sp_Bn_leastPersons x1 s Q) : Met l y_Bn_leastPersons (Cond.code y_Bn_leastPersons prog_2_method_6_code 6 (some .int) :: lw_ok) ({ frames := 1, cells := 0, slots := 0, locals := 26 } : Room) (va_Pc [.ref (G.1 8), vI x1] (gB G s)) (va_Qi (fun (r : Int32) (s2 : SS) => ∃ x : Int, r = iI x ∧ Q x s2) (fun s2 t => gB G s2 t) A) 0 0 A := by
  refine met_i hD (by decide) ⟨rfl, rfl⟩ (Nat.le_of_ble_eq_true rfl) (lv := [(0, .ref (G.1 8)), (1, vI x1)]) rfl (fun F h1 h2 h3 hm ok hQ => ?_)
  subst h1 h2 h3
  have hDF := hD
  exact K_Bn_leastPersons_e hDF hm ok hQ (h _ (fun _ _ _ _ hb => K_Bn_leastPersons_4 hDF hm ok hQ hb))
theorem d_LS_least_0 : decode prog_1_method_27_code 0 = .ok (.iload_n 1, 1) := by decide +kernel
theorem d_LS_least_1 : decode prog_1_method_27_code 1 = .ok (.invokestatic 285, 3) := by decide +kernel
theorem d_LS_least_4 : decode prog_1_method_27_code 4 = .ok (.ifCond .ne 5, 3) := by decide +kernel
theorem d_LS_least_7 : decode prog_1_method_27_code 7 = .ok (.iconst (-1), 1) := by decide +kernel
theorem d_LS_least_8 : decode prog_1_method_27_code 8 = .ok (.ireturn, 1) := by decide +kernel
theorem d_LS_least_9 : decode prog_1_method_27_code 9 = .ok (.aload_n 0, 1) := by decide +kernel
theorem d_LS_least_10 : decode prog_1_method_27_code 10 = .ok (.getfield 61, 3) := by decide +kernel
theorem d_LS_least_13 : decode prog_1_method_27_code 13 = .ok (.iload_n 1, 1) := by decide +kernel
theorem d_LS_least_14 : decode prog_1_method_27_code 14 = .ok (.invokevirtual 296, 3) := by decide +kernel
theorem d_LS_least_17 : decode prog_1_method_27_code 17 = .ok (.ireturn, 1) := by decide +kernel
set_option maxHeartbeats 4000000 in
set_option maxRecDepth 100000 in
theorem K_LS_least_e {F : FT} (hD : ∀ σ, va_D F.2.2.1 (GW F.2.1 σ)) (hm : F.2.2.2.2.2.2.2.2.2.2.2.2.2.2.1 = 2) (ok : OkF F prog_1_method_27_code "LastSeen" ({ frames := 2, cells := 0, slots := 0, locals := 51 } : Room)) {Q : Int → SS → Prop} (hQ : RetI F Q) {x1 : Int} {s : SS} (h : Sp_LS_least x1 s Q) : AtS F 0 [(0, .ref (F.2.1.1 0)), (1, vI x1)] [] s := by
  unfold Sp_LS_least at h
  refine r_iload_n ok 1 d_LS_least_0 rfl rfl ?_
  refine r_callSi (As := [vI x1]) (rest := []) ok wl_LS_285 wt_y_Gr_isGrave wn_Gr wc_y_Gr_isGrave (by decide) (by decide) hh_Gr_isGrave (Nat.le_of_ble_eq_true rfl) rfl d_LS_least_1 (L_Gr_isGrave F.1 F.2.1 F.2.2.1 hD h) (fun r2 s1 h => ?_)
  refine r_if_ne ok 9 d_LS_least_4 (by decide) h.1 (fun c => ?_) (fun c => ?_)
  · replace h := h.2.1 c
    refine r_aload_n ok 0 d_LS_least_9 rfl rfl ?_
    refine g_LS_bones ok d_LS_least_10 ?_
    refine r_iload_n ok 1 d_LS_least_13 rfl rfl ?_
    refine r_callVi (As := [vI x1]) (rest := []) ok 8 rfl rfl rfl wl_LS_296 wi_y_Bn_leastPersons ws_y_Bn_leastPersons wn_Bn wc_y_Bn_leastPersons (by decide) (by decide) hh_Bn_leastPersons (Nat.le_of_ble_eq_true rfl) rfl d_LS_least_14 (L_Bn_leastPersons F.1 F.2.1 F.2.2.1 hD h) (fun r4 s3 h => ?_)
    exact hQ _ _ _ _ _ (ok_code ok) d_LS_least_17 h
  · replace h := h.2.2 c
    refine r_iconst ok (-1) d_LS_least_7 rfl ?_
    exact hQ _ _ _ _ _ (ok_code ok) d_LS_least_8 h
theorem L_LS_least (l : Launch) (G : GE) (A : Nat → Prop) (hD : ∀ σ, va_D A (GW G σ)) {x1 : Int} {s : SS} {Q : Int → SS → Prop} (h : Sp_LS_least x1 s Q) : Met l y_LS_least (Cond.code y_LS_least prog_1_method_27_code 2 (some .int) :: lw_ok) ({ frames := 2, cells := 0, slots := 0, locals := 51 } : Room) (va_Pc [.ref (G.1 0), vI x1] (gB G s)) (va_Qi (fun (r : Int32) (s2 : SS) => ∃ x : Int, r = iI x ∧ Q x s2) (fun s2 t => gB G s2 t) A) 0 0 A := by
  refine met_i hD (by decide) ⟨rfl, rfl⟩ (Nat.le_of_ble_eq_true rfl) (lv := [(0, .ref (G.1 0)), (1, vI x1)]) rfl (fun F h1 h2 h3 hm ok hQ => ?_)
  subst h1 h2 h3
  have hDF := hD
  exact K_LS_least_e hDF hm ok hQ h
theorem d_Gr_isHeight_0 : decode prog_3_method_3_code 0 = .ok (.iload_n 0, 1) := by decide +kernel
theorem d_Gr_isHeight_1 : decode prog_3_method_3_code 1 = .ok (.bipush 100, 2) := by decide +kernel
theorem d_Gr_isHeight_3 : decode prog_3_method_3_code 3 = .ok (.if_icmp .lt 14, 3) := by decide +kernel
theorem d_Gr_isHeight_6 : decode prog_3_method_3_code 6 = .ok (.iload_n 0, 1) := by decide +kernel
theorem d_Gr_isHeight_7 : decode prog_3_method_3_code 7 = .ok (.sipush 220, 3) := by decide +kernel
theorem d_Gr_isHeight_10 : decode prog_3_method_3_code 10 = .ok (.if_icmp .gt 7, 3) := by decide +kernel
theorem d_Gr_isHeight_13 : decode prog_3_method_3_code 13 = .ok (.iconst 1, 1) := by decide +kernel
theorem d_Gr_isHeight_14 : decode prog_3_method_3_code 14 = .ok (.goto 4, 3) := by decide +kernel
theorem d_Gr_isHeight_17 : decode prog_3_method_3_code 17 = .ok (.iconst 0, 1) := by decide +kernel
theorem d_Gr_isHeight_18 : decode prog_3_method_3_code 18 = .ok (.ireturn, 1) := by decide +kernel
set_option maxHeartbeats 4000000 in
set_option maxRecDepth 100000 in
theorem K_Gr_isHeight_e {F : FT} (hD : ∀ σ, va_D F.2.2.1 (GW F.2.1 σ)) (hm : F.2.2.2.2.2.2.2.2.2.2.2.2.2.2.1 = 1) (ok : OkF F prog_3_method_3_code "LastSeen$Graves" ({ frames := 0, cells := 0, slots := 0, locals := 0 } : Room)) {Q : Int → SS → Prop} (hQ : RetZ F Q) {x0 : Int} {s : SS} (h : Sp_Gr_isHeight x0 s Q) : AtS F 0 [(0, vI x0)] [] s := by
  unfold Sp_Gr_isHeight at h
  refine r_iload_n ok 0 d_Gr_isHeight_0 rfl rfl ?_
  refine r_bipush ok 100 d_Gr_isHeight_1 (by decide) ?_
  refine r_icmp_lt ok 17 d_Gr_isHeight_3 (by decide) h.1 (by decide) (fun c => ?_) (fun c => ?_)
  · replace h := h.2.1 c
    refine r_iconst ok 0 d_Gr_isHeight_17 rfl ?_
    exact hQ _ _ _ _ _ (ok_code ok) d_Gr_isHeight_18 (by decide) h
  · replace h := h.2.2 c
    refine r_iload_n ok 0 d_Gr_isHeight_6 rfl rfl ?_
    refine r_sipush ok 220 d_Gr_isHeight_7 (by decide) ?_
    refine r_icmp_gt ok 17 d_Gr_isHeight_10 (by decide) h.1 (by decide) (fun c => ?_) (fun c => ?_)
    · replace h := h.2.1 c
      refine r_iconst ok 0 d_Gr_isHeight_17 rfl ?_
      exact hQ _ _ _ _ _ (ok_code ok) d_Gr_isHeight_18 (by decide) h
    · replace h := h.2.2 c
      refine r_iconst ok 1 d_Gr_isHeight_13 rfl ?_
      refine r_goto ok 18 d_Gr_isHeight_14 (by decide) ?_
      exact hQ _ _ _ _ _ (ok_code ok) d_Gr_isHeight_18 (by decide) h
theorem L_Gr_isHeight (l : Launch) (G : GE) (A : Nat → Prop) (hD : ∀ σ, va_D A (GW G σ)) {x0 : Int} {s : SS} {Q : Int → SS → Prop} (h : Sp_Gr_isHeight x0 s Q) : Met l y_Gr_isHeight (Cond.code y_Gr_isHeight prog_3_method_3_code 1 (some .boolean) :: lw_ok) ({ frames := 0, cells := 0, slots := 0, locals := 0 } : Room) (va_Pc [vI x0] (gB G s)) (va_Qi (fun (r : Int32) (s2 : SS) => ∃ x : Int, r = iI x ∧ Q x s2) (fun s2 t => gB G s2 t) A) 0 0 A := by
  refine met_z hD (by decide) ⟨rfl, rfl⟩ (Nat.le_of_ble_eq_true rfl) (lv := [(0, vI x0)]) rfl (fun F h1 h2 h3 hm ok hQ => ?_)
  subst h1 h2 h3
  have hDF := hD
  exact K_Gr_isHeight_e hDF hm ok hQ h
theorem d_Gr_areMarks_0 : decode prog_3_method_4_code 0 = .ok (.iload_n 0, 1) := by decide +kernel
theorem d_Gr_areMarks_1 : decode prog_3_method_4_code 1 = .ok (.ifCond .lt 31, 3) := by decide +kernel
theorem d_Gr_areMarks_4 : decode prog_3_method_4_code 4 = .ok (.iload_n 0, 1) := by decide +kernel
theorem d_Gr_areMarks_5 : decode prog_3_method_4_code 5 = .ok (.sipush 255, 3) := by decide +kernel
theorem d_Gr_areMarks_8 : decode prog_3_method_4_code 8 = .ok (.if_icmp .gt 24, 3) := by decide +kernel
theorem d_Gr_areMarks_11 : decode prog_3_method_4_code 11 = .ok (.iload_n 1, 1) := by decide +kernel
theorem d_Gr_areMarks_12 : decode prog_3_method_4_code 12 = .ok (.ifCond .lt 20, 3) := by decide +kernel
theorem d_Gr_areMarks_15 : decode prog_3_method_4_code 15 = .ok (.iload_n 1, 1) := by decide +kernel
theorem d_Gr_areMarks_16 : decode prog_3_method_4_code 16 = .ok (.sipush 255, 3) := by decide +kernel
theorem d_Gr_areMarks_19 : decode prog_3_method_4_code 19 = .ok (.if_icmp .gt 13, 3) := by decide +kernel
theorem d_Gr_areMarks_22 : decode prog_3_method_4_code 22 = .ok (.iload_n 0, 1) := by decide +kernel
theorem d_Gr_areMarks_23 : decode prog_3_method_4_code 23 = .ok (.iload_n 1, 1) := by decide +kernel
theorem d_Gr_areMarks_24 : decode prog_3_method_4_code 24 = .ok (.iand, 1) := by decide +kernel
theorem d_Gr_areMarks_25 : decode prog_3_method_4_code 25 = .ok (.ifCond .ne 7, 3) := by decide +kernel
theorem d_Gr_areMarks_28 : decode prog_3_method_4_code 28 = .ok (.iconst 1, 1) := by decide +kernel
theorem d_Gr_areMarks_29 : decode prog_3_method_4_code 29 = .ok (.goto 4, 3) := by decide +kernel
theorem d_Gr_areMarks_32 : decode prog_3_method_4_code 32 = .ok (.iconst 0, 1) := by decide +kernel
theorem d_Gr_areMarks_33 : decode prog_3_method_4_code 33 = .ok (.ireturn, 1) := by decide +kernel
set_option maxHeartbeats 4000000 in
set_option maxRecDepth 100000 in
theorem K_Gr_areMarks_e {F : FT} (hD : ∀ σ, va_D F.2.2.1 (GW F.2.1 σ)) (hm : F.2.2.2.2.2.2.2.2.2.2.2.2.2.2.1 = 2) (ok : OkF F prog_3_method_4_code "LastSeen$Graves" ({ frames := 0, cells := 0, slots := 0, locals := 0 } : Room)) {Q : Int → SS → Prop} (hQ : RetZ F Q) {x0 x1 : Int} {s : SS} (h : Sp_Gr_areMarks x0 x1 s Q) : AtS F 0 [(0, vI x0), (1, vI x1)] [] s := by
  unfold Sp_Gr_areMarks at h
  refine r_iload_n ok 0 d_Gr_areMarks_0 rfl rfl ?_
  refine r_if_lt ok 32 d_Gr_areMarks_1 (by decide) h.1 (fun c => ?_) (fun c => ?_)
  · replace h := h.2.1 c
    refine r_iconst ok 0 d_Gr_areMarks_32 rfl ?_
    exact hQ _ _ _ _ _ (ok_code ok) d_Gr_areMarks_33 (by decide) h
  · replace h := h.2.2 c
    refine r_iload_n ok 0 d_Gr_areMarks_4 rfl rfl ?_
    refine r_sipush ok 255 d_Gr_areMarks_5 (by decide) ?_
    refine r_icmp_gt ok 32 d_Gr_areMarks_8 (by decide) h.1 (by decide) (fun c => ?_) (fun c => ?_)
    · replace h := h.2.1 c
      refine r_iconst ok 0 d_Gr_areMarks_32 rfl ?_
      exact hQ _ _ _ _ _ (ok_code ok) d_Gr_areMarks_33 (by decide) h
    · replace h := h.2.2 c
      refine r_iload_n ok 1 d_Gr_areMarks_11 rfl rfl ?_
      refine r_if_lt ok 32 d_Gr_areMarks_12 (by decide) h.1 (fun c => ?_) (fun c => ?_)
      · replace h := h.2.1 c
        refine r_iconst ok 0 d_Gr_areMarks_32 rfl ?_
        exact hQ _ _ _ _ _ (ok_code ok) d_Gr_areMarks_33 (by decide) h
      · replace h := h.2.2 c
        refine r_iload_n ok 1 d_Gr_areMarks_15 rfl rfl ?_
        refine r_sipush ok 255 d_Gr_areMarks_16 (by decide) ?_
        refine r_icmp_gt ok 32 d_Gr_areMarks_19 (by decide) h.1 (by decide) (fun c => ?_) (fun c => ?_)
        · replace h := h.2.1 c
          refine r_iconst ok 0 d_Gr_areMarks_32 rfl ?_
          exact hQ _ _ _ _ _ (ok_code ok) d_Gr_areMarks_33 (by decide) h
        · replace h := h.2.2 c
          refine r_iload_n ok 0 d_Gr_areMarks_22 rfl rfl ?_
          refine r_iload_n ok 1 d_Gr_areMarks_23 rfl rfl ?_
          refine r_iand ok d_Gr_areMarks_24 ?_
          refine r_if_ne ok 32 d_Gr_areMarks_25 (by decide) h.1 (fun c => ?_) (fun c => ?_)
          · replace h := h.2.1 c
            refine r_iconst ok 0 d_Gr_areMarks_32 rfl ?_
            exact hQ _ _ _ _ _ (ok_code ok) d_Gr_areMarks_33 (by decide) h
          · replace h := h.2.2 c
            refine r_iconst ok 1 d_Gr_areMarks_28 rfl ?_
            refine r_goto ok 33 d_Gr_areMarks_29 (by decide) ?_
            exact hQ _ _ _ _ _ (ok_code ok) d_Gr_areMarks_33 (by decide) h
theorem L_Gr_areMarks (l : Launch) (G : GE) (A : Nat → Prop) (hD : ∀ σ, va_D A (GW G σ)) {x0 x1 : Int} {s : SS} {Q : Int → SS → Prop} (h : Sp_Gr_areMarks x0 x1 s Q) : Met l y_Gr_areMarks (Cond.code y_Gr_areMarks prog_3_method_4_code 2 (some .boolean) :: lw_ok) ({ frames := 0, cells := 0, slots := 0, locals := 0 } : Room) (va_Pc [vI x0, vI x1] (gB G s)) (va_Qi (fun (r : Int32) (s2 : SS) => ∃ x : Int, r = iI x ∧ Q x s2) (fun s2 t => gB G s2 t) A) 0 0 A := by
  refine met_z hD (by decide) ⟨rfl, rfl⟩ (Nat.le_of_ble_eq_true rfl) (lv := [(0, vI x0), (1, vI x1)]) rfl (fun F h1 h2 h3 hm ok hQ => ?_)
  subst h1 h2 h3
  have hDF := hD
  exact K_Gr_areMarks_e hDF hm ok hQ h
theorem d_Gr_sets_0 : decode prog_3_method_5_code 0 = .ok (.aload_n 0, 1) := by decide +kernel
theorem d_Gr_sets_1 : decode prog_3_method_5_code 1 = .ok (.getfield 56, 3) := by decide +kernel
theorem d_Gr_sets_4 : decode prog_3_method_5_code 4 = .ok (.ireturn, 1) := by decide +kernel
set_option maxHeartbeats 4000000 in
set_option maxRecDepth 100000 in
theorem K_Gr_sets_e {F : FT} (hD : ∀ σ, va_D F.2.2.1 (GW F.2.1 σ)) (hm : F.2.2.2.2.2.2.2.2.2.2.2.2.2.2.1 = 1) (ok : OkF F prog_3_method_5_code "LastSeen$Graves" ({ frames := 0, cells := 0, slots := 0, locals := 0 } : Room)) {Q : Int → SS → Prop} (hQ : RetI F Q) {s : SS} (h : Sp_Gr_sets  s Q) : AtS F 0 [(0, .ref (F.2.1.1 9))] [] s := by
  unfold Sp_Gr_sets at h
  refine r_aload_n ok 0 d_Gr_sets_0 rfl rfl ?_
  refine g_Gr_setCount ok d_Gr_sets_1 ?_
  exact hQ _ _ _ _ _ (ok_code ok) d_Gr_sets_4 h
theorem L_Gr_sets (l : Launch) (G : GE) (A : Nat → Prop) (hD : ∀ σ, va_D A (GW G σ)) {s : SS} {Q : Int → SS → Prop} (h : Sp_Gr_sets  s Q) : Met l y_Gr_sets (Cond.code y_Gr_sets prog_3_method_5_code 1 (some .int) :: lw_ok) ({ frames := 0, cells := 0, slots := 0, locals := 0 } : Room) (va_Pc [.ref (G.1 9)] (gB G s)) (va_Qi (fun (r : Int32) (s2 : SS) => ∃ x : Int, r = iI x ∧ Q x s2) (fun s2 t => gB G s2 t) A) 0 0 A := by
  refine met_i hD (by decide) ⟨rfl, rfl⟩ (Nat.le_of_ble_eq_true rfl) (lv := [(0, .ref (G.1 9))]) rfl (fun F h1 h2 h3 hm ok hQ => ?_)
  subst h1 h2 h3
  have hDF := hD
  exact K_Gr_sets_e hDF hm ok hQ h
theorem d_Gr_addSet_0 : decode prog_3_method_8_code 0 = .ok (.aload_n 0, 1) := by decide +kernel
theorem d_Gr_addSet_1 : decode prog_3_method_8_code 1 = .ok (.getfield 9, 3) := by decide +kernel
theorem d_Gr_addSet_4 : decode prog_3_method_8_code 4 = .ok (.aload_n 0, 1) := by decide +kernel
theorem d_Gr_addSet_5 : decode prog_3_method_8_code 5 = .ok (.getfield 56, 3) := by decide +kernel
theorem d_Gr_addSet_8 : decode prog_3_method_8_code 8 = .ok (.iload_n 1, 1) := by decide +kernel
theorem d_Gr_addSet_9 : decode prog_3_method_8_code 9 = .ok (.iastore, 1) := by decide +kernel
theorem d_Gr_addSet_10 : decode prog_3_method_8_code 10 = .ok (.aload_n 0, 1) := by decide +kernel
theorem d_Gr_addSet_11 : decode prog_3_method_8_code 11 = .ok (.getfield 13, 3) := by decide +kernel
theorem d_Gr_addSet_14 : decode prog_3_method_8_code 14 = .ok (.aload_n 0, 1) := by decide +kernel
theorem d_Gr_addSet_15 : decode prog_3_method_8_code 15 = .ok (.getfield 56, 3) := by decide +kernel
theorem d_Gr_addSet_18 : decode prog_3_method_8_code 18 = .ok (.iload_n 2, 1) := by decide +kernel
theorem d_Gr_addSet_19 : decode prog_3_method_8_code 19 = .ok (.iastore, 1) := by decide +kernel
theorem d_Gr_addSet_20 : decode prog_3_method_8_code 20 = .ok (.aload_n 0, 1) := by decide +kernel
theorem d_Gr_addSet_21 : decode prog_3_method_8_code 21 = .ok (.getfield 16, 3) := by decide +kernel
theorem d_Gr_addSet_24 : decode prog_3_method_8_code 24 = .ok (.aload_n 0, 1) := by decide +kernel
theorem d_Gr_addSet_25 : decode prog_3_method_8_code 25 = .ok (.getfield 56, 3) := by decide +kernel
theorem d_Gr_addSet_28 : decode prog_3_method_8_code 28 = .ok (.iload_n 3, 1) := by decide +kernel
theorem d_Gr_addSet_29 : decode prog_3_method_8_code 29 = .ok (.iastore, 1) := by decide +kernel
theorem d_Gr_addSet_30 : decode prog_3_method_8_code 30 = .ok (.aload_n 0, 1) := by decide +kernel
theorem d_Gr_addSet_31 : decode prog_3_method_8_code 31 = .ok (.getfield 19, 3) := by decide +kernel
theorem d_Gr_addSet_34 : decode prog_3_method_8_code 34 = .ok (.aload_n 0, 1) := by decide +kernel
theorem d_Gr_addSet_35 : decode prog_3_method_8_code 35 = .ok (.getfield 56, 3) := by decide +kernel
theorem d_Gr_addSet_38 : decode prog_3_method_8_code 38 = .ok (.iload 4, 2) := by decide +kernel
theorem d_Gr_addSet_40 : decode prog_3_method_8_code 40 = .ok (.iastore, 1) := by decide +kernel
theorem d_Gr_addSet_41 : decode prog_3_method_8_code 41 = .ok (.aload_n 0, 1) := by decide +kernel
theorem d_Gr_addSet_42 : decode prog_3_method_8_code 42 = .ok (.getfield 22, 3) := by decide +kernel
theorem d_Gr_addSet_45 : decode prog_3_method_8_code 45 = .ok (.aload_n 0, 1) := by decide +kernel
theorem d_Gr_addSet_46 : decode prog_3_method_8_code 46 = .ok (.getfield 56, 3) := by decide +kernel
theorem d_Gr_addSet_49 : decode prog_3_method_8_code 49 = .ok (.iload 5, 2) := by decide +kernel
theorem d_Gr_addSet_51 : decode prog_3_method_8_code 51 = .ok (.iastore, 1) := by decide +kernel
theorem d_Gr_addSet_52 : decode prog_3_method_8_code 52 = .ok (.aload_n 0, 1) := by decide +kernel
theorem d_Gr_addSet_53 : decode prog_3_method_8_code 53 = .ok (.getfield 25, 3) := by decide +kernel
theorem d_Gr_addSet_56 : decode prog_3_method_8_code 56 = .ok (.aload_n 0, 1) := by decide +kernel
theorem d_Gr_addSet_57 : decode prog_3_method_8_code 57 = .ok (.getfield 56, 3) := by decide +kernel
theorem d_Gr_addSet_60 : decode prog_3_method_8_code 60 = .ok (.iconst (-1), 1) := by decide +kernel
theorem d_Gr_addSet_61 : decode prog_3_method_8_code 61 = .ok (.iastore, 1) := by decide +kernel
theorem d_Gr_addSet_62 : decode prog_3_method_8_code 62 = .ok (.aload_n 0, 1) := by decide +kernel
theorem d_Gr_addSet_63 : decode prog_3_method_8_code 63 = .ok (.dup, 1) := by decide +kernel
theorem d_Gr_addSet_64 : decode prog_3_method_8_code 64 = .ok (.getfield 56, 3) := by decide +kernel
theorem d_Gr_addSet_67 : decode prog_3_method_8_code 67 = .ok (.iconst 1, 1) := by decide +kernel
theorem d_Gr_addSet_68 : decode prog_3_method_8_code 68 = .ok (.iadd, 1) := by decide +kernel
theorem d_Gr_addSet_69 : decode prog_3_method_8_code 69 = .ok (.putfield 56, 3) := by decide +kernel
theorem d_Gr_addSet_72 : decode prog_3_method_8_code 72 = .ok (.aload_n 0, 1) := by decide +kernel
theorem d_Gr_addSet_73 : decode prog_3_method_8_code 73 = .ok (.getfield 56, 3) := by decide +kernel
theorem d_Gr_addSet_76 : decode prog_3_method_8_code 76 = .ok (.iconst 1, 1) := by decide +kernel
theorem d_Gr_addSet_77 : decode prog_3_method_8_code 77 = .ok (.isub, 1) := by decide +kernel
theorem d_Gr_addSet_78 : decode prog_3_method_8_code 78 = .ok (.ireturn, 1) := by decide +kernel
set_option maxHeartbeats 4000000 in
set_option maxRecDepth 100000 in
theorem K_Gr_addSet_e {F : FT} (hD : ∀ σ, va_D F.2.2.1 (GW F.2.1 σ)) (hm : F.2.2.2.2.2.2.2.2.2.2.2.2.2.2.1 = 6) (ok : OkF F prog_3_method_8_code "LastSeen$Graves" ({ frames := 0, cells := 0, slots := 0, locals := 0 } : Room)) {Q : Int → SS → Prop} (hQ : RetI F Q) {x1 x2 x3 x4 x5 : Int} {s : SS} (h : Sp_Gr_addSet x1 x2 x3 x4 x5 s Q) : AtS F 0 [(0, .ref (F.2.1.1 9)), (1, vI x1), (2, vI x2), (3, vI x3), (4, vI x4), (5, vI x5)] [] s := by
  unfold Sp_Gr_addSet at h
  refine r_aload_n ok 0 d_Gr_addSet_0 rfl rfl ?_
  refine g_Gr_grave ok d_Gr_addSet_1 ?_
  refine r_aload_n ok 0 d_Gr_addSet_4 rfl rfl ?_
  refine g_Gr_setCount ok d_Gr_addSet_5 ?_
  refine r_iload_n ok 1 d_Gr_addSet_8 rfl rfl ?_
  refine r_iast ok 45 d_Gr_addSet_9 (by decide) rfl h.1 ?_
  replace h := h.2 _ rfl
  generalize sA s 45 (s.1 25) x1 = s1 at h ⊢
  refine r_aload_n ok 0 d_Gr_addSet_10 rfl rfl ?_
  refine g_Gr_low ok d_Gr_addSet_11 ?_
  refine r_aload_n ok 0 d_Gr_addSet_14 rfl rfl ?_
  refine g_Gr_setCount ok d_Gr_addSet_15 ?_
  refine r_iload_n ok 2 d_Gr_addSet_18 rfl rfl ?_
  refine r_iast ok 46 d_Gr_addSet_19 (by decide) rfl h.1 ?_
  replace h := h.2 _ rfl
  generalize sA s1 46 (s1.1 25) x2 = s2 at h ⊢
  refine r_aload_n ok 0 d_Gr_addSet_20 rfl rfl ?_
  refine g_Gr_high ok d_Gr_addSet_21 ?_
  refine r_aload_n ok 0 d_Gr_addSet_24 rfl rfl ?_
  refine g_Gr_setCount ok d_Gr_addSet_25 ?_
  refine r_iload_n ok 3 d_Gr_addSet_28 rfl rfl ?_
  refine r_iast ok 47 d_Gr_addSet_29 (by decide) rfl h.1 ?_
  replace h := h.2 _ rfl
  generalize sA s2 47 (s2.1 25) x3 = s3 at h ⊢
  refine r_aload_n ok 0 d_Gr_addSet_30 rfl rfl ?_
  refine g_Gr_has ok d_Gr_addSet_31 ?_
  refine r_aload_n ok 0 d_Gr_addSet_34 rfl rfl ?_
  refine g_Gr_setCount ok d_Gr_addSet_35 ?_
  refine r_iload ok 4 d_Gr_addSet_38 rfl ?_
  refine r_iast ok 48 d_Gr_addSet_40 (by decide) rfl h.1 ?_
  replace h := h.2 _ rfl
  generalize sA s3 48 (s3.1 25) x4 = s4 at h ⊢
  refine r_aload_n ok 0 d_Gr_addSet_41 rfl rfl ?_
  refine g_Gr_hasNot ok d_Gr_addSet_42 ?_
  refine r_aload_n ok 0 d_Gr_addSet_45 rfl rfl ?_
  refine g_Gr_setCount ok d_Gr_addSet_46 ?_
  refine r_iload ok 5 d_Gr_addSet_49 rfl ?_
  refine r_iast ok 49 d_Gr_addSet_51 (by decide) rfl h.1 ?_
  replace h := h.2 _ rfl
  generalize sA s4 49 (s4.1 25) x5 = s5 at h ⊢
  refine r_aload_n ok 0 d_Gr_addSet_52 rfl rfl ?_
  refine g_Gr_given ok d_Gr_addSet_53 ?_
  refine r_aload_n ok 0 d_Gr_addSet_56 rfl rfl ?_
  refine g_Gr_setCount ok d_Gr_addSet_57 ?_
  refine r_iconst ok (-1) d_Gr_addSet_60 rfl ?_
  refine r_iast ok 50 d_Gr_addSet_61 (by decide) rfl h.1 ?_
  replace h := h.2 _ rfl
  generalize sA s5 50 (s5.1 25) (-1) = s6 at h ⊢
  refine r_aload_n ok 0 d_Gr_addSet_62 rfl rfl ?_
  refine r_dup ok d_Gr_addSet_63 rfl ?_
  refine g_Gr_setCount ok d_Gr_addSet_64 ?_
  refine r_iconst ok 1 d_Gr_addSet_67 rfl ?_
  refine r_iadd ok d_Gr_addSet_68 ?_
  refine p_Gr_setCount ok d_Gr_addSet_69 ?_
  replace h := h _ rfl
  generalize sF s6 25 ((s6.1 25) + 1) = s7 at h ⊢
  refine r_aload_n ok 0 d_Gr_addSet_72 rfl rfl ?_
  refine g_Gr_setCount ok d_Gr_addSet_73 ?_
  refine r_iconst ok 1 d_Gr_addSet_76 rfl ?_
  refine r_isub ok d_Gr_addSet_77 ?_
  exact hQ _ _ _ _ _ (ok_code ok) d_Gr_addSet_78 h
theorem L_Gr_addSet (l : Launch) (G : GE) (A : Nat → Prop) (hD : ∀ σ, va_D A (GW G σ)) {x1 x2 x3 x4 x5 : Int} {s : SS} {Q : Int → SS → Prop} (h : Sp_Gr_addSet x1 x2 x3 x4 x5 s Q) : Met l y_Gr_addSet (Cond.code y_Gr_addSet prog_3_method_8_code 6 (some .int) :: lw_ok) ({ frames := 0, cells := 0, slots := 0, locals := 0 } : Room) (va_Pc [.ref (G.1 9), vI x1, vI x2, vI x3, vI x4, vI x5] (gB G s)) (va_Qi (fun (r : Int32) (s2 : SS) => ∃ x : Int, r = iI x ∧ Q x s2) (fun s2 t => gB G s2 t) A) 0 0 A := by
  refine met_i hD (by decide) ⟨rfl, rfl⟩ (Nat.le_of_ble_eq_true rfl) (lv := [(0, .ref (G.1 9)), (1, vI x1), (2, vI x2), (3, vI x3), (4, vI x4), (5, vI x5)]) rfl (fun F h1 h2 h3 hm ok hQ => ?_)
  subst h1 h2 h3
  have hDF := hD
  exact K_Gr_addSet_e hDF hm ok hQ h
theorem d_LS_set_0 : decode prog_1_method_28_code 0 = .ok (.iload_n 1, 1) := by decide +kernel
theorem d_LS_set_1 : decode prog_1_method_28_code 1 = .ok (.invokestatic 285, 3) := by decide +kernel
theorem d_LS_set_4 : decode prog_1_method_28_code 4 = .ok (.ifCond .ne 5, 3) := by decide +kernel
theorem d_LS_set_7 : decode prog_1_method_28_code 7 = .ok (.iconst (-1), 1) := by decide +kernel
theorem d_LS_set_8 : decode prog_1_method_28_code 8 = .ok (.ireturn, 1) := by decide +kernel
theorem d_LS_set_9 : decode prog_1_method_28_code 9 = .ok (.iload_n 2, 1) := by decide +kernel
theorem d_LS_set_10 : decode prog_1_method_28_code 10 = .ok (.invokestatic 299, 3) := by decide +kernel
theorem d_LS_set_13 : decode prog_1_method_28_code 13 = .ok (.ifCond .eq 15, 3) := by decide +kernel
theorem d_LS_set_16 : decode prog_1_method_28_code 16 = .ok (.iload_n 3, 1) := by decide +kernel
theorem d_LS_set_17 : decode prog_1_method_28_code 17 = .ok (.invokestatic 299, 3) := by decide +kernel
theorem d_LS_set_20 : decode prog_1_method_28_code 20 = .ok (.ifCond .eq 8, 3) := by decide +kernel
theorem d_LS_set_23 : decode prog_1_method_28_code 23 = .ok (.iload_n 2, 1) := by decide +kernel
theorem d_LS_set_24 : decode prog_1_method_28_code 24 = .ok (.iload_n 3, 1) := by decide +kernel
theorem d_LS_set_25 : decode prog_1_method_28_code 25 = .ok (.if_icmp .le 6, 3) := by decide +kernel
theorem d_LS_set_28 : decode prog_1_method_28_code 28 = .ok (.bipush (-2), 2) := by decide +kernel
theorem d_LS_set_30 : decode prog_1_method_28_code 30 = .ok (.ireturn, 1) := by decide +kernel
theorem d_LS_set_31 : decode prog_1_method_28_code 31 = .ok (.iload 4, 2) := by decide +kernel
theorem d_LS_set_33 : decode prog_1_method_28_code 33 = .ok (.iload 5, 2) := by decide +kernel
theorem d_LS_set_35 : decode prog_1_method_28_code 35 = .ok (.invokestatic 302, 3) := by decide +kernel
theorem d_LS_set_38 : decode prog_1_method_28_code 38 = .ok (.ifCond .ne 6, 3) := by decide +kernel
theorem d_LS_set_41 : decode prog_1_method_28_code 41 = .ok (.bipush (-2), 2) := by decide +kernel
theorem d_LS_set_43 : decode prog_1_method_28_code 43 = .ok (.ireturn, 1) := by decide +kernel
theorem d_LS_set_44 : decode prog_1_method_28_code 44 = .ok (.aload_n 0, 1) := by decide +kernel
theorem d_LS_set_45 : decode prog_1_method_28_code 45 = .ok (.getfield 70, 3) := by decide +kernel
theorem d_LS_set_48 : decode prog_1_method_28_code 48 = .ok (.invokevirtual 305, 3) := by decide +kernel
theorem d_LS_set_51 : decode prog_1_method_28_code 51 = .ok (.bipush 8, 2) := by decide +kernel
theorem d_LS_set_53 : decode prog_1_method_28_code 53 = .ok (.if_icmp .lt 6, 3) := by decide +kernel
theorem d_LS_set_56 : decode prog_1_method_28_code 56 = .ok (.bipush (-4), 2) := by decide +kernel
theorem d_LS_set_58 : decode prog_1_method_28_code 58 = .ok (.ireturn, 1) := by decide +kernel
theorem d_LS_set_59 : decode prog_1_method_28_code 59 = .ok (.aload_n 0, 1) := by decide +kernel
theorem d_LS_set_60 : decode prog_1_method_28_code 60 = .ok (.getfield 70, 3) := by decide +kernel
theorem d_LS_set_63 : decode prog_1_method_28_code 63 = .ok (.iload_n 1, 1) := by decide +kernel
theorem d_LS_set_64 : decode prog_1_method_28_code 64 = .ok (.iload_n 2, 1) := by decide +kernel
theorem d_LS_set_65 : decode prog_1_method_28_code 65 = .ok (.iload_n 3, 1) := by decide +kernel
theorem d_LS_set_66 : decode prog_1_method_28_code 66 = .ok (.iload 4, 2) := by decide +kernel
theorem d_LS_set_68 : decode prog_1_method_28_code 68 = .ok (.iload 5, 2) := by decide +kernel
theorem d_LS_set_70 : decode prog_1_method_28_code 70 = .ok (.invokevirtual 308, 3) := by decide +kernel
theorem d_LS_set_73 : decode prog_1_method_28_code 73 = .ok (.ireturn, 1) := by decide +kernel
set_option maxHeartbeats 4000000 in
set_option maxRecDepth 100000 in
theorem K_LS_set_e {F : FT} (hD : ∀ σ, va_D F.2.2.1 (GW F.2.1 σ)) (hm : F.2.2.2.2.2.2.2.2.2.2.2.2.2.2.1 = 6) (ok : OkF F prog_1_method_28_code "LastSeen" ({ frames := 1, cells := 0, slots := 0, locals := 25 } : Room)) {Q : Int → SS → Prop} (hQ : RetI F Q) {x1 x2 x3 x4 x5 : Int} {s : SS} (h : Sp_LS_set x1 x2 x3 x4 x5 s Q) : AtS F 0 [(0, .ref (F.2.1.1 0)), (1, vI x1), (2, vI x2), (3, vI x3), (4, vI x4), (5, vI x5)] [] s := by
  unfold Sp_LS_set at h
  refine r_iload_n ok 1 d_LS_set_0 rfl rfl ?_
  refine r_callSi (As := [vI x1]) (rest := []) ok wl_LS_285 wt_y_Gr_isGrave wn_Gr wc_y_Gr_isGrave (by decide) (by decide) hh_Gr_isGrave (Nat.le_of_ble_eq_true rfl) rfl d_LS_set_1 (L_Gr_isGrave F.1 F.2.1 F.2.2.1 hD h) (fun r2 s1 h => ?_)
  refine r_if_ne ok 9 d_LS_set_4 (by decide) h.1 (fun c => ?_) (fun c => ?_)
  · replace h := h.2.1 c
    refine r_iload_n ok 2 d_LS_set_9 rfl rfl ?_
    refine r_callSi (As := [vI x2]) (rest := []) ok wl_LS_299 wt_y_Gr_isHeight wn_Gr wc_y_Gr_isHeight (by decide) (by decide) hh_Gr_isHeight (Nat.le_of_ble_eq_true rfl) rfl d_LS_set_10 (L_Gr_isHeight F.1 F.2.1 F.2.2.1 hD h) (fun r4 s3 h => ?_)
    refine r_if_eq ok 28 d_LS_set_13 (by decide) h.1 (fun c => ?_) (fun c => ?_)
    · replace h := h.2.1 c
      refine r_bipush ok (-2) d_LS_set_28 (by decide) ?_
      exact hQ _ _ _ _ _ (ok_code ok) d_LS_set_30 h
    · replace h := h.2.2 c
      refine r_iload_n ok 3 d_LS_set_16 rfl rfl ?_
      refine r_callSi (As := [vI x3]) (rest := []) ok wl_LS_299 wt_y_Gr_isHeight wn_Gr wc_y_Gr_isHeight (by decide) (by decide) hh_Gr_isHeight (Nat.le_of_ble_eq_true rfl) rfl d_LS_set_17 (L_Gr_isHeight F.1 F.2.1 F.2.2.1 hD h) (fun r6 s5 h => ?_)
      refine r_if_eq ok 28 d_LS_set_20 (by decide) h.1 (fun c => ?_) (fun c => ?_)
      · replace h := h.2.1 c
        refine r_bipush ok (-2) d_LS_set_28 (by decide) ?_
        exact hQ _ _ _ _ _ (ok_code ok) d_LS_set_30 h
      · replace h := h.2.2 c
        refine r_iload_n ok 2 d_LS_set_23 rfl rfl ?_
        refine r_iload_n ok 3 d_LS_set_24 rfl rfl ?_
        refine r_icmp_le ok 31 d_LS_set_25 (by decide) h.1 h.2.1 (fun c => ?_) (fun c => ?_)
        · replace h := h.2.2.1 c
          refine r_iload ok 4 d_LS_set_31 rfl ?_
          refine r_iload ok 5 d_LS_set_33 rfl ?_
          refine r_callSi (As := [vI x4, vI x5]) (rest := []) ok wl_LS_302 wt_y_Gr_areMarks wn_Gr wc_y_Gr_areMarks (by decide) (by decide) hh_Gr_areMarks (Nat.le_of_ble_eq_true rfl) rfl d_LS_set_35 (L_Gr_areMarks F.1 F.2.1 F.2.2.1 hD h) (fun r8 s7 h => ?_)
          refine r_if_ne ok 44 d_LS_set_38 (by decide) h.1 (fun c => ?_) (fun c => ?_)
          · replace h := h.2.1 c
            refine r_aload_n ok 0 d_LS_set_44 rfl rfl ?_
            refine g_LS_graves ok d_LS_set_45 ?_
            refine r_callVi (As := []) (rest := []) ok 9 rfl rfl rfl wl_LS_305 wi_y_Gr_sets ws_y_Gr_sets wn_Gr wc_y_Gr_sets (by decide) (by decide) hh_Gr_sets (Nat.le_of_ble_eq_true rfl) rfl d_LS_set_48 (L_Gr_sets F.1 F.2.1 F.2.2.1 hD h) (fun r10 s9 h => ?_)
            refine r_bipush ok 8 d_LS_set_51 (by decide) ?_
            refine r_icmp_lt ok 59 d_LS_set_53 (by decide) h.1 (by decide) (fun c => ?_) (fun c => ?_)
            · replace h := h.2.1 c
              refine r_aload_n ok 0 d_LS_set_59 rfl rfl ?_
              refine g_LS_graves ok d_LS_set_60 ?_
              refine r_iload_n ok 1 d_LS_set_63 rfl rfl ?_
              refine r_iload_n ok 2 d_LS_set_64 rfl rfl ?_
              refine r_iload_n ok 3 d_LS_set_65 rfl rfl ?_
              refine r_iload ok 4 d_LS_set_66 rfl ?_
              refine r_iload ok 5 d_LS_set_68 rfl ?_
              refine r_callVi (As := [vI x1, vI x2, vI x3, vI x4, vI x5]) (rest := []) ok 9 rfl rfl rfl wl_LS_308 wi_y_Gr_addSet ws_y_Gr_addSet wn_Gr wc_y_Gr_addSet (by decide) (by decide) hh_Gr_addSet (Nat.le_of_ble_eq_true rfl) rfl d_LS_set_70 (L_Gr_addSet F.1 F.2.1 F.2.2.1 hD h) (fun r12 s11 h => ?_)
              exact hQ _ _ _ _ _ (ok_code ok) d_LS_set_73 h
            · replace h := h.2.2 c
              refine r_bipush ok (-4) d_LS_set_56 (by decide) ?_
              exact hQ _ _ _ _ _ (ok_code ok) d_LS_set_58 h
          · replace h := h.2.2 c
            refine r_bipush ok (-2) d_LS_set_41 (by decide) ?_
            exact hQ _ _ _ _ _ (ok_code ok) d_LS_set_43 h
        · replace h := h.2.2.2 c
          refine r_bipush ok (-2) d_LS_set_28 (by decide) ?_
          exact hQ _ _ _ _ _ (ok_code ok) d_LS_set_30 h
  · replace h := h.2.2 c
    refine r_iconst ok (-1) d_LS_set_7 rfl ?_
    exact hQ _ _ _ _ _ (ok_code ok) d_LS_set_8 h
theorem L_LS_set (l : Launch) (G : GE) (A : Nat → Prop) (hD : ∀ σ, va_D A (GW G σ)) {x1 x2 x3 x4 x5 : Int} {s : SS} {Q : Int → SS → Prop} (h : Sp_LS_set x1 x2 x3 x4 x5 s Q) : Met l y_LS_set (Cond.code y_LS_set prog_1_method_28_code 6 (some .int) :: lw_ok) ({ frames := 1, cells := 0, slots := 0, locals := 25 } : Room) (va_Pc [.ref (G.1 0), vI x1, vI x2, vI x3, vI x4, vI x5] (gB G s)) (va_Qi (fun (r : Int32) (s2 : SS) => ∃ x : Int, r = iI x ∧ Q x s2) (fun s2 t => gB G s2 t) A) 0 0 A := by
  refine met_i hD (by decide) ⟨rfl, rfl⟩ (Nat.le_of_ble_eq_true rfl) (lv := [(0, .ref (G.1 0)), (1, vI x1), (2, vI x2), (3, vI x3), (4, vI x4), (5, vI x5)]) rfl (fun F h1 h2 h3 hm ok hQ => ?_)
  subst h1 h2 h3
  have hDF := hD
  exact K_LS_set_e hDF hm ok hQ h
theorem d_Gr_lostIndex_0 : decode prog_3_method_9_code 0 = .ok (.iconst 0, 1) := by decide +kernel
theorem d_Gr_lostIndex_1 : decode prog_3_method_9_code 1 = .ok (.istore_n 2, 1) := by decide +kernel
theorem d_Gr_lostIndex_2 : decode prog_3_method_9_code 2 = .ok (.iload_n 2, 1) := by decide +kernel
theorem d_Gr_lostIndex_3 : decode prog_3_method_9_code 3 = .ok (.aload_n 0, 1) := by decide +kernel
theorem d_Gr_lostIndex_4 : decode prog_3_method_9_code 4 = .ok (.getfield 60, 3) := by decide +kernel
theorem d_Gr_lostIndex_7 : decode prog_3_method_9_code 7 = .ok (.if_icmp .ge 21, 3) := by decide +kernel
theorem d_Gr_lostIndex_10 : decode prog_3_method_9_code 10 = .ok (.aload_n 0, 1) := by decide +kernel
theorem d_Gr_lostIndex_11 : decode prog_3_method_9_code 11 = .ok (.getfield 31, 3) := by decide +kernel
theorem d_Gr_lostIndex_14 : decode prog_3_method_9_code 14 = .ok (.iload_n 2, 1) := by decide +kernel
theorem d_Gr_lostIndex_15 : decode prog_3_method_9_code 15 = .ok (.iaload, 1) := by decide +kernel
theorem d_Gr_lostIndex_16 : decode prog_3_method_9_code 16 = .ok (.iload_n 1, 1) := by decide +kernel
theorem d_Gr_lostIndex_17 : decode prog_3_method_9_code 17 = .ok (.if_icmp .ne 5, 3) := by decide +kernel
theorem d_Gr_lostIndex_20 : decode prog_3_method_9_code 20 = .ok (.iload_n 2, 1) := by decide +kernel
theorem d_Gr_lostIndex_21 : decode prog_3_method_9_code 21 = .ok (.ireturn, 1) := by decide +kernel
theorem d_Gr_lostIndex_22 : decode prog_3_method_9_code 22 = .ok (.iinc 2 1, 3) := by decide +kernel
theorem d_Gr_lostIndex_25 : decode prog_3_method_9_code 25 = .ok (.goto (-23), 3) := by decide +kernel
theorem d_Gr_lostIndex_28 : decode prog_3_method_9_code 28 = .ok (.iconst (-1), 1) := by decide +kernel
theorem d_Gr_lostIndex_29 : decode prog_3_method_9_code 29 = .ok (.ireturn, 1) := by decide +kernel
set_option maxHeartbeats 4000000 in
set_option maxRecDepth 100000 in
theorem K_Gr_lostIndex_2 {F : FT} (hD : ∀ σ, va_D F.2.2.1 (GW F.2.1 σ)) (hm : F.2.2.2.2.2.2.2.2.2.2.2.2.2.2.1 = 3) (ok : OkF F prog_3_method_9_code "LastSeen$Graves" ({ frames := 0, cells := 0, slots := 0, locals := 0 } : Room)) {Q : Int → SS → Prop} (hQ : RetI F Q) {x1 x2 : Int} {s : SS} (h : B_Gr_lostIndex_2 Q (fun x1 x2 s => AtS F 2 [(0, .ref (F.2.1.1 9)), (1, vI x1), (2, vI x2)] [] s) x1 x2 s) : AtS F 2 [(0, .ref (F.2.1.1 9)), (1, vI x1), (2, vI x2)] [] s := by
  unfold B_Gr_lostIndex_2 at h
  refine r_iload_n ok 2 d_Gr_lostIndex_2 rfl rfl ?_
  refine r_aload_n ok 0 d_Gr_lostIndex_3 rfl rfl ?_
  refine g_Gr_lostCount ok d_Gr_lostIndex_4 ?_
  refine r_icmp_ge ok 28 d_Gr_lostIndex_7 (by decide) h.1 h.2.1 (fun c => ?_) (fun c => ?_)
  · replace h := h.2.2.1 c
    refine r_iconst ok (-1) d_Gr_lostIndex_28 rfl ?_
    exact hQ _ _ _ _ _ (ok_code ok) d_Gr_lostIndex_29 h
  · replace h := h.2.2.2 c
    refine r_aload_n ok 0 d_Gr_lostIndex_10 rfl rfl ?_
    refine g_Gr_lostNames ok d_Gr_lostIndex_11 ?_
    refine r_iload_n ok 2 d_Gr_lostIndex_14 rfl rfl ?_
    refine r_iald ok 52 d_Gr_lostIndex_15 (by decide) rfl h.1 ?_
    replace h := h.2
    refine r_iload_n ok 1 d_Gr_lostIndex_16 rfl rfl ?_
    refine r_icmp_ne ok 22 d_Gr_lostIndex_17 (by decide) h.1 h.2.1 (fun c => ?_) (fun c => ?_)
    · replace h := h.2.2.1 c
      refine r_iinc ok 2 (x2 + 1) [(2, vI (x2 + 1)), (0, .ref (F.2.1.1 9)), (1, vI x1)] d_Gr_lostIndex_22 rfl rfl hm (by decide) rfl ?_
      refine r_goto ok 2 d_Gr_lostIndex_25 (by decide) ?_
      exact r_sub [1, 2, 0] rfl h
    · replace h := h.2.2.2 c
      refine r_iload_n ok 2 d_Gr_lostIndex_20 rfl rfl ?_
      exact hQ _ _ _ _ _ (ok_code ok) d_Gr_lostIndex_21 h
set_option maxHeartbeats 4000000 in
set_option maxRecDepth 100000 in
theorem K_Gr_lostIndex_e {F : FT} (hD : ∀ σ, va_D F.2.2.1 (GW F.2.1 σ)) (hm : F.2.2.2.2.2.2.2.2.2.2.2.2.2.2.1 = 3) (ok : OkF F prog_3_method_9_code "LastSeen$Graves" ({ frames := 0, cells := 0, slots := 0, locals := 0 } : Room)) {Q : Int → SS → Prop} (hQ : RetI F Q) {x1 : Int} {s : SS} (h : B_Gr_lostIndex_e Q (fun x1 x2 s => AtS F 2 [(0, .ref (F.2.1.1 9)), (1, vI x1), (2, vI x2)] [] s) x1 s) : AtS F 0 [(0, .ref (F.2.1.1 9)), (1, vI x1)] [] s := by
  unfold B_Gr_lostIndex_e at h
  refine r_iconst ok 0 d_Gr_lostIndex_0 rfl ?_
  refine r_istore_n ok [(2, vI 0), (0, .ref (F.2.1.1 9)), (1, vI x1)] d_Gr_lostIndex_1 rfl hm (by decide) rfl ?_
  exact r_sub [1, 2, 0] rfl h
theorem L_Gr_lostIndex (l : Launch) (G : GE) (A : Nat → Prop) (hD : ∀ σ, va_D A (GW G σ)) {x1 : Int} {s : SS} {Q : Int → SS → Prop} (h : Sp_Gr_lostIndex x1 s Q) : Met l y_Gr_lostIndex (Cond.code y_Gr_lostIndex prog_3_method_9_code 3 (some .int) :: lw_ok) ({ frames := 0, cells := 0, slots := 0, locals := 0 } : Room) (va_Pc [.ref (G.1 9), vI x1] (gB G s)) (va_Qi (fun (r : Int32) (s2 : SS) => ∃ x : Int, r = iI x ∧ Q x s2) (fun s2 t => gB G s2 t) A) 0 0 A := by
  refine met_i hD (by decide) ⟨rfl, rfl⟩ (Nat.le_of_ble_eq_true rfl) (lv := [(0, .ref (G.1 9)), (1, vI x1)]) rfl (fun F h1 h2 h3 hm ok hQ => ?_)
  subst h1 h2 h3
  have hDF := hD
  exact K_Gr_lostIndex_e hDF hm ok hQ (h _ (fun _ _ _ hb => K_Gr_lostIndex_2 hDF hm ok hQ hb))
theorem d_Gr_lost_0 : decode prog_3_method_6_code 0 = .ok (.aload_n 0, 1) := by decide +kernel
theorem d_Gr_lost_1 : decode prog_3_method_6_code 1 = .ok (.getfield 60, 3) := by decide +kernel
theorem d_Gr_lost_4 : decode prog_3_method_6_code 4 = .ok (.ireturn, 1) := by decide +kernel
set_option maxHeartbeats 4000000 in
set_option maxRecDepth 100000 in
theorem K_Gr_lost_e {F : FT} (hD : ∀ σ, va_D F.2.2.1 (GW F.2.1 σ)) (hm : F.2.2.2.2.2.2.2.2.2.2.2.2.2.2.1 = 1) (ok : OkF F prog_3_method_6_code "LastSeen$Graves" ({ frames := 0, cells := 0, slots := 0, locals := 0 } : Room)) {Q : Int → SS → Prop} (hQ : RetI F Q) {s : SS} (h : Sp_Gr_lost  s Q) : AtS F 0 [(0, .ref (F.2.1.1 9))] [] s := by
  unfold Sp_Gr_lost at h
  refine r_aload_n ok 0 d_Gr_lost_0 rfl rfl ?_
  refine g_Gr_lostCount ok d_Gr_lost_1 ?_
  exact hQ _ _ _ _ _ (ok_code ok) d_Gr_lost_4 h
theorem L_Gr_lost (l : Launch) (G : GE) (A : Nat → Prop) (hD : ∀ σ, va_D A (GW G σ)) {s : SS} {Q : Int → SS → Prop} (h : Sp_Gr_lost  s Q) : Met l y_Gr_lost (Cond.code y_Gr_lost prog_3_method_6_code 1 (some .int) :: lw_ok) ({ frames := 0, cells := 0, slots := 0, locals := 0 } : Room) (va_Pc [.ref (G.1 9)] (gB G s)) (va_Qi (fun (r : Int32) (s2 : SS) => ∃ x : Int, r = iI x ∧ Q x s2) (fun s2 t => gB G s2 t) A) 0 0 A := by
  refine met_i hD (by decide) ⟨rfl, rfl⟩ (Nat.le_of_ble_eq_true rfl) (lv := [(0, .ref (G.1 9))]) rfl (fun F h1 h2 h3 hm ok hQ => ?_)
  subst h1 h2 h3
  have hDF := hD
  exact K_Gr_lost_e hDF hm ok hQ h
theorem d_Gr_addLost_0 : decode prog_3_method_11_code 0 = .ok (.aload_n 0, 1) := by decide +kernel
theorem d_Gr_addLost_1 : decode prog_3_method_11_code 1 = .ok (.getfield 31, 3) := by decide +kernel
theorem d_Gr_addLost_4 : decode prog_3_method_11_code 4 = .ok (.aload_n 0, 1) := by decide +kernel
theorem d_Gr_addLost_5 : decode prog_3_method_11_code 5 = .ok (.getfield 60, 3) := by decide +kernel
theorem d_Gr_addLost_8 : decode prog_3_method_11_code 8 = .ok (.iload_n 1, 1) := by decide +kernel
theorem d_Gr_addLost_9 : decode prog_3_method_11_code 9 = .ok (.iastore, 1) := by decide +kernel
theorem d_Gr_addLost_10 : decode prog_3_method_11_code 10 = .ok (.aload_n 0, 1) := by decide +kernel
theorem d_Gr_addLost_11 : decode prog_3_method_11_code 11 = .ok (.dup, 1) := by decide +kernel
theorem d_Gr_addLost_12 : decode prog_3_method_11_code 12 = .ok (.getfield 60, 3) := by decide +kernel
theorem d_Gr_addLost_15 : decode prog_3_method_11_code 15 = .ok (.iconst 1, 1) := by decide +kernel
theorem d_Gr_addLost_16 : decode prog_3_method_11_code 16 = .ok (.iadd, 1) := by decide +kernel
theorem d_Gr_addLost_17 : decode prog_3_method_11_code 17 = .ok (.putfield 60, 3) := by decide +kernel
theorem d_Gr_addLost_20 : decode prog_3_method_11_code 20 = .ok (.aload_n 0, 1) := by decide +kernel
theorem d_Gr_addLost_21 : decode prog_3_method_11_code 21 = .ok (.getfield 60, 3) := by decide +kernel
theorem d_Gr_addLost_24 : decode prog_3_method_11_code 24 = .ok (.iconst 1, 1) := by decide +kernel
theorem d_Gr_addLost_25 : decode prog_3_method_11_code 25 = .ok (.isub, 1) := by decide +kernel
theorem d_Gr_addLost_26 : decode prog_3_method_11_code 26 = .ok (.ireturn, 1) := by decide +kernel
set_option maxHeartbeats 4000000 in
set_option maxRecDepth 100000 in
theorem K_Gr_addLost_e {F : FT} (hD : ∀ σ, va_D F.2.2.1 (GW F.2.1 σ)) (hm : F.2.2.2.2.2.2.2.2.2.2.2.2.2.2.1 = 2) (ok : OkF F prog_3_method_11_code "LastSeen$Graves" ({ frames := 0, cells := 0, slots := 0, locals := 0 } : Room)) {Q : Int → SS → Prop} (hQ : RetI F Q) {x1 : Int} {s : SS} (h : Sp_Gr_addLost x1 s Q) : AtS F 0 [(0, .ref (F.2.1.1 9)), (1, vI x1)] [] s := by
  unfold Sp_Gr_addLost at h
  refine r_aload_n ok 0 d_Gr_addLost_0 rfl rfl ?_
  refine g_Gr_lostNames ok d_Gr_addLost_1 ?_
  refine r_aload_n ok 0 d_Gr_addLost_4 rfl rfl ?_
  refine g_Gr_lostCount ok d_Gr_addLost_5 ?_
  refine r_iload_n ok 1 d_Gr_addLost_8 rfl rfl ?_
  refine r_iast ok 52 d_Gr_addLost_9 (by decide) rfl h.1 ?_
  replace h := h.2 _ rfl
  generalize sA s 52 (s.1 27) x1 = s1 at h ⊢
  refine r_aload_n ok 0 d_Gr_addLost_10 rfl rfl ?_
  refine r_dup ok d_Gr_addLost_11 rfl ?_
  refine g_Gr_lostCount ok d_Gr_addLost_12 ?_
  refine r_iconst ok 1 d_Gr_addLost_15 rfl ?_
  refine r_iadd ok d_Gr_addLost_16 ?_
  refine p_Gr_lostCount ok d_Gr_addLost_17 ?_
  replace h := h _ rfl
  generalize sF s1 27 ((s1.1 27) + 1) = s2 at h ⊢
  refine r_aload_n ok 0 d_Gr_addLost_20 rfl rfl ?_
  refine g_Gr_lostCount ok d_Gr_addLost_21 ?_
  refine r_iconst ok 1 d_Gr_addLost_24 rfl ?_
  refine r_isub ok d_Gr_addLost_25 ?_
  exact hQ _ _ _ _ _ (ok_code ok) d_Gr_addLost_26 h
theorem L_Gr_addLost (l : Launch) (G : GE) (A : Nat → Prop) (hD : ∀ σ, va_D A (GW G σ)) {x1 : Int} {s : SS} {Q : Int → SS → Prop} (h : Sp_Gr_addLost x1 s Q) : Met l y_Gr_addLost (Cond.code y_Gr_addLost prog_3_method_11_code 2 (some .int) :: lw_ok) ({ frames := 0, cells := 0, slots := 0, locals := 0 } : Room) (va_Pc [.ref (G.1 9), vI x1] (gB G s)) (va_Qi (fun (r : Int32) (s2 : SS) => ∃ x : Int, r = iI x ∧ Q x s2) (fun s2 t => gB G s2 t) A) 0 0 A := by
  refine met_i hD (by decide) ⟨rfl, rfl⟩ (Nat.le_of_ble_eq_true rfl) (lv := [(0, .ref (G.1 9)), (1, vI x1)]) rfl (fun F h1 h2 h3 hm ok hQ => ?_)
  subst h1 h2 h3
  have hDF := hD
  exact K_Gr_addLost_e hDF hm ok hQ h
theorem d_Gr_isTaken_0 : decode prog_3_method_13_code 0 = .ok (.iconst 0, 1) := by decide +kernel
theorem d_Gr_isTaken_1 : decode prog_3_method_13_code 1 = .ok (.istore_n 2, 1) := by decide +kernel
theorem d_Gr_isTaken_2 : decode prog_3_method_13_code 2 = .ok (.iload_n 2, 1) := by decide +kernel
theorem d_Gr_isTaken_3 : decode prog_3_method_13_code 3 = .ok (.aload_n 0, 1) := by decide +kernel
theorem d_Gr_isTaken_4 : decode prog_3_method_13_code 4 = .ok (.getfield 56, 3) := by decide +kernel
theorem d_Gr_isTaken_7 : decode prog_3_method_13_code 7 = .ok (.if_icmp .ge 21, 3) := by decide +kernel
theorem d_Gr_isTaken_10 : decode prog_3_method_13_code 10 = .ok (.aload_n 0, 1) := by decide +kernel
theorem d_Gr_isTaken_11 : decode prog_3_method_13_code 11 = .ok (.getfield 25, 3) := by decide +kernel
theorem d_Gr_isTaken_14 : decode prog_3_method_13_code 14 = .ok (.iload_n 2, 1) := by decide +kernel
theorem d_Gr_isTaken_15 : decode prog_3_method_13_code 15 = .ok (.iaload, 1) := by decide +kernel
theorem d_Gr_isTaken_16 : decode prog_3_method_13_code 16 = .ok (.iload_n 1, 1) := by decide +kernel
theorem d_Gr_isTaken_17 : decode prog_3_method_13_code 17 = .ok (.if_icmp .ne 5, 3) := by decide +kernel
theorem d_Gr_isTaken_20 : decode prog_3_method_13_code 20 = .ok (.iconst 1, 1) := by decide +kernel
theorem d_Gr_isTaken_21 : decode prog_3_method_13_code 21 = .ok (.ireturn, 1) := by decide +kernel
theorem d_Gr_isTaken_22 : decode prog_3_method_13_code 22 = .ok (.iinc 2 1, 3) := by decide +kernel
theorem d_Gr_isTaken_25 : decode prog_3_method_13_code 25 = .ok (.goto (-23), 3) := by decide +kernel
theorem d_Gr_isTaken_28 : decode prog_3_method_13_code 28 = .ok (.iconst 0, 1) := by decide +kernel
theorem d_Gr_isTaken_29 : decode prog_3_method_13_code 29 = .ok (.ireturn, 1) := by decide +kernel
set_option maxHeartbeats 4000000 in
set_option maxRecDepth 100000 in
theorem K_Gr_isTaken_2 {F : FT} (hD : ∀ σ, va_D F.2.2.1 (GW F.2.1 σ)) (hm : F.2.2.2.2.2.2.2.2.2.2.2.2.2.2.1 = 3) (ok : OkF F prog_3_method_13_code "LastSeen$Graves" ({ frames := 0, cells := 0, slots := 0, locals := 0 } : Room)) {Q : Int → SS → Prop} (hQ : RetZ F Q) {x1 x2 : Int} {s : SS} (h : B_Gr_isTaken_2 Q (fun x1 x2 s => AtS F 2 [(0, .ref (F.2.1.1 9)), (1, vI x1), (2, vI x2)] [] s) x1 x2 s) : AtS F 2 [(0, .ref (F.2.1.1 9)), (1, vI x1), (2, vI x2)] [] s := by
  unfold B_Gr_isTaken_2 at h
  refine r_iload_n ok 2 d_Gr_isTaken_2 rfl rfl ?_
  refine r_aload_n ok 0 d_Gr_isTaken_3 rfl rfl ?_
  refine g_Gr_setCount ok d_Gr_isTaken_4 ?_
  refine r_icmp_ge ok 28 d_Gr_isTaken_7 (by decide) h.1 h.2.1 (fun c => ?_) (fun c => ?_)
  · replace h := h.2.2.1 c
    refine r_iconst ok 0 d_Gr_isTaken_28 rfl ?_
    exact hQ _ _ _ _ _ (ok_code ok) d_Gr_isTaken_29 (by decide) h
  · replace h := h.2.2.2 c
    refine r_aload_n ok 0 d_Gr_isTaken_10 rfl rfl ?_
    refine g_Gr_given ok d_Gr_isTaken_11 ?_
    refine r_iload_n ok 2 d_Gr_isTaken_14 rfl rfl ?_
    refine r_iald ok 50 d_Gr_isTaken_15 (by decide) rfl h.1 ?_
    replace h := h.2
    refine r_iload_n ok 1 d_Gr_isTaken_16 rfl rfl ?_
    refine r_icmp_ne ok 22 d_Gr_isTaken_17 (by decide) h.1 h.2.1 (fun c => ?_) (fun c => ?_)
    · replace h := h.2.2.1 c
      refine r_iinc ok 2 (x2 + 1) [(2, vI (x2 + 1)), (0, .ref (F.2.1.1 9)), (1, vI x1)] d_Gr_isTaken_22 rfl rfl hm (by decide) rfl ?_
      refine r_goto ok 2 d_Gr_isTaken_25 (by decide) ?_
      exact r_sub [1, 2, 0] rfl h
    · replace h := h.2.2.2 c
      refine r_iconst ok 1 d_Gr_isTaken_20 rfl ?_
      exact hQ _ _ _ _ _ (ok_code ok) d_Gr_isTaken_21 (by decide) h
set_option maxHeartbeats 4000000 in
set_option maxRecDepth 100000 in
theorem K_Gr_isTaken_e {F : FT} (hD : ∀ σ, va_D F.2.2.1 (GW F.2.1 σ)) (hm : F.2.2.2.2.2.2.2.2.2.2.2.2.2.2.1 = 3) (ok : OkF F prog_3_method_13_code "LastSeen$Graves" ({ frames := 0, cells := 0, slots := 0, locals := 0 } : Room)) {Q : Int → SS → Prop} (hQ : RetZ F Q) {x1 : Int} {s : SS} (h : B_Gr_isTaken_e Q (fun x1 x2 s => AtS F 2 [(0, .ref (F.2.1.1 9)), (1, vI x1), (2, vI x2)] [] s) x1 s) : AtS F 0 [(0, .ref (F.2.1.1 9)), (1, vI x1)] [] s := by
  unfold B_Gr_isTaken_e at h
  refine r_iconst ok 0 d_Gr_isTaken_0 rfl ?_
  refine r_istore_n ok [(2, vI 0), (0, .ref (F.2.1.1 9)), (1, vI x1)] d_Gr_isTaken_1 rfl hm (by decide) rfl ?_
  exact r_sub [1, 2, 0] rfl h
theorem L_Gr_isTaken (l : Launch) (G : GE) (A : Nat → Prop) (hD : ∀ σ, va_D A (GW G σ)) {x1 : Int} {s : SS} {Q : Int → SS → Prop} (h : Sp_Gr_isTaken x1 s Q) : Met l y_Gr_isTaken (Cond.code y_Gr_isTaken prog_3_method_13_code 3 (some .boolean) :: lw_ok) ({ frames := 0, cells := 0, slots := 0, locals := 0 } : Room) (va_Pc [.ref (G.1 9), vI x1] (gB G s)) (va_Qi (fun (r : Int32) (s2 : SS) => ∃ x : Int, r = iI x ∧ Q x s2) (fun s2 t => gB G s2 t) A) 0 0 A := by
  refine met_z hD (by decide) ⟨rfl, rfl⟩ (Nat.le_of_ble_eq_true rfl) (lv := [(0, .ref (G.1 9)), (1, vI x1)]) rfl (fun F h1 h2 h3 hm ok hQ => ?_)
  subst h1 h2 h3
  have hDF := hD
  exact K_Gr_isTaken_e hDF hm ok hQ (h _ (fun _ _ _ hb => K_Gr_isTaken_2 hDF hm ok hQ hb))
end
