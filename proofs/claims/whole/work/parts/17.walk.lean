section
theorem d_Md_count_0 : decode prog_12_method_91_code 0 = .ok (.iconst 0, 1) := by decide +kernel
theorem d_Md_count_1 : decode prog_12_method_91_code 1 = .ok (.istore_n 2, 1) := by decide +kernel
theorem d_Md_count_2 : decode prog_12_method_91_code 2 = .ok (.iload_n 1, 1) := by decide +kernel
theorem d_Md_count_3 : decode prog_12_method_91_code 3 = .ok (.tableswitch 227 0 11 #[61, 66, 71, 115, 120, 133, 138, 143, 177, 182, 187, 222], 61) := by decide +kernel
theorem d_Md_count_64 : decode prog_12_method_91_code 64 = .ok (.aload_n 0, 1) := by decide +kernel
theorem d_Md_count_65 : decode prog_12_method_91_code 65 = .ok (.getfield 198, 3) := by decide +kernel
theorem d_Md_count_68 : decode prog_12_method_91_code 68 = .ok (.ireturn, 1) := by decide +kernel
theorem d_Md_count_69 : decode prog_12_method_91_code 69 = .ok (.aload_n 0, 1) := by decide +kernel
theorem d_Md_count_70 : decode prog_12_method_91_code 70 = .ok (.getfield 179, 3) := by decide +kernel
theorem d_Md_count_73 : decode prog_12_method_91_code 73 = .ok (.ireturn, 1) := by decide +kernel
theorem d_Md_count_74 : decode prog_12_method_91_code 74 = .ok (.aload_n 0, 1) := by decide +kernel
theorem d_Md_count_75 : decode prog_12_method_91_code 75 = .ok (.aload_n 0, 1) := by decide +kernel
theorem d_Md_count_76 : decode prog_12_method_91_code 76 = .ok (.getfield 198, 3) := by decide +kernel
theorem d_Md_count_79 : decode prog_12_method_91_code 79 = .ok (.invokevirtual 266, 3) := by decide +kernel
theorem d_Md_count_82 : decode prog_12_method_91_code 82 = .ok (.iconst 0, 1) := by decide +kernel
theorem d_Md_count_83 : decode prog_12_method_91_code 83 = .ok (.istore_n 3, 1) := by decide +kernel
theorem d_Md_count_84 : decode prog_12_method_91_code 84 = .ok (.iload_n 3, 1) := by decide +kernel
theorem d_Md_count_85 : decode prog_12_method_91_code 85 = .ok (.aload_n 0, 1) := by decide +kernel
theorem d_Md_count_86 : decode prog_12_method_91_code 86 = .ok (.getfield 179, 3) := by decide +kernel
theorem d_Md_count_89 : decode prog_12_method_91_code 89 = .ok (.if_icmp .ge 27, 3) := by decide +kernel
theorem d_Md_count_92 : decode prog_12_method_91_code 92 = .ok (.iload_n 2, 1) := by decide +kernel
theorem d_Md_count_93 : decode prog_12_method_91_code 93 = .ok (.aload_n 0, 1) := by decide +kernel
theorem d_Md_count_94 : decode prog_12_method_91_code 94 = .ok (.getfield 50, 3) := by decide +kernel
theorem d_Md_count_97 : decode prog_12_method_91_code 97 = .ok (.iload_n 3, 1) := by decide +kernel
theorem d_Md_count_98 : decode prog_12_method_91_code 98 = .ok (.iaload, 1) := by decide +kernel
theorem d_Md_count_99 : decode prog_12_method_91_code 99 = .ok (.iload_n 3, 1) := by decide +kernel
theorem d_Md_count_100 : decode prog_12_method_91_code 100 = .ok (.if_icmp .ne 7, 3) := by decide +kernel
theorem d_Md_count_103 : decode prog_12_method_91_code 103 = .ok (.iconst 1, 1) := by decide +kernel
theorem d_Md_count_104 : decode prog_12_method_91_code 104 = .ok (.goto 4, 3) := by decide +kernel
theorem d_Md_count_107 : decode prog_12_method_91_code 107 = .ok (.iconst 0, 1) := by decide +kernel
theorem d_Md_count_108 : decode prog_12_method_91_code 108 = .ok (.iadd, 1) := by decide +kernel
theorem d_Md_count_109 : decode prog_12_method_91_code 109 = .ok (.istore_n 2, 1) := by decide +kernel
theorem d_Md_count_110 : decode prog_12_method_91_code 110 = .ok (.iinc 3 1, 3) := by decide +kernel
theorem d_Md_count_113 : decode prog_12_method_91_code 113 = .ok (.goto (-29), 3) := by decide +kernel
theorem d_Md_count_116 : decode prog_12_method_91_code 116 = .ok (.iload_n 2, 1) := by decide +kernel
theorem d_Md_count_117 : decode prog_12_method_91_code 117 = .ok (.ireturn, 1) := by decide +kernel
theorem d_Md_count_118 : decode prog_12_method_91_code 118 = .ok (.aload_n 0, 1) := by decide +kernel
theorem d_Md_count_119 : decode prog_12_method_91_code 119 = .ok (.getfield 182, 3) := by decide +kernel
theorem d_Md_count_122 : decode prog_12_method_91_code 122 = .ok (.ireturn, 1) := by decide +kernel
theorem d_Md_count_123 : decode prog_12_method_91_code 123 = .ok (.aload_n 0, 1) := by decide +kernel
theorem d_Md_count_124 : decode prog_12_method_91_code 124 = .ok (.aload_n 0, 1) := by decide +kernel
theorem d_Md_count_125 : decode prog_12_method_91_code 125 = .ok (.getfield 198, 3) := by decide +kernel
theorem d_Md_count_128 : decode prog_12_method_91_code 128 = .ok (.invokevirtual 266, 3) := by decide +kernel
theorem d_Md_count_131 : decode prog_12_method_91_code 131 = .ok (.aload_n 0, 1) := by decide +kernel
theorem d_Md_count_132 : decode prog_12_method_91_code 132 = .ok (.invokevirtual 281, 3) := by decide +kernel
theorem d_Md_count_135 : decode prog_12_method_91_code 135 = .ok (.ireturn, 1) := by decide +kernel
theorem d_Md_count_136 : decode prog_12_method_91_code 136 = .ok (.aload_n 0, 1) := by decide +kernel
theorem d_Md_count_137 : decode prog_12_method_91_code 137 = .ok (.getfield 324, 3) := by decide +kernel
theorem d_Md_count_140 : decode prog_12_method_91_code 140 = .ok (.ireturn, 1) := by decide +kernel
theorem d_Md_count_141 : decode prog_12_method_91_code 141 = .ok (.aload_n 0, 1) := by decide +kernel
theorem d_Md_count_142 : decode prog_12_method_91_code 142 = .ok (.getfield 383, 3) := by decide +kernel
theorem d_Md_count_145 : decode prog_12_method_91_code 145 = .ok (.ireturn, 1) := by decide +kernel
theorem d_Md_count_146 : decode prog_12_method_91_code 146 = .ok (.iconst 0, 1) := by decide +kernel
theorem d_Md_count_147 : decode prog_12_method_91_code 147 = .ok (.istore_n 3, 1) := by decide +kernel
theorem d_Md_count_148 : decode prog_12_method_91_code 148 = .ok (.iload_n 3, 1) := by decide +kernel
theorem d_Md_count_149 : decode prog_12_method_91_code 149 = .ok (.aload_n 0, 1) := by decide +kernel
theorem d_Md_count_150 : decode prog_12_method_91_code 150 = .ok (.getfield 383, 3) := by decide +kernel
theorem d_Md_count_153 : decode prog_12_method_91_code 153 = .ok (.if_icmp .ge 25, 3) := by decide +kernel
theorem d_Md_count_156 : decode prog_12_method_91_code 156 = .ok (.iload_n 2, 1) := by decide +kernel
theorem d_Md_count_157 : decode prog_12_method_91_code 157 = .ok (.aload_n 0, 1) := by decide +kernel
theorem d_Md_count_158 : decode prog_12_method_91_code 158 = .ok (.iload_n 3, 1) := by decide +kernel
theorem d_Md_count_159 : decode prog_12_method_91_code 159 = .ok (.invokevirtual 386, 3) := by decide +kernel
theorem d_Md_count_162 : decode prog_12_method_91_code 162 = .ok (.ifCond .eq 7, 3) := by decide +kernel
theorem d_Md_count_165 : decode prog_12_method_91_code 165 = .ok (.iconst 1, 1) := by decide +kernel
theorem d_Md_count_166 : decode prog_12_method_91_code 166 = .ok (.goto 4, 3) := by decide +kernel
theorem d_Md_count_169 : decode prog_12_method_91_code 169 = .ok (.iconst 0, 1) := by decide +kernel
theorem d_Md_count_170 : decode prog_12_method_91_code 170 = .ok (.iadd, 1) := by decide +kernel
theorem d_Md_count_171 : decode prog_12_method_91_code 171 = .ok (.istore_n 2, 1) := by decide +kernel
theorem d_Md_count_172 : decode prog_12_method_91_code 172 = .ok (.iinc 3 1, 3) := by decide +kernel
theorem d_Md_count_175 : decode prog_12_method_91_code 175 = .ok (.goto (-27), 3) := by decide +kernel
theorem d_Md_count_178 : decode prog_12_method_91_code 178 = .ok (.iload_n 2, 1) := by decide +kernel
theorem d_Md_count_179 : decode prog_12_method_91_code 179 = .ok (.ireturn, 1) := by decide +kernel
theorem d_Md_count_180 : decode prog_12_method_91_code 180 = .ok (.aload_n 0, 1) := by decide +kernel
theorem d_Md_count_181 : decode prog_12_method_91_code 181 = .ok (.getfield 401, 3) := by decide +kernel
theorem d_Md_count_184 : decode prog_12_method_91_code 184 = .ok (.ireturn, 1) := by decide +kernel
theorem d_Md_count_185 : decode prog_12_method_91_code 185 = .ok (.aload_n 0, 1) := by decide +kernel
theorem d_Md_count_186 : decode prog_12_method_91_code 186 = .ok (.getfield 411, 3) := by decide +kernel
theorem d_Md_count_189 : decode prog_12_method_91_code 189 = .ok (.ireturn, 1) := by decide +kernel
theorem d_Md_count_190 : decode prog_12_method_91_code 190 = .ok (.iconst 0, 1) := by decide +kernel
theorem d_Md_count_191 : decode prog_12_method_91_code 191 = .ok (.istore_n 3, 1) := by decide +kernel
theorem d_Md_count_192 : decode prog_12_method_91_code 192 = .ok (.iload_n 3, 1) := by decide +kernel
theorem d_Md_count_193 : decode prog_12_method_91_code 193 = .ok (.aload_n 0, 1) := by decide +kernel
theorem d_Md_count_194 : decode prog_12_method_91_code 194 = .ok (.getfield 401, 3) := by decide +kernel
theorem d_Md_count_197 : decode prog_12_method_91_code 197 = .ok (.if_icmp .ge 26, 3) := by decide +kernel
theorem d_Md_count_200 : decode prog_12_method_91_code 200 = .ok (.iload_n 2, 1) := by decide +kernel
theorem d_Md_count_201 : decode prog_12_method_91_code 201 = .ok (.aload_n 0, 1) := by decide +kernel
theorem d_Md_count_202 : decode prog_12_method_91_code 202 = .ok (.getfield 151, 3) := by decide +kernel
theorem d_Md_count_205 : decode prog_12_method_91_code 205 = .ok (.iload_n 3, 1) := by decide +kernel
theorem d_Md_count_206 : decode prog_12_method_91_code 206 = .ok (.iaload, 1) := by decide +kernel
theorem d_Md_count_207 : decode prog_12_method_91_code 207 = .ok (.ifCond .lt 7, 3) := by decide +kernel
theorem d_Md_count_210 : decode prog_12_method_91_code 210 = .ok (.iconst 1, 1) := by decide +kernel
theorem d_Md_count_211 : decode prog_12_method_91_code 211 = .ok (.goto 4, 3) := by decide +kernel
theorem d_Md_count_214 : decode prog_12_method_91_code 214 = .ok (.iconst 0, 1) := by decide +kernel
theorem d_Md_count_215 : decode prog_12_method_91_code 215 = .ok (.iadd, 1) := by decide +kernel
theorem d_Md_count_216 : decode prog_12_method_91_code 216 = .ok (.istore_n 2, 1) := by decide +kernel
theorem d_Md_count_217 : decode prog_12_method_91_code 217 = .ok (.iinc 3 1, 3) := by decide +kernel
theorem d_Md_count_220 : decode prog_12_method_91_code 220 = .ok (.goto (-28), 3) := by decide +kernel
theorem d_Md_count_223 : decode prog_12_method_91_code 223 = .ok (.iload_n 2, 1) := by decide +kernel
theorem d_Md_count_224 : decode prog_12_method_91_code 224 = .ok (.ireturn, 1) := by decide +kernel
theorem d_Md_count_225 : decode prog_12_method_91_code 225 = .ok (.aload_n 0, 1) := by decide +kernel
theorem d_Md_count_226 : decode prog_12_method_91_code 226 = .ok (.getfield 205, 3) := by decide +kernel
theorem d_Md_count_229 : decode prog_12_method_91_code 229 = .ok (.ireturn, 1) := by decide +kernel
theorem d_Md_count_230 : decode prog_12_method_91_code 230 = .ok (.iconst (-1), 1) := by decide +kernel
theorem d_Md_count_231 : decode prog_12_method_91_code 231 = .ok (.ireturn, 1) := by decide +kernel
set_option maxHeartbeats 4000000 in
set_option maxRecDepth 100000 in
theorem K_Md_count_84 {F : FT} (hD : ∀ σ, va_D F.2.2.1 (GW F.2.1 σ)) (hm : F.2.2.2.2.2.2.2.2.2.2.2.2.2.2.1 = 4) (ok : OkF F prog_12_method_91_code "LastSeenModel" ({ frames := 6, cells := 0, slots := 0, locals := 140 } : Room)) {Q : Int → SS → Prop} (hQ : RetI F Q) {x2 x3 : Int} {s : SS} (h : B_Md_count_84 Q (fun x2 x3 s => AtS F 84 [(0, .ref (F.2.1.1 10)), (2, vI x2), (3, vI x3)] [] s) (fun x2 x3 s => AtS F 148 [(0, .ref (F.2.1.1 10)), (2, vI x2), (3, vI x3)] [] s) (fun x2 x3 s => AtS F 192 [(0, .ref (F.2.1.1 10)), (2, vI x2), (3, vI x3)] [] s) x2 x3 s) : AtS F 84 [(0, .ref (F.2.1.1 10)), (2, vI x2), (3, vI x3)] [] s := by
  unfold B_Md_count_84 at h
  refine r_iload_n ok 2 d_Md_count_84 rfl rfl ?_
  refine r_aload_n ok 0 d_Md_count_85 rfl rfl ?_
  refine g_Md_names ok d_Md_count_86 ?_
  refine r_icmp_ge ok 116 d_Md_count_89 (by decide) h.1 h.2.1 (fun c => ?_) (fun c => ?_)
  · replace h := h.2.2.1 c
    refine r_iload_n ok 1 d_Md_count_116 rfl rfl ?_
    exact hQ _ _ _ _ _ (ok_code ok) d_Md_count_117 h
  · replace h := h.2.2.2 c
    refine r_iload_n ok 1 d_Md_count_92 rfl rfl ?_
    refine r_aload_n ok 0 d_Md_count_93 rfl rfl ?_
    refine g_Md_person ok d_Md_count_94 ?_
    refine r_iload_n ok 2 d_Md_count_97 rfl rfl ?_
    refine r_iald ok 72 d_Md_count_98 (by decide) rfl h.1 ?_
    replace h := h.2
    refine r_iload_n ok 2 d_Md_count_99 rfl rfl ?_
    refine r_icmp_ne ok 107 d_Md_count_100 (by decide) h.1 h.2.1 (fun c => ?_) (fun c => ?_)
    · replace h := h.2.2.1 c
      refine r_iconst ok 0 d_Md_count_107 rfl ?_
      refine r_iadd ok d_Md_count_108 ?_
      refine r_istore_n ok [(2, vI (x2 + 0)), (0, .ref (F.2.1.1 10)), (3, vI x3)] d_Md_count_109 rfl hm (by decide) rfl ?_
      refine r_iinc ok 2 (x3 + 1) [(3, vI (x3 + 1)), (2, vI (x2 + 0)), (0, .ref (F.2.1.1 10))] d_Md_count_110 rfl rfl hm (by decide) rfl ?_
      refine r_goto ok 84 d_Md_count_113 (by decide) ?_
      exact r_sub [2, 1, 0] rfl h
    · replace h := h.2.2.2 c
      refine r_iconst ok 1 d_Md_count_103 rfl ?_
      refine r_goto ok 108 d_Md_count_104 (by decide) ?_
      refine r_iadd ok d_Md_count_108 ?_
      refine r_istore_n ok [(2, vI (x2 + 1)), (0, .ref (F.2.1.1 10)), (3, vI x3)] d_Md_count_109 rfl hm (by decide) rfl ?_
      refine r_iinc ok 2 (x3 + 1) [(3, vI (x3 + 1)), (2, vI (x2 + 1)), (0, .ref (F.2.1.1 10))] d_Md_count_110 rfl rfl hm (by decide) rfl ?_
      refine r_goto ok 84 d_Md_count_113 (by decide) ?_
      exact r_sub [2, 1, 0] rfl h
set_option maxHeartbeats 4000000 in
set_option maxRecDepth 100000 in
theorem K_Md_count_148 {F : FT} (hD : ∀ σ, va_D F.2.2.1 (GW F.2.1 σ)) (hm : F.2.2.2.2.2.2.2.2.2.2.2.2.2.2.1 = 4) (ok : OkF F prog_12_method_91_code "LastSeenModel" ({ frames := 6, cells := 0, slots := 0, locals := 140 } : Room)) {Q : Int → SS → Prop} (hQ : RetI F Q) {x2 x3 : Int} {s : SS} (h : B_Md_count_148 Q (fun x2 x3 s => AtS F 84 [(0, .ref (F.2.1.1 10)), (2, vI x2), (3, vI x3)] [] s) (fun x2 x3 s => AtS F 148 [(0, .ref (F.2.1.1 10)), (2, vI x2), (3, vI x3)] [] s) (fun x2 x3 s => AtS F 192 [(0, .ref (F.2.1.1 10)), (2, vI x2), (3, vI x3)] [] s) x2 x3 s) : AtS F 148 [(0, .ref (F.2.1.1 10)), (2, vI x2), (3, vI x3)] [] s := by
  unfold B_Md_count_148 at h
  refine r_iload_n ok 2 d_Md_count_148 rfl rfl ?_
  refine r_aload_n ok 0 d_Md_count_149 rfl rfl ?_
  refine g_Md_findings ok d_Md_count_150 ?_
  refine r_icmp_ge ok 178 d_Md_count_153 (by decide) h.1 h.2.1 (fun c => ?_) (fun c => ?_)
  · replace h := h.2.2.1 c
    refine r_iload_n ok 1 d_Md_count_178 rfl rfl ?_
    exact hQ _ _ _ _ _ (ok_code ok) d_Md_count_179 h
  · replace h := h.2.2.2 c
    refine r_iload_n ok 1 d_Md_count_156 rfl rfl ?_
    refine r_aload_n ok 0 d_Md_count_157 rfl rfl ?_
    refine r_iload_n ok 2 d_Md_count_158 rfl rfl ?_
    refine r_callVi (As := [vI x3]) (rest := [vI x2]) ok 10 rfl rfl rfl wl_Md_386 wi_y_Md_isHeld ws_y_Md_isHeld wn_Md wc_y_Md_isHeld (by decide) (by decide) hh_Md_isHeld (Nat.le_of_ble_eq_true rfl) rfl d_Md_count_159 (L_Md_isHeld F.1 F.2.1 F.2.2.1 hD h) (fun r6 s5 h => ?_)
    refine r_if_eq ok 169 d_Md_count_162 (by decide) h.1 (fun c => ?_) (fun c => ?_)
    · replace h := h.2.1 c
      refine r_iconst ok 0 d_Md_count_169 rfl ?_
      refine r_iadd ok d_Md_count_170 ?_
      refine r_istore_n ok [(2, vI (x2 + 0)), (0, .ref (F.2.1.1 10)), (3, vI x3)] d_Md_count_171 rfl hm (by decide) rfl ?_
      refine r_iinc ok 2 (x3 + 1) [(3, vI (x3 + 1)), (2, vI (x2 + 0)), (0, .ref (F.2.1.1 10))] d_Md_count_172 rfl rfl hm (by decide) rfl ?_
      refine r_goto ok 148 d_Md_count_175 (by decide) ?_
      exact r_sub [2, 1, 0] rfl h
    · replace h := h.2.2 c
      refine r_iconst ok 1 d_Md_count_165 rfl ?_
      refine r_goto ok 170 d_Md_count_166 (by decide) ?_
      refine r_iadd ok d_Md_count_170 ?_
      refine r_istore_n ok [(2, vI (x2 + 1)), (0, .ref (F.2.1.1 10)), (3, vI x3)] d_Md_count_171 rfl hm (by decide) rfl ?_
      refine r_iinc ok 2 (x3 + 1) [(3, vI (x3 + 1)), (2, vI (x2 + 1)), (0, .ref (F.2.1.1 10))] d_Md_count_172 rfl rfl hm (by decide) rfl ?_
      refine r_goto ok 148 d_Md_count_175 (by decide) ?_
      exact r_sub [2, 1, 0] rfl h
set_option maxHeartbeats 4000000 in
set_option maxRecDepth 100000 in
theorem K_Md_count_192 {F : FT} (hD : ∀ σ, va_D F.2.2.1 (GW F.2.1 σ)) (hm : F.2.2.2.2.2.2.2.2.2.2.2.2.2.2.1 = 4) (ok : OkF F prog_12_method_91_code "LastSeenModel" ({ frames := 6, cells := 0, slots := 0, locals := 140 } : Room)) {Q : Int → SS → Prop} (hQ : RetI F Q) {x2 x3 : Int} {s : SS} (h : B_Md_count_192 Q (fun x2 x3 s => AtS F 84 [(0, .ref (F.2.1.1 10)), (2, vI x2), (3, vI x3)] [] s) (fun x2 x3 s => AtS F 148 [(0, .ref (F.2.1.1 10)), (2, vI x2), (3, vI x3)] [] s) (fun x2 x3 s => AtS F 192 [(0, .ref (F.2.1.1 10)), (2, vI x2), (3, vI x3)] [] s) x2 x3 s) : AtS F 192 [(0, .ref (F.2.1.1 10)), (2, vI x2), (3, vI x3)] [] s := by
  unfold B_Md_count_192 at h
  refine r_iload_n ok 2 d_Md_count_192 rfl rfl ?_
  refine r_aload_n ok 0 d_Md_count_193 rfl rfl ?_
  refine g_Md_sets ok d_Md_count_194 ?_
  refine r_icmp_ge ok 223 d_Md_count_197 (by decide) h.1 h.2.1 (fun c => ?_) (fun c => ?_)
  · replace h := h.2.2.1 c
    refine r_iload_n ok 1 d_Md_count_223 rfl rfl ?_
    exact hQ _ _ _ _ _ (ok_code ok) d_Md_count_224 h
  · replace h := h.2.2.2 c
    refine r_iload_n ok 1 d_Md_count_200 rfl rfl ?_
    refine r_aload_n ok 0 d_Md_count_201 rfl rfl ?_
    refine g_Md_given ok d_Md_count_202 ?_
    refine r_iload_n ok 2 d_Md_count_205 rfl rfl ?_
    refine r_iald ok 104 d_Md_count_206 (by decide) rfl h.1 ?_
    replace h := h.2
    refine r_if_lt ok 214 d_Md_count_207 (by decide) h.1 (fun c => ?_) (fun c => ?_)
    · replace h := h.2.1 c
      refine r_iconst ok 0 d_Md_count_214 rfl ?_
      refine r_iadd ok d_Md_count_215 ?_
      refine r_istore_n ok [(2, vI (x2 + 0)), (0, .ref (F.2.1.1 10)), (3, vI x3)] d_Md_count_216 rfl hm (by decide) rfl ?_
      refine r_iinc ok 2 (x3 + 1) [(3, vI (x3 + 1)), (2, vI (x2 + 0)), (0, .ref (F.2.1.1 10))] d_Md_count_217 rfl rfl hm (by decide) rfl ?_
      refine r_goto ok 192 d_Md_count_220 (by decide) ?_
      exact r_sub [2, 1, 0] rfl h
    · replace h := h.2.2 c
      refine r_iconst ok 1 d_Md_count_210 rfl ?_
      refine r_goto ok 215 d_Md_count_211 (by decide) ?_
      refine r_iadd ok d_Md_count_215 ?_
      refine r_istore_n ok [(2, vI (x2 + 1)), (0, .ref (F.2.1.1 10)), (3, vI x3)] d_Md_count_216 rfl hm (by decide) rfl ?_
      refine r_iinc ok 2 (x3 + 1) [(3, vI (x3 + 1)), (2, vI (x2 + 1)), (0, .ref (F.2.1.1 10))] d_Md_count_217 rfl rfl hm (by decide) rfl ?_
      refine r_goto ok 192 d_Md_count_220 (by decide) ?_
      exact r_sub [2, 1, 0] rfl h
set_option maxHeartbeats 4000000 in
set_option maxRecDepth 100000 in
theorem K_Md_count_e {F : FT} (hD : ∀ σ, va_D F.2.2.1 (GW F.2.1 σ)) (hm : F.2.2.2.2.2.2.2.2.2.2.2.2.2.2.1 = 4) (ok : OkF F prog_12_method_91_code "LastSeenModel" ({ frames := 6, cells := 0, slots := 0, locals := 140 } : Room)) {Q : Int → SS → Prop} (hQ : RetI F Q) {x1 : Int} {s : SS} (h : B_Md_count_e Q (fun x2 x3 s => AtS F 84 [(0, .ref (F.2.1.1 10)), (2, vI x2), (3, vI x3)] [] s) (fun x2 x3 s => AtS F 148 [(0, .ref (F.2.1.1 10)), (2, vI x2), (3, vI x3)] [] s) (fun x2 x3 s => AtS F 192 [(0, .ref (F.2.1.1 10)), (2, vI x2), (3, vI x3)] [] s) x1 s) : AtS F 0 [(0, .ref (F.2.1.1 10)), (1, vI x1)] [] s := by
  unfold B_Md_count_e at h
  refine r_iconst ok 0 d_Md_count_0 rfl ?_
  refine r_istore_n ok [(2, vI 0), (0, .ref (F.2.1.1 10)), (1, vI x1)] d_Md_count_1 rfl hm (by decide) rfl ?_
  refine r_iload_n ok 2 d_Md_count_2 rfl rfl ?_
  have hx := h.1
  replace h := h.2
  rcases Decidable.em (x1 = 0) with c0 | c0
  · replace h := h.1 c0
    refine r_tblIn ok 0 64 d_Md_count_3 hx c0 (by decide) rfl (by decide) ?_
    refine r_aload_n ok 1 d_Md_count_64 rfl rfl ?_
    refine g_Md_entries ok d_Md_count_65 ?_
    exact hQ _ _ _ _ _ (ok_code ok) d_Md_count_68 h
  replace h := h.2
  rcases Decidable.em (x1 = 1) with c1 | c1
  · replace h := h.1 c1
    refine r_tblIn ok 1 69 d_Md_count_3 hx c1 (by decide) rfl (by decide) ?_
    refine r_aload_n ok 1 d_Md_count_69 rfl rfl ?_
    refine g_Md_names ok d_Md_count_70 ?_
    exact hQ _ _ _ _ _ (ok_code ok) d_Md_count_73 h
  replace h := h.2
  rcases Decidable.em (x1 = 2) with c2 | c2
  · replace h := h.1 c2
    refine r_tblIn ok 2 74 d_Md_count_3 hx c2 (by decide) rfl (by decide) ?_
    refine r_aload_n ok 1 d_Md_count_74 rfl rfl ?_
    refine r_aload_n ok 1 d_Md_count_75 rfl rfl ?_
    refine g_Md_entries ok d_Md_count_76 ?_
    refine r_callVv (As := [vI (s.1 29)]) (rest := []) ok 10 rfl rfl rfl wl_Md_266 wi_y_Md_looks ws_y_Md_looks wn_Md wc_y_Md_looks (by decide) (by decide) hh_Md_looks (Nat.le_of_ble_eq_true rfl) rfl d_Md_count_79 (L_Md_looks F.1 F.2.1 F.2.2.1 hD h) (fun s1 h => ?_)
    refine r_iconst ok 0 d_Md_count_82 rfl ?_
    refine r_istore_n ok [(3, vI 0), (2, vI 0), (0, .ref (F.2.1.1 10)), (1, vI x1)] d_Md_count_83 rfl hm (by decide) rfl ?_
    exact r_sub [2, 1, 0] rfl h
  replace h := h.2
  rcases Decidable.em (x1 = 3) with c3 | c3
  · replace h := h.1 c3
    refine r_tblIn ok 3 118 d_Md_count_3 hx c3 (by decide) rfl (by decide) ?_
    refine r_aload_n ok 1 d_Md_count_118 rfl rfl ?_
    refine g_Md_words ok d_Md_count_119 ?_
    exact hQ _ _ _ _ _ (ok_code ok) d_Md_count_122 h
  replace h := h.2
  rcases Decidable.em (x1 = 4) with c4 | c4
  · replace h := h.1 c4
    refine r_tblIn ok 4 123 d_Md_count_3 hx c4 (by decide) rfl (by decide) ?_
    refine r_aload_n ok 1 d_Md_count_123 rfl rfl ?_
    refine r_aload_n ok 1 d_Md_count_124 rfl rfl ?_
    refine g_Md_entries ok d_Md_count_125 ?_
    refine r_callVv (As := [vI (s.1 29)]) (rest := []) ok 10 rfl rfl rfl wl_Md_266 wi_y_Md_looks ws_y_Md_looks wn_Md wc_y_Md_looks (by decide) (by decide) hh_Md_looks (Nat.le_of_ble_eq_true rfl) rfl d_Md_count_128 (L_Md_looks F.1 F.2.1 F.2.2.1 hD h) (fun s2 h => ?_)
    refine r_aload_n ok 1 d_Md_count_131 rfl rfl ?_
    refine r_callVi (As := []) (rest := []) ok 10 rfl rfl rfl wl_Md_281 wi_y_Md_standing ws_y_Md_standing wn_Md wc_y_Md_standing (by decide) (by decide) hh_Md_standing (Nat.le_of_ble_eq_true rfl) rfl d_Md_count_132 (L_Md_standing F.1 F.2.1 F.2.2.1 hD h) (fun r4 s3 h => ?_)
    exact hQ _ _ _ _ _ (ok_code ok) d_Md_count_135 h
  replace h := h.2
  rcases Decidable.em (x1 = 5) with c5 | c5
  · replace h := h.1 c5
    refine r_tblIn ok 5 136 d_Md_count_3 hx c5 (by decide) rfl (by decide) ?_
    refine r_aload_n ok 1 d_Md_count_136 rfl rfl ?_
    refine g_Md_rules ok d_Md_count_137 ?_
    exact hQ _ _ _ _ _ (ok_code ok) d_Md_count_140 h
  replace h := h.2
  rcases Decidable.em (x1 = 6) with c6 | c6
  · replace h := h.1 c6
    refine r_tblIn ok 6 141 d_Md_count_3 hx c6 (by decide) rfl (by decide) ?_
    refine r_aload_n ok 1 d_Md_count_141 rfl rfl ?_
    refine g_Md_findings ok d_Md_count_142 ?_
    exact hQ _ _ _ _ _ (ok_code ok) d_Md_count_145 h
  replace h := h.2
  rcases Decidable.em (x1 = 7) with c7 | c7
  · replace h := h.1 c7
    refine r_tblIn ok 7 146 d_Md_count_3 hx c7 (by decide) rfl (by decide) ?_
    refine r_iconst ok 0 d_Md_count_146 rfl ?_
    refine r_istore_n ok [(3, vI 0), (2, vI 0), (0, .ref (F.2.1.1 10)), (1, vI x1)] d_Md_count_147 rfl hm (by decide) rfl ?_
    exact r_sub [2, 1, 0] rfl h
  replace h := h.2
  rcases Decidable.em (x1 = 8) with c8 | c8
  · replace h := h.1 c8
    refine r_tblIn ok 8 180 d_Md_count_3 hx c8 (by decide) rfl (by decide) ?_
    refine r_aload_n ok 1 d_Md_count_180 rfl rfl ?_
    refine g_Md_sets ok d_Md_count_181 ?_
    exact hQ _ _ _ _ _ (ok_code ok) d_Md_count_184 h
  replace h := h.2
  rcases Decidable.em (x1 = 9) with c9 | c9
  · replace h := h.1 c9
    refine r_tblIn ok 9 185 d_Md_count_3 hx c9 (by decide) rfl (by decide) ?_
    refine r_aload_n ok 1 d_Md_count_185 rfl rfl ?_
    refine g_Md_missed ok d_Md_count_186 ?_
    exact hQ _ _ _ _ _ (ok_code ok) d_Md_count_189 h
  replace h := h.2
  rcases Decidable.em (x1 = 10) with c10 | c10
  · replace h := h.1 c10
    refine r_tblIn ok 10 190 d_Md_count_3 hx c10 (by decide) rfl (by decide) ?_
    refine r_iconst ok 0 d_Md_count_190 rfl ?_
    refine r_istore_n ok [(3, vI 0), (2, vI 0), (0, .ref (F.2.1.1 10)), (1, vI x1)] d_Md_count_191 rfl hm (by decide) rfl ?_
    exact r_sub [2, 1, 0] rfl h
  replace h := h.2
  rcases Decidable.em (x1 = 11) with c11 | c11
  · replace h := h.1 c11
    refine r_tblIn ok 11 225 d_Md_count_3 hx c11 (by decide) rfl (by decide) ?_
    refine r_aload_n ok 1 d_Md_count_225 rfl rfl ?_
    refine g_Md_taped ok d_Md_count_226 ?_
    exact hQ _ _ _ _ _ (ok_code ok) d_Md_count_229 h
  replace h := h.2
  replace h := h c0 c1 c2 c3 c4 c5 c6 c7 c8 c9 c10 c11
  refine r_tblOut ok 230 d_Md_count_3 hx (by omega) (by decide) ?_
  refine r_iconst ok (-1) d_Md_count_230 rfl ?_
  exact hQ _ _ _ _ _ (ok_code ok) d_Md_count_231 h
theorem L_Md_count (l : Launch) (G : GE) (A : Nat → Prop) (hD : ∀ σ, va_D A (GW G σ)) {x1 : Int} {s : SS} {Q : Int → SS → Prop} (h : Sp_Md_count x1 s Q) : Met l y_Md_count (Cond.code y_Md_count prog_12_method_91_code 4 (some .int) :: lw_ok) ({ frames := 6, cells := 0, slots := 0, locals := 140 } : Room) (va_Pc [.ref (G.1 10), vI x1] (gB G s)) (va_Qi (fun (r : Int32) (s2 : SS) => ∃ x : Int, r = iI x ∧ Q x s2) (fun s2 t => gB G s2 t) A) 0 0 A := by
  refine met_i hD (by decide) ⟨rfl, rfl⟩ (Nat.le_of_ble_eq_true rfl) (lv := [(0, .ref (G.1 10)), (1, vI x1)]) rfl (fun F h1 h2 h3 hm ok hQ => ?_)
  subst h1 h2 h3
  have hDF := hD
  exact K_Md_count_e hDF hm ok hQ (h _ _ _ (fun _ _ _ hb => K_Md_count_84 hDF hm ok hQ hb) (fun _ _ _ hb => K_Md_count_148 hDF hm ok hQ hb) (fun _ _ _ hb => K_Md_count_192 hDF hm ok hQ hb))
end
