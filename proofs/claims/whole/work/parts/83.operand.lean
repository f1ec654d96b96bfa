section
/-! RULES, the model's operand and when -/
def fO (k0 : Int) (s s' : SS) : Prop := frm [40, 41, 42, 43] [87, 92] s s' ∧ ∀ x, x < 600 * s.1 39 + k0 → s'.2 87 x = s.2 87 x
theorem fO_rf (k0 : Int) (s : SS) : fO k0 s s := ⟨frm_rf _ _ _, fun _ _ => rfl⟩
theorem fO_tr {k0 : Int} {s t u : SS} (h : fO k0 s t) (g : fO k0 t u) : fO k0 s u := ⟨frm_tr h.1 g.1, fun x hx => by rw [g.2 x (by rw [h.1.1 39 rfl]; exact hx), h.2 x hx]⟩
def jS (c0 k0 : Int) (s0 s : SS) (n : Nat) (ops : List Int) : Prop := rep (s.2 92) (s.1 43) ops ∧ k0 ≤ s.1 41 ∧ ∀ F : Int → Int, ∃ (t : Bool) (gs : GpS) (vs : List Bool), TX F (tpx s0) c0 (s.1 40) t gs ∧ RN F (cd s) k0 (s.1 41) vs ∧ CC n ops t gs vs ∧ (gs.length : Int) = s.1 42 + 1
theorem pF_O {k0 : Int} {s0 s s' : SS} (h : pF s0 s) (g : fO k0 s s') : pF s0 s' := frm_tr h (frm_mono g.1 (by decide) (by decide))
theorem cd_up {s s' : SS} {w v : Int} (h39 : s'.1 39 = s.1 39) (h : s'.2 87 = updF (s.2 87) (600 * s.1 39 + w) v) (j : Int) : cd s' j = if j = w then v else cd s j := by
  unfold cd
  rw [h39, h]
  by_cases e : j = w
  · rw [if_pos e, e, updF_s]
  · rw [if_neg e, updF_n _ _ (by omega)]
theorem Md_operand_ok {p : Int × Int} {N c0 k0 : Int} {ops : List Int} {s0 s : SS} {Q : Int → SS → Prop} (h0 : txO s0) (hp : pI s0 s) (hr : rE p N s0 s) (hj : jS c0 k0 s0 s 1 ops)
    (hbad : ∀ s', pI s0 s' → fO k0 s s' → pBad p s0 s' → Q 0 s')
    (hgood : ∀ s', pI s0 s' → fO k0 s s' → rD p N s0 s' → (dg10 (tpx s0 (s'.1 40)) ∨ ∃ ops', jS c0 k0 s0 s' 2 ops') → s.1 40 < s'.1 40 → Q 1 s') : Sp_Md_operand s Q := by
  intro X0 X41 X147 X197 g0 g41 g147 g197
  obtain ⟨t1, t2, t3⟩ := id h0
  have key : ∀ (t : Nat) (ops : List Int) (s1 : SS), s0.1 30 - s1.1 40 < t → pI s0 s1 → fO k0 s s1 → rE p N s0 s1 → jS c0 k0 s0 s1 1 ops → s.1 40 ≤ s1.1 40 → X0 s1 := by
    intro t
    induction t with
    | zero => intro ops s1 a b; have := b.2.1; omega
    | succ t ih =>
      intro ops s1 ht hp1 hf1 hr1 hj1 hge
      obtain ⟨p1, p2, p3, p4, p5, p6⟩ := id hp1
      obtain ⟨j1, j2, j3⟩ := id hj1
      have e39 : s1.1 39 = s0.1 39 := p1.1 39 rfl
      have hb := t3 (s1.1 40)
      have rc : rng (tpx s0 (s1.1 40)) := ⟨by omega, by omega⟩
      have hl := rep_len j1
      have hst := rE_st hr1
      -- the signs that wait
      have push : ∀ y0 : Int, (y0 = 0 ∧ tpx s0 (s1.1 40) = 33) ∨ (y0 = 9 ∧ tpx s0 (s1.1 40) = 40) → X41 y0 (s1.1 43) s1 := by
        intro y0 hy
        have hin := tp_in (s0 := s0) (i := s1.1 40) (by omega)
        refine g41 _ _ _ ⟨⟨by omega, by omega⟩, fun s23 h23 s24 h24 => ?_⟩
        have f24 : frm [43] [92] s1 s24 := by rw [h24, h23]; exact frm_tr (frm_A _ _ _ (by decide)) (frm_F _ _ (by decide))
        have k40 : s24.1 40 = s1.1 40 := f24.1 40 rfl
        refine sg_ok h0 (frm_tr p1 (frm_mono f24 (by decide) (by decide))) (by omega) ?_
        rw [k40]
        have k42 : s24.1 42 = s1.1 42 := f24.1 42 rfl
        have k43 : s24.1 43 = s1.1 43 + 1 := by rw [h24, sF_s, h23, sA_1]
        have k92 : s24.2 92 = updF (s1.2 92) (s1.1 43) y0 := by rw [h24, sF_2, h23, sA_u]
        have hw : ∀ x, 0 ≤ x → x < s1.1 43 → updF (s1.2 92) (s1.1 43) y0 x = s1.2 92 x := fun x _ x1 => updF_n _ _ (by omega)
        have nxt : ∀ (d : Int) (s28 : SS), s28 = sF (sF s24 42 (s24.1 42 + d)) 40 ((sF s24 42 (s24.1 42 + d)).1 40 + 1) → (y0 = 0 ∧ d = 0 ∨ y0 = 9 ∧ d = 1) → X0 s28 := by
          intro d s28 h28 hd
          have m40 : s28.1 40 = s1.1 40 + 1 := by rw [h28, sF_s, sF_n _ _ (by decide), k40]
          have m42 : s28.1 42 = s1.1 42 + d := by rw [h28, sF_n _ _ (by decide), sF_s, k42]
          have m43 : s28.1 43 = s1.1 43 + 1 := by rw [h28, sF_n _ _ (by decide), sF_n _ _ (by decide), k43]
          have m2 : s28.2 = s24.2 := by rw [h28]; rfl
          have f28 : frm [40, 42, 43] [92] s1 s28 := by
            rw [h28]
            exact frm_tr (frm_tr (frm_mono f24 (by decide) (by decide)) (frm_F _ _ (by decide))) (frm_F _ _ (by decide))
          have m41 : s28.1 41 = s1.1 41 := f28.1 41 rfl
          have mcd : cd s28 = cd s1 := by funext j; unfold cd; rw [f28.1 39 rfl, f28.2 87 rfl]
          have mr : rA p s0 s28 = aft (rA p s0 s1) (tpx s0 (s1.1 40)) := rA_s p2.1 m40
          have ma := rE_a hr1 (show ¬ lt7 (tpx s0 (s1.1 40)) by omega)
          refine ih (y0 :: ops) s28 (by omega) ⟨frm_tr p1 (frm_mono f28 (by decide) (by decide)), by omega, by omega, by omega, by omega, by omega⟩ (fO_tr hf1 ⟨frm_mono f28 (by decide) (by decide), fun x _ => by rw [f28.2 87 rfl]⟩) ?_ ⟨?_, by omega, fun F => ?_⟩ (by omega)
          · rcases hy with ⟨q1, q2⟩ | ⟨q1, q2⟩
            · have e : cfO (rA p s0 s1) (tpx s0 (s1.1 40)) = (Cf.of 1 (rA p s0 s1).dp (rA p s0 s1).cl (rA p s0 s1).dg (rA p s0 s1).sz) := by unfold cfO; rw [if_pos q2]
              unfold rE
              rw [mr, ma, e]
              exact ⟨by show (rA p s0 s1).dp = _; have := hr1.1; omega, hr1.2.1, Or.inl rfl⟩
            · have e : cfO (rA p s0 s1) (tpx s0 (s1.1 40)) = (Cf.of 1 ((rA p s0 s1).dp + 1) (rA p s0 s1).cl (rA p s0 s1).dg (rA p s0 s1).sz) := by unfold cfO; rw [if_neg (by omega), if_pos q2]
              unfold rE
              rw [mr, ma, e]
              exact ⟨by show (rA p s0 s1).dp + 1 = _; have := hr1.1; omega, hr1.2.1, Or.inl rfl⟩
          · rw [m2, m43, k92]
            refine ⟨by rw [show s1.1 43 + 1 - 1 = s1.1 43 by omega, updF_s], by omega, ?_⟩
            rw [show s1.1 43 + 1 - 1 = s1.1 43 by omega]
            exact rep_up j1 hw
          · obtain ⟨tt, gs, vs, a1, a2, a3, a4⟩ := j3 F
            rw [m40, mcd, m41, m42]
            rcases hy with ⟨q1, q2⟩ | ⟨q1, q2⟩
            · rw [q1]
              exact ⟨!tt, gs, vs, .nt a1 q2, a2, .en a3, by omega⟩
            · rw [q1]
              exact ⟨false, _, vs, .op a1 q2, a2, .e0 (.g a3), by rw [List.length_cons]; omega⟩
        exact ⟨rc, fun c s27 h27 s28 h28 => nxt 0 s28 (by rw [h28, h27]) (by omega), fun c s29 h29 s30 h30 => nxt 1 s30 (by rw [h30, h29]) (by omega)⟩
      have sg : ∀ {Q : Int → SS → Prop}, Q (tpx s0 (s1.1 40)) s1 → Sp_Md_sign s1 Q := fun hk => sg_ok h0 p1 p2 hk
      refine g0 _ (sg ⟨rc, fun c => sg ⟨rc, fun d => absurd c d, fun _ => push 0 (Or.inl ⟨rfl, c⟩)⟩, fun c => sg ⟨rc, fun d => ?_, fun d => sg ⟨rc, fun _ => push 9 (Or.inr ⟨rfl, d⟩), fun q => absurd q c⟩⟩⟩)
      refine sg (isB_b (Md_isField_B rc s1) (fun nl => ?_) (fun hl7 => sg (Md_writes_ok (by omega) (by omega) (fun s13 hf13 w41 w87 s14 h14 => ?_))))
      · refine hbad s1 hp1 hf1 (bad_of hp1.2.1 hst.1 hst.2 ?_)
        rw [rE_a hr1 nl]
        unfold cfO
        rw [if_neg c, if_neg d, if_neg nl]
      -- a letter
      have hin := tp_in (s0 := s0) (i := s1.1 40) (by omega)
      have f14 : frm [40, 41] [87] s1 s14 := by rw [h14]; exact frm_tr (frm_mono hf13 (by decide) (by decide)) (frm_F _ _ (by decide))
      have k40 : s14.1 40 = s1.1 40 + 1 := by rw [h14, sF_s, hf13.1 40 rfl]
      have k41 : s14.1 41 = s1.1 41 + 1 := by rw [h14, sF_n _ _ (by decide), w41]
      have k87 : s14.2 87 = updF (s1.2 87) (600 * s1.1 39 + s1.1 41) (tpx s0 (s1.1 40)) := by rw [h14, sF_2, w87]
      have k42 : s14.1 42 = s1.1 42 := f14.1 42 rfl
      have k43 : s14.1 43 = s1.1 43 := f14.1 43 rfl
      have hp14 : pI s0 s14 := ⟨frm_tr p1 (frm_mono f14 (by decide) (by decide)), by omega, by omega, by omega, by omega, by omega⟩
      have hf14 : fO k0 s s14 := fO_tr hf1 ⟨frm_mono f14 (by decide) (by decide), fun x hx => by rw [k87, updF_n _ _ (by omega)]⟩
      have hr14 : rA p s0 s14 = aft (rA p s0 s1) (tpx s0 (s1.1 40)) := rA_s p2.1 k40
      have hL := rE_l hr1 hl7
      rw [← hr14, ← k40] at hL
      obtain ⟨L1, L2, L3⟩ := hL
      have hb14 := t3 (s14.1 40)
      have rc14 : rng (tpx s0 (s14.1 40)) := ⟨by omega, by omega⟩
      have ha14 : aft (rA p s0 s14) (tpx s0 (s14.1 40)) = if sg3 (tpx s0 (s14.1 40)) then (Cf.of 4 (rA p s0 s14).dp (rA p s0 s14).cl (rA p s0 s14).dg (rA p s0 s14).sz) else (Cf.of (-1) (rA p s0 s14).dp (rA p s0 s14).cl (rA p s0 s14).dg (rA p s0 s14).sz) := by
        unfold aft
        rcases L3 with q | ⟨q1, q2⟩
        · rw [if_neg (by omega), if_neg (by omega), if_pos q]
        · rw [if_neg (by omega), if_neg (by omega), if_neg (by omega), if_pos q1, if_neg q2]
      have go : sg3 (tpx s0 (s14.1 40)) → X147 s14 := by
        intro hs3
        have hin14 := tp_in (s0 := s0) (i := s14.1 40) (by omega)
        rw [if_pos hs3] at ha14
        refine g147 _ (sg_ok h0 hp14.1 hp14.2.1 (Md_writes_ok (by rw [f14.1 39 rfl]; omega) (by omega) (fun s33 hf33 v41 v87 s34 h34 => ?_)))
        have f34 : frm [40, 41] [87] s14 s34 := by rw [h34]; exact frm_tr (frm_mono hf33 (by decide) (by decide)) (frm_F _ _ (by decide))
        have m40 : s34.1 40 = s1.1 40 + 2 := by rw [h34, sF_s, hf33.1 40 rfl]; omega
        have m41 : s34.1 41 = s1.1 41 + 2 := by rw [h34, sF_n _ _ (by decide), v41]; omega
        have m87 : s34.2 87 = updF (s14.2 87) (600 * s14.1 39 + s14.1 41) (tpx s0 (s14.1 40)) := by rw [h34, sF_2, v87]
        have m42 : s34.1 42 = s1.1 42 := by rw [f34.1 42 rfl, k42]
        have m43 : s34.1 43 = s1.1 43 := by rw [f34.1 43 rfl, k43]
        have m39 : s34.1 39 = s0.1 39 := by rw [f34.1 39 rfl, f14.1 39 rfl, e39]
        have hp34 : pI s0 s34 := ⟨frm_tr hp14.1 (frm_mono f34 (by decide) (by decide)), by omega, by omega, by omega, by omega, by omega⟩
        have hf34 : fO k0 s s34 := fO_tr hf14 ⟨frm_mono f34 (by decide) (by decide), fun x hx => by rw [m87, updF_n _ _ (by omega)]⟩
        have hr34 : rA p s0 s34 = aft (rA p s0 s14) (tpx s0 (s14.1 40)) := rA_s (by omega) (by omega)
        rw [ha14] at hr34
        have st34 : (rA p s0 s34).st = 4 := by rw [hr34]
        have c34 : ∀ j, cd s34 j = if j = s1.1 41 + 1 then tpx s0 (s1.1 40 + 1) else if j = s1.1 41 then tpx s0 (s1.1 40) else cd s1 j := by
          intro j
          rw [cd_up (f34.1 39 rfl) m87, cd_up (f14.1 39 rfl) k87, k41, k40]
        have u92 : s34.2 92 = s1.2 92 := by rw [f34.2 92 rfl, f14.2 92 rfl]
        have hb34 := t3 (s34.1 40)
        have rc34 : rng (tpx s0 (s34.1 40)) := ⟨by omega, by omega⟩
        have ha34 : aft (rA p s0 s34) (tpx s0 (s34.1 40)) = if dg10 (tpx s0 (s34.1 40)) then (Cf.of 5 (rA p s0 s34).dp (rA p s0 s34).cl 1 (if tpx s0 (s34.1 40) = 48 then 1 else 0)) else (Cf.of (-1) (rA p s0 s34).dp (rA p s0 s34).cl (rA p s0 s34).dg (rA p s0 s34).sz) := by
          unfold aft
          have : (rA p s0 s34).st = 4 := by rw [hr34]
          rw [if_neg (by omega), if_neg (by omega), if_neg (by omega), if_neg (by omega), if_pos this]
        refine sg_ok h0 hp34.1 hp34.2.1 (isB_b (Md_isDigit_B rc34 s34) (fun nd => ?_) (fun hd => sg_ok h0 hp34.1 hp34.2.1 (fun s41 h41 => ?_)))
        · refine hbad s34 hp34 hf34 (bad_of hp34.2.1 (by omega) (by omega) ?_)
          rw [ha34, if_neg nd]
        -- the digits
        have hin34 := tp_in (s0 := s0) (i := s34.1 40) (by omega)
        rw [if_pos hd] at ha34
        have fin : ∀ (k : Nat) (v : Int) (s5 : SS), 1 ≤ k → k ≤ 3 → frm [40] [] s34 s5 → s5.1 40 = s1.1 40 + 2 + k → s5.1 40 ≤ s0.1 30 → (∀ j : Nat, j < k → dg10 (tpx s0 (s1.1 40 + 2 + j))) → v = nv (tpx s0) (s1.1 40 + 2) k → (rA p s0 s5).st = 5 → (rA p s0 s5).dg = k → ((rA p s0 s5).sz = 0 ∧ 0 < v ∨ (rA p s0 s5).sz = 1 ∧ v = 0) → (rA p s0 s5).dp = s1.1 42 → (rA p s0 s5).cl = N → (3 ≤ k ∨ v ≤ 0 ∨ ¬ dg10 (tpx s0 (s5.1 40))) → Sp_Md_writes v s5 (fun s42 => Sp_Md_unstacks 0 s42 (fun s43 => Q 1 s43)) := by
          intro k v s5 k1 k3 hf5 a40 a30 adg av q1 q2 q3 q4 q5 hex
          have z39 : s5.1 39 = s0.1 39 := by rw [hf5.1 39 rfl, m39]
          have z41 : s5.1 41 = s1.1 41 + 2 := by rw [hf5.1 41 rfl, m41]
          have z42 : s5.1 42 = s1.1 42 := by rw [hf5.1 42 rfl, m42]
          have z43 : s5.1 43 = s1.1 43 := by rw [hf5.1 43 rfl, m43]
          have z92 : s5.2 92 = s1.2 92 := by rw [hf5.2 92 rfl, u92]
          have z87 : s5.2 87 = s34.2 87 := hf5.2 87 rfl
          have zcd : cd s5 = cd s34 := by funext j; unfold cd; rw [z39, m39, z87]
          refine Md_writes_ok (by omega) (by omega) (fun s42 hf42 b41 b87 => ?_)
          have y39 : s42.1 39 = s0.1 39 := by rw [hf42.1 39 rfl, z39]
          have y43 : s42.1 43 = s1.1 43 := by rw [hf42.1 43 rfl, z43]
          have y92 : s42.2 92 = s1.2 92 := by rw [hf42.2 92 rfl, z92]
          refine Md_unstacks_ok (ops := ops) (by decide) (by omega) (by rw [y43, y92]; exact j1) (by omega) (fun s43 hf43 d41 d43 drep dwr dx => ?_)
          have x40 : s43.1 40 = s5.1 40 := by rw [hf43.1 40 rfl, hf42.1 40 rfl]
          have x42 : s43.1 42 = s1.1 42 := by rw [hf43.1 42 rfl, hf42.1 42 rfl, z42]
          have x39 : s43.1 39 = s0.1 39 := by rw [hf43.1 39 rfl, y39]
          have hrl := rep_len drep
          have hpl : 0 ≤ ((una 0 ops).1.length : Int) := by omega
          have hp43 : pI s0 s43 := ⟨frm_tr hp34.1 (frm_tr (frm_mono hf5 (by decide) (by decide)) (frm_tr (frm_mono hf42 (by decide) (by decide)) (frm_mono hf43 (by decide) (by decide)))), by omega, by omega, by omega, by omega, by omega⟩
          have hf43' : fO k0 s s43 := by
            refine fO_tr hf34 ⟨frm_tr (frm_mono hf5 (by decide) (by decide)) (frm_tr (frm_mono hf42 (by decide) (by decide)) (frm_mono hf43 (by decide) (by decide))), fun x hx => ?_⟩
            rw [dx x (by omega), b87, updF_n _ _ (by omega), z87]
          have er : rA p s0 s43 = rA p s0 s5 := by unfold rA; rw [x40]
          refine hgood s43 hp43 hf43' ⟨by rw [er, q4, x42], by rw [er, q5], Or.inl (by rw [er]; exact q1), ?_⟩ ?_ (by omega)
          · rw [er, x40]
            unfold aft
            rw [if_neg (by omega), if_neg (by omega), if_neg (by omega), if_neg (by omega), if_neg (by omega), if_pos q1]
            unfold cf5
            by_cases c : dg10 (tpx s0 (s5.1 40))
            · rw [if_pos c, if_pos (by omega)]
              unfold cfF
              rw [if_neg (by omega), if_neg (by omega), if_neg (by omega)]
            · rw [if_neg c]
          · by_cases c : dg10 (tpx s0 (s43.1 40))
            · exact Or.inl c
            · refine Or.inr ⟨(una 0 ops).2, ?_, by omega, fun F => ?_⟩
              · rw [hf43.2 92 rfl, y92]
                rw [y92] at drep
                exact drep
              · obtain ⟨tt, gs, vs, a1, a2, a3, a4⟩ := j3 F
                have c42 : ∀ j, cd s42 j = if j = s1.1 41 + 2 then v else cd s34 j := by
                  intro j
                  rw [cd_up (hf42.1 39 rfl) b87, z41, zcd]
                have ccv : ∀ j, j < s1.1 41 + 3 → cd s43 j = cd s42 j := by
                  intro j hj
                  unfold cd
                  rw [x39, y39]
                  exact dx _ (by rw [y39]; omega)
                have v0 : cd s43 (s1.1 41) = tpx s0 (s1.1 40) := by rw [ccv _ (by omega), c42, if_neg (by omega), c34, if_neg (by omega), if_pos rfl]
                have v1 : cd s43 (s1.1 41 + 1) = tpx s0 (s1.1 40 + 1) := by rw [ccv _ (by omega), c42, if_neg (by omega), c34, if_pos rfl]
                have hnv := nv_b k k3 adg
                have hsg := t3 (s1.1 40 + 1)
                have v2 : cd s43 (s1.1 41 + 2) = nv (tpx s0) (s1.1 40 + 2) k := by rw [ccv _ (by omega), c42, if_pos rfl, av]
                have r1 : RN F (cd s43) k0 (s1.1 41) vs := RN_up a2 (fun j _ hj => by rw [ccv _ (by omega), c42, if_neg (by omega), c34, if_neg (by omega), if_neg (by omega)])
                have r2 := RN.f r1 (by rw [v0]; exact hl7) (by rw [v1]; exact ⟨by omega, by omega⟩) (by rw [v2]; exact ⟨by omega, by omega⟩)
                rw [v0, v1, v2] at r2
                obtain ⟨ws, e1, e2⟩ := cc_operand a3 rfl (fct F (tpx s0 (s1.1 40)) (tpx s0 (s1.1 40 + 1)) (nv (tpx s0) (s1.1 40 + 2) k))
                have w41 : s42.1 41 = s1.1 41 + 3 := by omega
                rw [w41] at dwr d41
                have r3 := RN_ps e1 _ r2 dwr
                rw [x40, a40, d41, x42]
                refine ⟨false, _, ws, .fa k a1 hl7 (by rw [← k40]; exact hs3) k1 k3 adg (fun _ => ?_), r3, e2, by rw [jn_len]; exact a4⟩
                rw [x40, a40] at c
                exact c
        have loop : ∀ (t : Nat) (k : Nat) (v : Int) (s5 : SS), 4 - k < t → 1 ≤ k → k ≤ 3 → frm [40] [] s34 s5 → s5.1 40 = s1.1 40 + 2 + k → s5.1 40 ≤ s0.1 30 → (∀ j : Nat, j < k → dg10 (tpx s0 (s1.1 40 + 2 + j))) → v = nv (tpx s0) (s1.1 40 + 2) k → (rA p s0 s5).st = 5 → (rA p s0 s5).dg = k → ((rA p s0 s5).sz = 0 ∧ 0 < v ∨ (rA p s0 s5).sz = 1 ∧ v = 0) → (rA p s0 s5).dp = s1.1 42 → (rA p s0 s5).cl = N → (0 ≤ v ∧ ((k = 1 ∧ v ≤ 9) ∨ (k = 2 ∧ v ≤ 99) ∨ (k = 3 ∧ v ≤ 999))) → X197 v k s5 := by
          intro t
          induction t with
          | zero => intro k v s5 a; omega
          | succ t ih2 =>
            intro k v s5 ht2 k1 k3 hf5 a40 a30 adg av q1 q2 q3 q4 q5 hv
            have rk : rng (k : Int) := ⟨by omega, by omega⟩
            have rv : rng v := ⟨by omega, by omega⟩
            have hb5 := t3 (s5.1 40)
            have rc5 : rng (tpx s0 (s5.1 40)) := ⟨by omega, by omega⟩
            have sg5 : ∀ {Q : Int → SS → Prop}, Q (tpx s0 (s5.1 40)) s5 → Sp_Md_sign s5 Q := fun hk => sg_ok h0 (frm_tr hp34.1 (frm_mono hf5 (by decide) (by decide))) (by omega) hk
            have hfin := fin k v s5 k1 k3 hf5 a40 a30 adg av q1 q2 q3 q4 q5
            refine g197 _ _ _ ⟨rk, fun c => hfin (Or.inl (by omega)), fun c => ⟨rv, fun d => hfin (Or.inr (Or.inl d)), fun d => sg5 (isB_a (Md_isDigit_B rc5 s5) (fun nd => hfin (Or.inr (Or.inr nd))) (fun hd5 => sg5 (fun s54 h54 => ?_)))⟩⟩
            have hin5 := tp_in (s0 := s0) (i := s5.1 40) (by omega)
            have l40 : s54.1 40 = s5.1 40 + 1 := by rw [h54, sF_s]
            have hr54 : rA p s0 s54 = aft (rA p s0 s5) (tpx s0 (s5.1 40)) := rA_s (by omega) l40
            have hcf : aft (rA p s0 s5) (tpx s0 (s5.1 40)) = (Cf.of 5 (rA p s0 s5).dp (rA p s0 s5).cl ((rA p s0 s5).dg + 1) (rA p s0 s5).sz) := by
              unfold aft
              rw [if_neg (by omega), if_neg (by omega), if_neg (by omega), if_neg (by omega), if_neg (by omega), if_pos q1]
              unfold cf5
              rw [if_pos hd5, if_neg (by omega)]
            rw [hcf] at hr54
            have nvs : nv (tpx s0) (s1.1 40 + 2) (k + 1) = nv (tpx s0) (s1.1 40 + 2) k * 10 + tpx s0 (s1.1 40 + 2 + k) - 48 := rfl
            have e5 : tpx s0 (s5.1 40) = tpx s0 (s1.1 40 + 2 + k) := by rw [a40]
            rw [show ((k : Int) + 1) = ((k + 1 : Nat) : Int) by omega]
            refine ih2 (k + 1) _ s54 (by omega) (by omega) (by omega) (by rw [h54]; exact frm_tr hf5 (frm_F _ _ (by decide))) (by omega) (by omega) (fun j hj => ?_) (by rw [nvs, ← av, ← e5]; omega) (by rw [hr54]) (by rw [hr54]; show (rA p s0 s5).dg + 1 = _; omega) ?_ (by rw [hr54]; exact q4) (by rw [hr54]; exact q5) (by omega)
            · by_cases z : j = k
              · rw [z, ← e5]; exact hd5
              · exact adg j (by omega)
            · rw [hr54]
              show (rA p s0 s5).sz = 0 ∧ _ ∨ (rA p s0 s5).sz = 1 ∧ _
              omega
        have l40 : s41.1 40 = s34.1 40 + 1 := by rw [h41, sF_s]
        have hr41 : rA p s0 s41 = aft (rA p s0 s34) (tpx s0 (s34.1 40)) := rA_s (by omega) l40
        rw [ha34] at hr41
        have nv1 : nv (tpx s0) (s1.1 40 + 2) 1 = 0 * 10 + tpx s0 (s1.1 40 + 2 + ((0 : Nat) : Int)) - 48 := rfl
        rw [show s1.1 40 + 2 + ((0 : Nat) : Int) = s34.1 40 by omega] at nv1
        have := loop 4 1 (tpx s0 (s34.1 40) - 48) s41 (by omega) (by omega) (by omega) (by rw [h41]; exact frm_F _ _ (by decide)) (by omega) (by omega) (fun j hj => ?_) (by rw [nv1]; omega) (by rw [hr41]) (by rw [hr41]; rfl) ?_ (by rw [hr41, hr34]; show (rA p s0 s14).dp = _; omega) (by rw [hr41, hr34]; exact L2) (by omega)
        · exact this
        · rw [show s1.1 40 + 2 + (j : Int) = s34.1 40 by omega]; exact hd
        · rw [hr41]
          show (if tpx s0 (s34.1 40) = 48 then (1 : Int) else 0) = 0 ∧ _ ∨ (if tpx s0 (s34.1 40) = 48 then (1 : Int) else 0) = 1 ∧ _
          by_cases z : tpx s0 (s34.1 40) = 48
          · rw [if_pos z]; omega
          · rw [if_neg z]; omega
      have sg14 : ∀ {Q : Int → SS → Prop}, Q (tpx s0 (s14.1 40)) s14 → Sp_Md_sign s14 Q := fun hk => sg_ok h0 hp14.1 hp14.2.1 hk
      refine sg14 ⟨rc14, fun e => go (Or.inl e), fun n1 => sg14 ⟨rc14, fun e => go (Or.inr (Or.inl e)), fun n2 => sg14 ⟨rc14, fun e => go (Or.inr (Or.inr e)), fun n3 => ?_⟩⟩⟩
      refine hbad s14 hp14 hf14 (bad_of hp14.2.1 (by omega) (by omega) ?_)
      rw [ha14, if_neg (by omega)]
  exact key (s0.1 30 - s.1 40 + 1).toNat ops s (by omega) hp (fO_rf _ _) hr hj (by omega)
end
