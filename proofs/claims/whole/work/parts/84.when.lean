section
/-! RULES, the model's when -/
theorem rD_bad {p : Int × Int} {N : Int} {s0 s : SS} (hp : pI s0 s) (h : rD p N s0 s) (h1 : tpx s0 (s.1 40) ≠ 38) (h2 : tpx s0 (s.1 40) ≠ 124) (h3 : ¬ (tpx s0 (s.1 40) = 41 ∧ 0 < s.1 42)) (h4 : ¬ (tpx s0 (s.1 40) = 62 ∧ s.1 42 = 0)) : pBad p s0 s := by
  obtain ⟨q1, q2, q3, q4⟩ := h
  refine bad_of hp.2.1 (by omega) (by omega) ?_
  rw [q4]
  unfold cfF
  rw [if_neg (by omega), if_neg (by rw [q1]; exact h3), if_neg (by rw [q1]; exact h4)]
theorem Md_when_ok {p : Int × Int} {N : Int} {s0 s : SS} {Q : Int → SS → Prop} (h0 : txO s0) (hp : pJ s0 s) (hN : (rA p s0 s).cl = N ∧ N < 8 ∧ (rA p s0 s).st = 0 ∧ (rA p s0 s).dp = 0) (hel : ¬ (tpx s0 (s.1 40) = 101 ∧ tpx s0 (s.1 40 + 1) = 108))
    (hbad : ∀ s', pI s0 s' → fO (s.1 41) s s' → pBad p s0 s' → Q 0 s')
    (hgood : ∀ s', pI s0 s' → fO (s.1 41) s s' → tpx s0 (s'.1 40) = 62 → (rA p s0 s').dp = 0 → (rA p s0 s').cl = N → aft (rA p s0 s') 62 = (Cf.of 7 (rA p s0 s').dp (rA p s0 s').cl (rA p s0 s').dg (rA p s0 s').sz) → s.1 41 ≤ s'.1 41 → s.1 40 < s'.1 40 → (∀ F : Int → Int, ∃ a b : Bool, TX F (tpx s0) (s.1 40) (s'.1 40) false [(a, b, false)] ∧ RN F (cd s') (s.1 41) (s'.1 41) [a || b]) → Q 1 s') : Sp_Md_when s Q := by
  intro X10 X19 X78 X117 X139 g10 g19 g78 g117 g139
  obtain ⟨t1, t2, t3⟩ := id h0
  -- the end of it and what goes on
  have key : ∀ (t : Nat), (∀ (ops : List Int) (s1 : SS), s0.1 30 - s1.1 40 < t → pI s0 s1 → fO (s.1 41) s s1 → s.1 40 ≤ s1.1 40 → rE p N s0 s1 → jS (s.1 40) (s.1 41) s0 s1 1 ops → X10 s1) ∧ (∀ (s1 : SS), s0.1 30 - s1.1 40 < t → pI s0 s1 → fO (s.1 41) s s1 → s.1 40 < s1.1 40 → rD p N s0 s1 → (dg10 (tpx s0 (s1.1 40)) ∨ ∃ ops, jS (s.1 40) (s.1 41) s0 s1 2 ops) → X19 s1) := by
    intro t
    induction t with
    | zero => exact ⟨fun ops s1 a b => by have := b.2.1; omega, fun s1 a b => by have := b.2.1; omega⟩
    | succ t ih =>
      refine ⟨fun ops s1 ht hp1 hf1 hge hr1 hj1 => ?_, fun s1 ht hp1 hf1 hge hr1 hj1 => ?_⟩
      · refine g10 _ (Md_operand_ok h0 hp1 hr1 hj1 (fun s' hp' hf' hb' => ⟨by decide, fun q => absurd rfl q, fun _ => hbad s' hp' (fO_tr hf1 hf') hb'⟩) (fun s' hp' hf' hr' hj' hlt => ⟨by decide, fun _ => ?_, fun q => absurd q (by decide)⟩))
        exact ih.2 s' (by omega) hp' (fO_tr hf1 hf') (by omega) hr' hj'
      · obtain ⟨p1, p2, p3, p4, p5, p6⟩ := id hp1
        have e39 : s1.1 39 = s0.1 39 := p1.1 39 rfl
        have f39 : s.1 39 = s0.1 39 := by rw [← hf1.1.1 39 rfl]; exact e39
        have hb := t3 (s1.1 40)
        have rc : rng (tpx s0 (s1.1 40)) := ⟨by omega, by omega⟩
        have sg : ∀ {Q : Int → SS → Prop}, Q (tpx s0 (s1.1 40)) s1 → Sp_Md_sign s1 Q := fun hk => sg_ok h0 p1 p2 hk
        have rd : rng (s1.1 42) := by
          have hB := (run_b p (tpx s0) (s1.1 40).toNat).2.1
          have : (run p (tpx s0) (s1.1 40).toNat).dp = s1.1 42 := hr1.1
          exact ⟨by omega, by omega⟩
        obtain ⟨q1, q2, q3, q4⟩ := id hr1
        have row : ∀ m : Int, (m = 1 ∧ tpx s0 (s1.1 40) = 38) ∨ (m = 2 ∧ tpx s0 (s1.1 40) = 124) → X117 (tpx s0 (s1.1 40)) s1 := by
          intro m hm
          have hin := tp_in (s0 := s0) (i := s1.1 40) (by omega)
          rcases hj1 with hd | ⟨ops, j1, j2, j3⟩
          · omega
          refine g117 _ _ (fun s15 h15 => ⟨rc, ?_⟩)
          have f15 : frm [40] [] s1 s15 := by rw [h15]; exact frm_F _ _ (by decide)
          have k40 : s15.1 40 = s1.1 40 + 1 := by rw [h15, sF_s]
          have k41 : s15.1 41 = s1.1 41 := f15.1 41 rfl
          have k43 : s15.1 43 = s1.1 43 := f15.1 43 rfl
          have k92 : s15.2 92 = s1.2 92 := f15.2 92 rfl
          have cd15 : cd s15 = cd s1 := by funext j; unfold cd; rw [f15.1 39 rfl, f15.2 87 rfl]
          have hr15 : rA p s0 s15 = aft (rA p s0 s1) (tpx s0 (s1.1 40)) := rA_s (by omega) k40
          have hcf : aft (rA p s0 s1) (tpx s0 (s1.1 40)) = (Cf.of 1 (rA p s0 s1).dp (rA p s0 s1).cl (rA p s0 s1).dg (rA p s0 s1).sz) := by
            rw [q4]; unfold cfF; rw [if_pos (by omega)]
          have hl := rep_len j1
          have nxt : X139 (tpx s0 (s1.1 40)) m s15 := by
            refine g139 _ _ _ (Md_unstacks_ok (ops := ops) ⟨by omega, by omega⟩ (by rw [f15.1 39 rfl]; omega) (by rw [k43, k92]; exact j1) (by omega) (fun s16 hf16 d41 d43 drep dwr dx => ?_))
            have hrl := rep_len drep
            have x42 : s16.1 42 = s1.1 42 := by rw [hf16.1 42 rfl, f15.1 42 rfl]
            have x92 : s16.2 92 = s1.2 92 := by rw [hf16.2 92 rfl, k92]
            have x39 : s16.1 39 = s0.1 39 := by rw [hf16.1 39 rfl, f15.1 39 rfl, e39]
            have l0 : 0 ≤ ((una m ops).1.length : Int) := by omega
            have fin : ∀ s20, s20 = sF (sA s16 92 (s16.1 43) m) 43 ((sA s16 92 (s16.1 43) m).1 43 + 1) → X10 s20 := by
              intro s20 h20
              have f20 : frm [43] [92] s16 s20 := by rw [h20]; exact frm_tr (frm_A _ _ _ (by decide)) (frm_F _ _ (by decide))
              have m40 : s20.1 40 = s1.1 40 + 1 := by rw [f20.1 40 rfl, hf16.1 40 rfl, k40]
              have m41 : s20.1 41 = s16.1 41 := f20.1 41 rfl
              have m42 : s20.1 42 = s1.1 42 := by rw [f20.1 42 rfl, x42]
              have m43 : s20.1 43 = s16.1 43 + 1 := by rw [h20, sF_s, sA_1]
              have m92 : s20.2 92 = updF (s16.2 92) (s16.1 43) m := by rw [h20, sF_2, sA_u]
              have mcd : cd s20 = cd s16 := by funext j; unfold cd; rw [f20.1 39 rfl, f20.2 87 rfl]
              have er : rA p s0 s20 = rA p s0 s15 := by unfold rA; rw [m40, k40]
              refine ih.1 (m :: (una m ops).2) s20 (by omega) ⟨frm_tr p1 (frm_tr (frm_mono f15 (by decide) (by decide)) (frm_tr (frm_mono hf16 (by decide) (by decide)) (frm_mono f20 (by decide) (by decide)))), by omega, by omega, by omega, by omega, by omega⟩ (fO_tr hf1 ⟨frm_tr (frm_mono f15 (by decide) (by decide)) (frm_tr (frm_mono hf16 (by decide) (by decide)) (frm_mono f20 (by decide) (by decide))), fun x hx => ?_⟩) (by omega) ⟨?_, ?_, Or.inl ?_⟩ ⟨?_, by omega, fun F => ?_⟩
              · rw [f20.2 87 rfl, dx x (by rw [f15.1 39 rfl]; omega), f15.2 87 rfl]
              · rw [er, hr15, hcf, m42]; exact q1
              · rw [er, hr15, hcf]; exact q2
              · rw [er, hr15, hcf]
              · rw [m92, m43, x92]
                refine ⟨by rw [show s16.1 43 + 1 - 1 = s16.1 43 by omega, updF_s], by omega, ?_⟩
                rw [show s16.1 43 + 1 - 1 = s16.1 43 by omega]
                rw [k92] at drep
                exact rep_up drep (fun x _ x1 => updF_n _ _ (by omega))
              · obtain ⟨tt, gs, vs, a1, a2, a3, a4⟩ := j3 F
                have r1 : RN F (cd s16) (s.1 41) (s1.1 41) vs := RN_up a2 (fun j _ hj => by
                  unfold cd
                  rw [x39, dx _ (by rw [f15.1 39 rfl]; omega), f15.2 87 rfl, e39])
                rw [k41] at d41 dwr
                have ef := cc_f a3 rfl
                subst ef
                rw [m40, m41, m42, mcd, d41]
                rcases hm with ⟨rfl, z⟩ | ⟨rfl, z⟩
                · obtain ⟨ws, e1, e2⟩ := cc_and a3
                  exact ⟨false, gs, ws, .an a1 z, RN_ps e1 _ r1 dwr, e2, a4⟩
                · cases gs with
                  | nil => exact absurd rfl (TX_ne a1)
                  | cons g gs =>
                    obtain ⟨ga, gb, gt⟩ := g
                    obtain ⟨r, e1, e2⟩ := cc_all a3
                    exact ⟨false, _, _, .oo a1 z, RN_ps e1 _ r1 dwr, .e2 e2, by rw [List.length_cons] at a4 ⊢; exact a4⟩
            refine ⟨rc, fun c => ⟨⟨by omega, by omega⟩, fun s17 h17 s18 h18 => fin s18 (by rw [h18, h17, show m = 2 by omega])⟩, fun c => ⟨⟨by omega, by omega⟩, fun s19 h19 s20 h20 => fin s20 (by rw [h20, h19, show m = 1 by omega])⟩⟩
          rcases hm with ⟨rfl, z⟩ | ⟨rfl, z⟩
          · exact ⟨fun q => absurd z q, fun _ => nxt⟩
          · exact ⟨fun _ => nxt, fun q => by omega⟩
        have l78 : ¬ (tpx s0 (s1.1 40) = 41 ∧ 0 < s1.1 42) → X78 s1 := by
          intro n41
          have rest : ¬ (tpx s0 (s1.1 40) = 62 ∧ s1.1 42 = 0) → rng (tpx s0 (s1.1 40)) ∧ ((tpx s0 (s1.1 40) = 38 → X117 (tpx s0 (s1.1 40)) s1) ∧ (¬ tpx s0 (s1.1 40) = 38 → rng (tpx s0 (s1.1 40)) ∧ ((tpx s0 (s1.1 40) = 124 → X117 (tpx s0 (s1.1 40)) s1) ∧ (¬ tpx s0 (s1.1 40) = 124 → Q 0 s1)))) := fun n62 =>
            ⟨rc, fun c => row 1 (Or.inl ⟨rfl, c⟩), fun c => ⟨rc, fun d => row 2 (Or.inr ⟨rfl, d⟩), fun d => hbad s1 hp1 hf1 (rD_bad hp1 hr1 c d n41 n62)⟩⟩
          refine g78 _ (sg ⟨rc, fun c => rest (fun q => c q.1), fun c => ⟨rd, fun d => rest (fun q => d q.2), fun d => ?_⟩⟩)
          rcases hj1 with hd | ⟨ops, j1, j2, j3⟩
          · omega
          refine Md_unstacks_ok (ops := ops) (by decide) (by omega) j1 (by omega) (fun s14 hf14 d41 d43 drep dwr dx => ?_)
          have hrl := rep_len drep
          have m40 : s14.1 40 = s1.1 40 := hf14.1 40 rfl
          have x39 : s14.1 39 = s0.1 39 := by rw [hf14.1 39 rfl, e39]
          have m42 : s14.1 42 = s1.1 42 := hf14.1 42 rfl
          have er : rA p s0 s14 = rA p s0 s1 := by unfold rA; rw [m40]
          refine hgood s14 ⟨frm_tr p1 (frm_mono hf14 (by decide) (by decide)), by omega, by omega, by omega, by omega, by omega⟩ (fO_tr hf1 ⟨frm_mono hf14 (by decide) (by decide), fun x hx => dx x (by omega)⟩) (by rw [m40]; exact c) (by rw [er, q1]; exact d) (by rw [er]; exact q2) ?_ (by omega) (by omega) (fun F => ?_)
          · rw [er]
            rw [c] at q4
            rw [q4]
            unfold cfF
            rw [if_neg (by decide), if_neg (fun z => absurd z.1 (by decide)), if_pos ⟨rfl, by omega⟩]
          · obtain ⟨tt, gs, vs, a1, a2, a3, a4⟩ := j3 F
            have ef := cc_f a3 rfl
            subst ef
            cases gs with
            | nil => exact absurd rfl (TX_ne a1)
            | cons g gs =>
              rw [List.length_cons] at a4
              have : gs = [] := List.eq_nil_of_length_eq_zero (by omega)
              subst this
              obtain ⟨ga, gb, gt⟩ := g
              obtain ⟨r, e1, e2⟩ := cc_all a3
              obtain ⟨u1, u2, u3⟩ := cc0_end e2
              have u2 : gt = false := u2
              subst u2
              subst u3
              have r1 : RN F (cd s14) (s.1 41) (s1.1 41) vs := RN_up a2 (fun j _ hj => by
                unfold cd
                rw [x39, dx _ (by omega), e39])
              rw [m40, d41]
              exact ⟨ga, gb, a1, RN_ps e1 _ r1 dwr⟩
        refine g19 _ (sg ⟨rc, fun c => l78 (fun q => c q.1), fun c => ⟨rd, fun d => l78 (fun q => by omega), fun d s7 h7 s8 h8 => ?_⟩⟩)
        -- a group closes
        have hin := tp_in (s0 := s0) (i := s1.1 40) (by omega)
        rcases hj1 with hd | ⟨ops, j1, j2, j3⟩
        · omega
        have f8 : frm [40, 42] [] s1 s8 := by rw [h8, h7]; exact frm_tr (frm_F _ _ (by decide)) (frm_F _ _ (by decide))
        have k40 : s8.1 40 = s1.1 40 + 1 := by rw [h8, sF_n _ _ (by decide), h7, sF_s]
        have k42 : s8.1 42 = s1.1 42 - 1 := by rw [h8, sF_s, h7, sF_n _ _ (by decide)]
        have k41 : s8.1 41 = s1.1 41 := f8.1 41 rfl
        have k43 : s8.1 43 = s1.1 43 := f8.1 43 rfl
        have k92 : s8.2 92 = s1.2 92 := f8.2 92 rfl
        have k39 : s8.1 39 = s0.1 39 := by rw [f8.1 39 rfl, e39]
        have hr8 : rA p s0 s8 = aft (rA p s0 s1) (tpx s0 (s1.1 40)) := rA_s (by omega) k40
        have hcf : aft (rA p s0 s1) (tpx s0 (s1.1 40)) = (Cf.of 6 ((rA p s0 s1).dp - 1) (rA p s0 s1).cl (rA p s0 s1).dg (rA p s0 s1).sz) := by
          rw [q4]; unfold cfF; rw [if_neg (by omega), if_pos (by omega)]
        have hop : ∃ o2, (una 2 ops).2 = 9 :: o2 := by
          obtain ⟨tt, gs, vs, a1, a2, a3, a4⟩ := j3 (fun _ => 0)
          cases gs with
          | nil => exact absurd rfl (TX_ne a1)
          | cons g gs =>
            obtain ⟨r, e1, e2⟩ := cc_all a3
            rw [List.length_cons] at a4
            obtain ⟨o2, u1, u2⟩ := cc0_open e2 (fun z => by rw [z] at a4; simp only [List.length_nil] at a4; omega)
            exact ⟨o2, u1⟩
        obtain ⟨o2, ho2⟩ := hop
        refine Md_unstacks_ok (ops := ops) (by decide) (by omega) (by rw [k43, k92]; exact j1) (by omega) (fun s9 hf9 d41 d43 drep dwr dx s10 h10 => ?_)
        have v39 : s9.1 39 = s0.1 39 := by rw [hf9.1 39 rfl, k39]
        have v92 : s9.2 92 = s1.2 92 := by rw [hf9.2 92 rfl, k92]
        have l0 : 0 ≤ ((una 2 ops).1.length : Int) := by omega
        rw [ho2] at drep
        obtain ⟨rp1, rp2, rp3⟩ := drep
        have f10 : frm [43] [] s9 s10 := by rw [h10]; exact frm_F _ _ (by decide)
        have w43 : s10.1 43 = s9.1 43 - 1 := by rw [h10, sF_s]
        have w39 : s10.1 39 = s0.1 39 := by rw [f10.1 39 rfl, v39]
        have w41 : s10.1 41 = s9.1 41 := f10.1 41 rfl
        have w92 : s10.2 92 = s1.2 92 := by rw [f10.2 92 rfl, v92]
        have w87 : s10.2 87 = s9.2 87 := f10.2 87 rfl
        have rl3 := rep_len rp3
        refine Md_unstacks_ok (ops := o2) (by decide) (by omega) (by rw [w43, w92]; rw [k92] at rp3; exact rp3) (by omega) (fun s11 hf11 c41 c43 crep cwr cx => ?_)
        have hrl := rep_len crep
        have l1 : 0 ≤ ((una 0 o2).1.length : Int) := by omega
        have m40 : s11.1 40 = s1.1 40 + 1 := by rw [hf11.1 40 rfl, f10.1 40 rfl, hf9.1 40 rfl, k40]
        have m42 : s11.1 42 = s1.1 42 - 1 := by rw [hf11.1 42 rfl, f10.1 42 rfl, hf9.1 42 rfl, k42]
        have m39 : s11.1 39 = s0.1 39 := by rw [hf11.1 39 rfl, w39]
        have er : rA p s0 s11 = rA p s0 s8 := by unfold rA; rw [m40, k40]
        refine ih.2 s11 (by omega) ⟨frm_tr p1 (frm_tr (frm_mono f8 (by decide) (by decide)) (frm_tr (frm_mono hf9 (by decide) (by decide)) (frm_tr (frm_mono f10 (by decide) (by decide)) (frm_mono hf11 (by decide) (by decide))))), by omega, by omega, by omega, by omega, by omega⟩ (fO_tr hf1 ⟨frm_tr (frm_mono f8 (by decide) (by decide)) (frm_tr (frm_mono hf9 (by decide) (by decide)) (frm_tr (frm_mono f10 (by decide) (by decide)) (frm_mono hf11 (by decide) (by decide)))), fun x hx => ?_⟩) (by omega) ⟨?_, ?_, Or.inr ?_, ?_⟩ (Or.inr ⟨(una 0 o2).2, ?_, by omega, fun F => ?_⟩)
        · rw [cx x (by omega), w87, dx x (by omega), f8.2 87 rfl]
        · rw [er, hr8, hcf, m42]; show (rA p s0 s1).dp - 1 = _; omega
        · rw [er, hr8, hcf]; exact q2
        · rw [er, hr8, hcf]
        · have : (rA p s0 s11).st = 6 := by rw [er, hr8, hcf]
          unfold aft
          rw [if_neg (by omega), if_neg (by omega), if_neg (by omega), if_neg (by omega), if_neg (by omega), if_neg (by omega), if_pos this]
        · rw [hf11.2 92 rfl]; exact crep
        · obtain ⟨tt, gs, vs, a1, a2, a3, a4⟩ := j3 F
          have ef := cc_f a3 rfl
          subst ef
          cases gs with
          | nil => exact absurd rfl (TX_ne a1)
          | cons g gs =>
            obtain ⟨ga, gb, gt⟩ := g
            rw [List.length_cons] at a4
            have gne : gs ≠ [] := fun z => by rw [z] at a4; simp only [List.length_nil] at a4; omega
            obtain ⟨r, e1, e2⟩ := cc_all a3
            obtain ⟨o3, u1, u2⟩ := cc0_open e2 gne
            have : o3 = o2 := by rw [ho2] at u1; exact (List.cons.inj u1).2.symm
            subst this
            obtain ⟨ws, e3, e4⟩ := cc_operand u2 rfl (ga || gb)
            have r1 : RN F (cd s9) (s.1 41) (s1.1 41) vs := RN_up a2 (fun j _ hj => by
              unfold cd
              rw [v39, dx _ (by omega), f8.2 87 rfl, e39])
            rw [k41] at d41 dwr
            have r2 := RN_ps e1 _ r1 dwr
            have r3 : RN F (cd s11) (s.1 41) (s1.1 41 + (una 2 ops).1.length) ((ga || gb) :: r) := RN_up r2 (fun j _ hj => by
              unfold cd
              rw [m39, cx _ (by omega), w87, v39])
            rw [w41, d41] at cwr
            have r4 := RN_ps e3 _ r3 cwr
            rw [m40, c41, w41, d41, m42]
            exact ⟨false, _, ws, .cl a1 gne c, r4, e4, by rw [jn_len]; omega⟩
  intro s1 h1 s2 h2
  obtain ⟨p1, p2, p3, p4⟩ := id hp
  have f2 : frm [42, 43] [] s s2 := by rw [h2, h1]; exact frm_tr (frm_F _ _ (by decide)) (frm_F _ _ (by decide))
  have k40 : s2.1 40 = s.1 40 := f2.1 40 rfl
  have k41 : s2.1 41 = s.1 41 := f2.1 41 rfl
  have k42 : s2.1 42 = 0 := by rw [h2, sF_s]
  have k43 : s2.1 43 = 0 := by rw [h2, sF_n _ _ (by decide), h1, sF_s]
  have er : rA p s0 s2 = rA p s0 s := by unfold rA; rw [k40]
  refine (key (s0.1 30 - s.1 40 + 1).toNat).1 [] s2 (by omega) ⟨frm_tr p1 (frm_mono f2 (by decide) (by decide)), by omega, by omega, by omega, by omega, by omega⟩ ⟨frm_mono f2 (by decide) (by decide), fun x _ => by rw [f2.2 87 rfl]⟩ (by omega) ⟨by rw [er, hN.2.2.2, k42], by rw [er]; exact hN.1, Or.inr ⟨by rw [er]; exact hN.2.2.1, hN.2.1, by rw [k40]; exact hel⟩⟩ ⟨k43, by omega, fun F => ⟨false, [(false, true, false)], [], by rw [k40]; exact .st, by rw [k41]; exact .st, .e0 .b, by rw [k42]; rfl⟩⟩
end
