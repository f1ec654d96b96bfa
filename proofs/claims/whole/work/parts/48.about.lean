section
/-! about -/
def qW : List Nat := [13, 14, 15, 16, 27, 67, 68, 69, 70, 72, 73, 74]
theorem Md_about_no {x w k : Int} {s : SS} {Q : Int → SS → Prop} (hb : iBook s) (rx : rng x) (rw' : rng w) (rk : rng k) (hn : ¬ (0 ≤ x ∧ x < s.1 7) ∨ ¬ (-1 ≤ w ∧ w ≤ s.1 1) ∨ ¬ (0 ≤ k ∧ k ≤ 2)) (hk : Q (-1) s) : Sp_Md_about x w k s Q := by
  have b1 := hb.1
  have b3 := hb.2.2.1
  exact isB_a (Md_isWord_B rx hb) (fun _ => hk) (fun c => isB_a (Md_isTold_B rw' (by omega)) (fun _ => hk) (fun d => ⟨rk, isB_b (Md_isIn_B rk (by decide) (by decide) s) (fun _ => hk) (fun f => absurd hn (by omega))⟩))
theorem Md_about_ok {x w k e : Int} {s : SS} {Q : Int → SS → Prop} (hb : iBook s) (hy : iKeys s) (rx : rng x) (rw' : rng w) (rk : rng k) (he : okE s w e) (k0 : 0 ≤ k ∧ k ≤ 2) (h0 : ¬ (0 ≤ x ∧ x < wdBy s e) → ∀ s', frm mN mA s s' → Q (-1) s') (h1 : 0 ≤ x ∧ x < wdBy s e → ∀ s' P, frm mN mA s s' → isP (linked s e) (nmBy s e) P → Q (if k = 0 then (if st s e e x = true then 1 else 0) else if k = 1 then s.2 24 x else P (s.2 19 x)) s') : Sp_Md_about x w k s Q := by
  obtain ⟨b1, b2, b3, b4, b5, b6, b7, b8, b9, b10, b11, b12, b13, b14⟩ := id hb
  have hc := bkN_cnt b7 he.1 he.2.1
  have hc : 0 ≤ wdBy s e ∧ wdBy s e ≤ s.1 7 := hc
  refine isB_a (Md_isWord_B rx hb) (fun c => h0 (by omega) _ (frm_rf _ _ _)) (fun c => isB_a (Md_isTold_B rw' (by omega)) (fun d => absurd (show -1 ≤ w ∧ w ≤ s.1 29 by have := he.2.2; omega) d) (fun _ => ⟨rk, isB_b (Md_isIn_B rk (by decide) (by decide) s) (fun d => absurd k0 d) (fun _ => ?_)⟩))
  refine Md_by_ok rw' (show (0 ≤ w → e = w) ∧ (w < 0 → e = s.1 29) by have := he.2.2; omega) ?_
  refine Md_looks_ok hb hy he.1 he.2.1 (fun s1 hf g1 g2 g3 g4 g5 g6 g7 => ?_)
  have hF : frm mN mA s s1 := frm_mono hf (by decide) (by decide)
  refine ⟨rx, by rw [g2]; exact ⟨by omega, by omega⟩, fun d => ?_, fun d => h0 (by omega) _ hF⟩
  rw [g2] at d
  have hq := h1 ⟨c.1, d⟩ s1 _ hF g5.1
  have w13 := b13 x c.1 c.2
  refine ⟨rk, fun n0 => ⟨rk, fun n1 => ?_, fun z1 => ?_⟩, fun z0 => ?_⟩
  · rw [if_neg n0, if_neg n1] at hq
    have e76 : s1.2 76 x = s.2 19 x := by rw [hf.2 76 rfl, ← b14.2.1]
    rw [e76]
    exact ⟨by omega, by omega, hq⟩
  · rw [if_neg n0, if_pos z1] at hq
    have e81 : s1.2 81 x = s.2 24 x := by rw [hf.2 81 rfl, ← b14.2.2.2.2.2.2]
    rw [e81]
    exact ⟨by omega, hq⟩
  · rw [if_pos z0] at hq
    have h70 := g6 x c.1 (by omega)
    by_cases q : st s e e x = true
    · rw [if_pos ⟨d, q⟩] at h70
      rw [if_pos q] at hq
      rw [h70]
      exact ⟨by omega, by decide, fun z => absurd z (by decide), fun _ => hq⟩
    · rw [if_neg (fun y => q y.2)] at h70
      rw [if_neg q] at hq
      rw [h70]
      exact ⟨by omega, by decide, fun _ => hq, fun z => absurd rfl z⟩
theorem sim_about {x w k : Int} {s : SS} {K : Int → Int → SS → Prop} (rx : rng x) (rw' : rng w) (rk : rng k) (hb : iBook s) (hy : iKeys s) (hk : ∀ r s', rng r → dg s s' → frm qN qW s s' → K r r s') : Sp_LS_about x w k s (fun p s1 => Sp_Md_about x w k s1 (fun q s2 => K p q s2)) := by
  obtain ⟨b1, b2, b3, b4, b5, b6, b7, b8, b9, b10, b11, b12, b13, b14⟩ := id hb
  have mw : ∀ {s t : SS}, frm mN mA s t → frm qN qW s t := fun h => frm_mono h (by decide) (by decide)
  have stay : ∀ v : Int, rng v → K v v s := fun v hv => hk v s hv (dg_rf _) (frm_rf _ _ s)
  refine LS_upTo_ok rw' b1.2 (fun e he => ?_)
  rcases he with ⟨e1, nt⟩ | he
  · refine isB_b (LS_isWordBy_B rx ⟨by omega, by omega⟩ (wOk_b hb)) (fun _ => Md_about_no hb rx rw' rk (Or.inr (Or.inl nt)) (stay _ (by decide))) (fun c => absurd c (fun c => ?_))
    have := (wOk_b hb).2 x c.1 c.2.1
    omega
  · have re : rng e := ⟨by have := he.1; omega, by have := he.2.1; omega⟩
    have hc := bkN_cnt b7 he.1 he.2.1
    have hc : 0 ≤ wdBy s e ∧ wdBy s e ≤ s.1 7 := hc
    refine isB_b (LS_isWordBy_B rx re (wOk_b hb)) (fun c => ?_) (fun c => ⟨rk, fun z => ?_, fun z => ?_, fun z => ?_, fun n0 n1 n2 => Md_about_no hb rx rw' rk (Or.inr (Or.inr (by omega))) (stay _ (by decide))⟩)
    · have c' : ¬ (0 ≤ x ∧ x < wdBy s e) := fun q => c ((wd_iff hb he.1 he.2.1).mpr q)
      by_cases kk : 0 ≤ k ∧ k ≤ 2
      · exact Md_about_ok hb hy rx rw' rk he kk (fun _ s' hf => hk _ _ (by decide) (dg_m hf) (mw hf)) (fun q => absurd q c')
      · exact Md_about_no hb rx rw' rk (Or.inr (Or.inr kk)) (stay _ (by decide))
    · have c' := (wd_iff hb he.1 he.2.1).mp c
      refine Wo_readBy_ok (wOk_b hb) re re (fun s1 hf1 h27 => ⟨by omega, ?_, ?_⟩)
      · rw [h27 x c.1 c.2.1]
        split
        · exact Or.inr rfl
        · exact Or.inl rfl
      · have hb1 : iBook s1 := iBook_agr (agr_of hf1 (by decide)) hb
        have hy1 : iKeys s1 := iKeys_agr (agr_of hf1 (by decide)) hy
        have e11 : s1.1 1 = s.1 1 := hf1.1 1 rfl
        have he1 : okE s1 w e := by unfold okE; rw [e11]; exact he
        have w1 : wdBy s1 e = wdBy s e := by unfold wdBy; rw [hf1.2 60 rfl]
        rw [h27 x c.1 c.2.1]
        refine LS_bit_ok (by split; exact Or.inr rfl; exact Or.inl rfl) (Md_about_ok hb1 hy1 rx rw' rk he1 (by omega) (fun q => absurd (by rw [w1]; exact c') q) (fun _ s' P hf' _ => ?_))
        rw [if_pos z, st_agr (agr_of hf1 (by decide))]
        refine hk _ _ (by split <;> decide) (fun u _ _ => by rw [hf'.2 13 rfl, hf1.2 13 rfl]) (frm_tr (frm_mono hf1 (by decide) (by decide)) (mw hf'))
    · have c' := (wd_iff hb he.1 he.2.1).mp c
      have w13 := b13 x c.1 c.2.1
      refine ⟨by omega, Md_about_ok hb hy rx rw' rk he (by omega) (fun q => absurd c' q) (fun _ s' P hf' _ => ?_)⟩
      rw [if_neg (by omega), if_pos z]
      exact hk _ _ ⟨by omega, by omega⟩ (dg_m hf') (mw hf')
    · have c' := (wd_iff hb he.1 he.2.1).mp c
      have w13 := b13 x c.1 c.2.1
      have cn := (nm_iff hb he.1 he.2.1 (a := s.2 19 x)).mp ⟨w13.2.1.1, w13.2.1.2.1, by omega⟩
      refine Na_readBy_ok hb hy he.1 he.2.1 (fun s1 hf1 g1 g2 g3 gd => ?_)
      have e19 : s1.2 19 x = s.2 19 x := by rw [hf1.2 19 rfl]
      have hF : frm qN qA s s1 := frm_mono hf1 (by decide) (by decide)
      have hb1 : iBook s1 := iBook_agr (agr_of hF (by decide)) hb
      have hy1 : iKeys s1 := iKeys_agr (agr_of hF (by decide)) hy
      have e11 : s1.1 1 = s.1 1 := hF.1 1 rfl
      have he1 : okE s1 w e := by unfold okE; rw [e11]; exact he
      have w1 : wdBy s1 e = wdBy s e := by unfold wdBy; rw [hF.2 60 rfl]
      have n1 : nmBy s1 e = nmBy s e := by unfold nmBy; rw [hF.2 60 rfl]
      have L1 : linked s1 e = linked s e := by
        funext u v
        unfold linked
        rw [lk_agr (agr_of hF (by decide))]
      refine ⟨by omega, ?_⟩
      rw [e19]
      refine ⟨by omega, Md_about_ok hb1 hy1 rx rw' rk he1 (by omega) (fun q => absurd (by rw [w1]; exact c') q) (fun _ s' P hf' hP => ?_)⟩
      rw [n1, L1] at hP
      rw [if_neg (by omega), if_neg (by omega), e19, isP_uniq hP g3 cn.1 cn.2]
      have := g3.2.1 _ cn.1 cn.2
      have hc2 := bkN_cnt b6 he.1 he.2.1
      have hc2 : 0 ≤ nmBy s e ∧ nmBy s e ≤ s.1 4 := hc2
      exact hk _ _ ⟨by omega, by omega⟩ (dg_tr gd (dg_m hf')) (frm_tr (frm_mono hF (by decide) (by decide)) (mw hf'))
end
