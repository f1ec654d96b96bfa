section
/-! HEARING: opened, and looked at -/
def qOf (s : SS) (e d : Int) (P : Int → Int) (p : Int) : Int → Bool := fun w => st s e d w && decide (P (s.2 19 w) = p)
theorem st_lt {s : SS} (hw : wOk s) {h d x : Int} (h0 : 0 ≤ x) (h1 : x < s.1 7) (hs : st s h d x = true) : s.2 25 x < h := by
  rw [st_w hw h0 h1, Bool.and_eq_true, decide_eq_true_eq] at hs
  exact hs.1.1
def hrd (s : SS) (e d a : Int) (P : Int → Int) (t : SS) : Prop :=
  frm [6, 9, 10, 11, 12, 13, 14, 15, 16] [13, 14, 15, 27, 33, 34, 35] s t ∧ dg s t ∧ isP (linked s e) (nmBy s e) P ∧ t.2 14 = P ∧ t.1 6 = nmBy s e ∧ t.1 16 = P a ∧ t.1 12 = cntP (fun x => decide (P x = P a)) (nmBy s e).toNat ∧
  t.1 10 = cntP (fun w => qOf s e d P (P a) w && decide (0 ≤ s.2 23 w)) (s.1 7).toNat ∧
  (∀ r, 0 ≤ r → r < s.1 7 → t.2 34 r = if rtB (qOf s e d P (P a)) (s.2 24) (s.1 7).toNat r = true ∨ qOf s e d P (P a) r = true then 1 else 0) ∧
  enumP (rtB (qOf s e d P (P a)) (s.2 24) (s.1 7).toNat) (s.1 7) (t.1 9) (t.2 35) ∧
  t.1 11 = (popN (seenW (rtB (qOf s e d P (P a)) (s.2 24) (s.1 7).toNat) (s.2 18) (s.1 7).toNat) : Int) ∧
  t.1 13 = lastR (s.2 22) (t.2 35) (t.1 9).toNat ∧ ((0 ≤ t.1 13 → t.1 14 = s.2 22 (t.1 13) ∧ t.1 15 = (popN (s.2 20 (t.1 13)).toNat : Int)) ∧ (t.1 13 < 0 → t.1 14 = 0 ∧ t.1 15 = 0))
theorem He_open_ok {a e d : Int} {s : SS} {Q : SS → Prop} (hb : iBook s) (hy : iKeys s) (e0 : 0 ≤ e) (e1 : e ≤ s.1 1) (rd : rng d) (ha : 0 ≤ a ∧ a < nmBy s e) (hk : ∀ P t, hrd s e d a P t → Q t) : Sp_He_open a e d s Q := by
  obtain ⟨b1, b2, b3, b4, b5, b6, b7, b8, b9, b10, b11, b12, b13, b14⟩ := id hb
  have hc := bkN_cnt b6 e0 e1
  have hc : 0 ≤ nmBy s e ∧ nmBy s e ≤ s.1 4 := hc
  have hw := wOk_b hb
  refine Na_readBy_ok hb hy e0 e1 (fun s1 hf1 g1 g2 g3 gd => ?_)
  have w1 : wOk s1 := wOk_b (iBook_agr (agr_of hf1 (by decide)) hb)
  have st1 : ∀ x, st s1 e d x = st s e d x := fun x => st_agr (agr_of hf1 (by decide)) e d x
  refine Wo_readBy_ok w1 ⟨by omega, by omega⟩ rd (fun s2 hf2 h27 => ⟨by omega, fun s5 h5 => ?_⟩)
  have e14 : s2.2 14 = s1.2 14 := hf2.2 14 rfl
  have f5 : frm [6, 16] [13, 14, 15, 27] s s5 := by
    rw [h5]
    exact frm_tr (frm_tr (frm_mono hf1 (by decide) (by decide)) (frm_mono hf2 (by decide) (by decide))) (frm_F _ _ (by decide))
  have p16 : s5.1 16 = s1.2 14 a := by rw [h5, sF_s, e14]
  have p14 : s5.2 14 = s1.2 14 := by rw [h5, sF_2, e14]
  have p6 : s5.1 6 = nmBy s e := by rw [h5, sF_n _ _ (by decide), hf2.1 6 rfl, g1]
  have pa := g3.2.1 a ha.1 ha.2
  rw [p16]
  refine Na_namesOf_ok (by rw [p6]; omega) ⟨by omega, by omega⟩ (fun x x0 x1 => by rw [p14]; rw [p6] at x1; have := g3.2.1 x x0 x1; exact ⟨by omega, by omega⟩) (fun s8 h8 => ?_)
  rw [p14, p6] at h8
  have f8 : frm [6, 12, 16] [13, 14, 15, 27] s s8 := by rw [h8]; exact frm_tr (frm_mono f5 (by decide) (by decide)) (frm_F _ _ (by decide))
  have k2 : s8.2 = s5.2 := by rw [h8]; rfl
  have q16 : s8.1 16 = s1.2 14 a := by rw [h8, sF_n _ _ (by decide), p16]
  have q14 : s8.2 14 = s1.2 14 := by rw [k2, p14]
  have q7 : s8.1 7 = s.1 7 := f8.1 7 rfl
  have q27 : ∀ x, 0 ≤ x → x < s.1 7 → s8.2 27 x = if st s e d x = true then 1 else 0 := fun x x0 x1 => by
    rw [k2, h5, sF_2, h27 x x0 (by rw [hf1.1 7 rfl]; exact x1), st1]
  have q19 : s8.2 19 = s.2 19 := f8.2 19 rfl
  have q24 : s8.2 24 = s.2 24 := f8.2 24 rfl
  have q23 : s8.2 23 = s.2 23 := f8.2 23 rfl
  refine He_readWords_ok (q := qOf s e d (s1.2 14) (s1.2 14 a)) (by rw [q7]; exact b3.2) (by rw [q16]; exact ⟨by omega, by omega⟩) (fun w w0 w1 => ?_) (fun s9 hf9 h33 h10 => ?_)
  · rw [q7] at w1
    obtain ⟨x1, x2, x3, x4, x5, x6⟩ := b13 w w0 w1
    rw [q27 w w0 w1, q19, q14, q24, q23, q16]
    refine ⟨by split; exact Or.inr rfl; exact Or.inl rfl, by omega, fun z => ?_, by omega, ⟨by omega, by omega⟩, ?_⟩
    · have hs : st s e d w = true := by
        by_cases y : st s e d w = true
        · exact y
        · rw [if_neg y] at z; exact absurd rfl z
      have lt := st_lt hw w0 w1 hs
      have cn := (nm_iff hb e0 e1 (a := s.2 19 w)).mp ⟨x2.1, x2.2.1, by omega⟩
      have := g3.2.1 _ cn.1 cn.2
      exact ⟨by omega, by omega⟩
    · unfold qOf
      rw [Bool.and_eq_true, decide_eq_true_eq]
      refine and_congr_left (fun _ => ?_)
      by_cases y : st s e d w = true
      · rw [if_pos y]; exact ⟨fun _ => by decide, fun _ => y⟩
      · rw [if_neg y]; exact ⟨fun z => absurd z y, fun z => absurd rfl z⟩
  · rw [q7, q24] at h33
    rw [q7, q23] at h10
    have q79 : s9.1 7 = s.1 7 := by rw [hf9.1 7 rfl, q7]
    have q189 : s9.2 18 = s.2 18 := by rw [hf9.2 18 rfl]; exact f8.2 18 rfl
    refine He_readRoots_ok (rt := rtB (qOf s e d (s1.2 14) (s1.2 14 a)) (s.2 24) (s.1 7).toNat) (by rw [q79]; exact b3.2) (fun r r0 r1 => (h33 r r0 (by omega)).1) (fun r r0 r1 => by rw [q189]; exact (b13 r r0 (by omega)).1) (fun s10 hf10 hE h11 => ?_)
    rw [q79] at hE h11
    rw [q189] at h11
    have q22 : s10.2 22 = s.2 22 := by rw [hf10.2 22 rfl, hf9.2 22 rfl]; exact f8.2 22 rfl
    have q20 : s10.2 20 = s.2 20 := by rw [hf10.2 20 rfl, hf9.2 20 rfl]; exact f8.2 20 rfl
    have cb := cntP_b (rtB (qOf s e d (s1.2 14) (s1.2 14 a)) (s.2 24) (s.1 7).toNat) (s.1 7).toNat
    have c9 := hE.1
    refine He_readLatest_ok (m := s10.1 9) rfl (by omega) (fun j j0 j1 => ?_) (fun s11 hf11 h13 hp => ?_)
    · obtain ⟨y1, y2, y3, y4⟩ := hE.2 j j0 j1
      have x := b13 _ y1 y2
      rw [q22, q20]
      exact ⟨by omega, ⟨by omega, by omega⟩, by omega⟩
    · rw [q22] at h13 hp
      rw [q20] at hp
      refine hk (s1.2 14) s11 ⟨?_, fun u u0 u1 => ?_, g3, ?_, ?_, ?_, ?_, ?_, fun r r0 r1 => ?_, ?_, ?_, ?_, hp⟩
      · exact frm_tr (frm_tr (frm_tr (frm_mono f8 (by decide) (by decide)) (frm_mono hf9 (by decide) (by decide))) (frm_mono hf10 (by decide) (by decide))) (frm_mono hf11 (by decide) (by decide))
      · rw [hf11.2 13 rfl, hf10.2 13 rfl, hf9.2 13 rfl, k2, h5, sF_2, hf2.2 13 rfl]; exact gd u u0 u1
      · rw [hf11.2 14 rfl, hf10.2 14 rfl, hf9.2 14 rfl, q14]
      · rw [hf11.1 6 rfl, hf10.1 6 rfl, hf9.1 6 rfl, h8, sF_n _ _ (by decide), p6]
      · rw [hf11.1 16 rfl, hf10.1 16 rfl, hf9.1 16 rfl, q16]
      · rw [hf11.1 12 rfl, hf10.1 12 rfl, hf9.1 12 rfl, h8, sF_s]
      · rw [hf11.1 10 rfl, hf10.1 10 rfl, h10]
      · rw [hf11.2 34 rfl, hf10.2 34 rfl]; exact (h33 r r0 r1).2
      · rw [hf11.1 9 rfl, hf11.2 35 rfl]; exact hE
      · rw [hf11.1 11 rfl]; exact h11
      · rw [hf11.2 35 rfl, hf11.1 9 rfl]; exact h13
/-- the model has looked by e -/
def lkd (s : SS) (e : Int) (t : SS) : Prop := frm mN mA s t ∧ t.1 34 = wdBy s e ∧ t.1 35 = rlBy s e ∧ isP (linked s e) (nmBy s e) (t.2 72) ∧ (∀ w, 0 ≤ w → w < 40 → t.2 70 w = if w < wdBy s e ∧ st s e e w = true then 1 else 0)
theorem Md_there_ok {a x e : Int} {s : SS} {Q : Int → SS → Prop} (hb : iBook s) (hy : iKeys s) (ra : rng a) (rx : rng x) (he : okE s x e) (h0 : ¬ (0 ≤ a ∧ a < nmBy s e) → ∀ s', frm mN mA s s' → Q 0 s') (hk : (0 ≤ a ∧ a < nmBy s e) → ∀ s', lkd s e s' → Q 1 s') : Sp_Md_isThere a x s Q := by
  obtain ⟨b1, b2, b3, b4, b5, b6, b7, b8, b9, b10, b11, b12, b13, b14⟩ := id hb
  have hc := bkN_cnt b6 he.1 he.2.1
  have hc : 0 ≤ nmBy s e ∧ nmBy s e ≤ s.1 4 := hc
  refine isB_a (Md_isName_B ra hb) (fun c => h0 (by omega) _ (frm_rf _ _ _)) (fun ca => isB_b (Md_isTold_B rx (by omega)) (fun c => absurd (show -1 ≤ x ∧ x ≤ s.1 29 by have := he.2.2; omega) c) (fun _ => ?_))
  refine Md_by_ok rx (show (0 ≤ x → e = x) ∧ (x < 0 → e = s.1 29) by have := he.2.2; omega) ?_
  refine Md_looks_ok hb hy he.1 he.2.1 (fun s1 hf g1 g2 g3 g4 g5 g6 g7 => ?_)
  have hF : frm mN mA s s1 := frm_mono hf (by decide) (by decide)
  refine ⟨ra, by rw [g1]; exact ⟨by omega, by omega⟩, fun c => h0 (by omega) _ hF, fun c => hk (by omega) s1 ⟨hF, g2, g3, g5.1, g6⟩⟩
end
