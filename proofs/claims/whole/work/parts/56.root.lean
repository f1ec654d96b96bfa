section
/-! root, eyes, last: both -/
theorem fin_h {s t s' : SS} {e d a : Int} {P : Int → Int} (h : hrd s e d a P t) (hf : frm mN2 mA2 t s') : dg s s' ∧ frm hN hA s s' := ⟨dg_tr h.2.1 (fun u _ _ => by rw [hf.2 13 rfl]), frm_tr (frm_mono h.1 (by decide) (by decide)) (frm_mono hf (by decide) (by decide))⟩
theorem fin_0 {s s' : SS} (hf : frm mN2 mA2 s s') : dg s s' ∧ frm hN hA s s' := ⟨fun u _ _ => by rw [hf.2 13 rfl], frm_mono hf (by decide) (by decide)⟩
theorem fin_r (s : SS) : dg s s ∧ frm hN hA s s := ⟨dg_rf _, frm_rf _ _ _⟩
theorem sim_root {a x i : Int} {s : SS} {K : Int → Int → SS → Prop} (ra : rng a) (rx : rng x) (ri : rng i) (hb : iBook s) (hy : iKeys s) (hk : ∀ r s', rng r → dg s s' ∧ frm hN hA s s' → K r r s') : Sp_LS_root a x i s (fun p s1 => Sp_Md_root a x i s1 (fun q s2 => K p q s2)) := by
  have b1 := hb.1
  have b3 := hb.2.2.1
  refine LS_upTo_ok rx b1.2 (fun e he => ?_)
  rcases he with ⟨e1, nt⟩ | he
  · refine isB_a (LS_isNameBy_B ra ⟨by omega, by omega⟩ hb) (fun _ => ?_) (fun q => absurd q (noBy hb e1))
    exact Md_hear_no hb ra rx nt (hk _ _ (by decide) (fin_r _))
  · refine isB_a (LS_isNameBy_B ra ⟨by have := he.1; omega, by have := he.2.1; omega⟩ hb) (fun c => ?_) (fun ca => ⟨ri, fun c => ?_, fun c => ?_⟩)
    · exact Md_hear_ok hb hy ra rx he (fun _ s' hf => hk _ _ (by decide) (fin_0 hf)) (fun q => absurd ((nm_iff hb he.1 he.2.1).mpr q) c)
    · have ca := (nm_iff hb he.1 he.2.1).mp ca
      refine He_open_ok hb hy he.1 he.2.1 ⟨by have := he.1; omega, by have := he.2.1; omega⟩ ca (fun P t ht => ?_)
      obtain ⟨tb, ty, te, tn, tL, tq, t24, t7⟩ := hrd_t ht hb hy
      have hE := ht.2.2.2.2.2.2.2.2.2.1
      have cb := cntP_b (rtB (qOf s e e P (P a)) (s.2 24) (s.1 7).toNat) (s.1 7).toNat
      have c9 := hE.1
      have md : ∀ v, (∀ t3 : SS, t.1 9 = t3.1 37 → (∀ j, 0 ≤ j → j < t.1 9 → t.2 35 j = t3.2 82 j) → (i = -1 → v = t3.1 37) ∧ (¬ i = -1 → 0 ≤ i ∧ i < t3.1 37 → v = t3.2 82 i) ∧ (¬ i = -1 → ¬ (0 ≤ i ∧ i < t3.1 37) → v = -1)) → rng v → Sp_Md_root a x i t (fun q s2 => K v q s2) := by
        intro v hv rv
        refine Md_hear_ok tb ty ra rx (te x he) (fun q => absurd (by rw [tn]; exact ca) q) (fun _ R t3 hR hf3 hE3 => ?_)
        obtain ⟨u1, u2, u3⟩ := roots_u hb hy he.1 he.2.1 ca ht hR hE3
        obtain ⟨v1, v2, v3⟩ := hv t3 u1 u2
        have fin := hk v t3 rv (fin_h ht hf3)
        refine ⟨ri, fun n1 => ⟨ri, ⟨by omega, by omega⟩, isB_a (Md_isIn_B ri (by decide) ⟨by omega, by omega⟩ t3) (fun q => ?_) (fun q => ⟨by omega, ?_⟩)⟩, fun z1 => ?_⟩
        · rw [v3 n1 (by omega)] at fin ⊢; exact fin
        · rw [← v2 n1 (by omega)]; exact fin
        · rw [← v1 z1]; exact fin
      refine ⟨ri, fun n1 => ⟨ri, ⟨by omega, by omega⟩, fun d => ⟨by omega, md _ (fun t3 u1 u2 => ⟨fun z => absurd z n1, fun _ q => u2 i q.1 d, fun _ q => absurd (by omega) q⟩) ?_⟩, fun d => md _ (fun t3 u1 u2 => ⟨fun z => absurd z n1, fun _ q => by omega, fun _ _ => rfl⟩) (by decide)⟩, fun z1 => md _ (fun t3 u1 u2 => ⟨fun _ => u1, fun n => absurd z1 n, fun n => absurd z1 n⟩) ⟨by omega, by omega⟩⟩
      have := hE.2 i (by omega) d
      exact ⟨by omega, by omega⟩
    · have ca := (nm_iff hb he.1 he.2.1).mp ca
      refine Md_hear_ok hb hy ra rx he (fun q => absurd ca q) (fun _ R t3 hR hf3 hE3 => ?_)
      have c37 := hE3.1
      have cb := cntP_b (rtB (qOf s e e R (R a)) (s.2 24) (s.1 7).toNat) (s.1 7).toNat
      exact ⟨ri, fun n1 => ⟨ri, ⟨by omega, by omega⟩, isB_a (Md_isIn_B ri (by decide) ⟨by omega, by omega⟩ t3) (fun q => hk _ _ (by decide) (fin_0 hf3)) (fun q => by omega)⟩, fun z1 => by omega⟩
theorem sim_eyes {a x : Int} {s : SS} {K : Int → Int → SS → Prop} (ra : rng a) (rx : rng x) (hb : iBook s) (hy : iKeys s) (hk : ∀ r s', rng r → dg s s' ∧ frm hN hA s s' → K r r s') : Sp_LS_eyes a x s (fun p s1 => Sp_Md_eyes a x s1 (fun q s2 => K p q s2)) := by
  have b1 := hb.1
  have b3 := hb.2.2.1
  have b13 := hb.2.2.2.2.2.2.2.2.2.2.2.2.1
  have b14 := hb.2.2.2.2.2.2.2.2.2.2.2.2.2
  refine LS_upTo_ok rx b1.2 (fun e he => ?_)
  rcases he with ⟨e1, nt⟩ | he
  · refine isB_b (LS_isNameBy_B ra ⟨by omega, by omega⟩ hb) (fun _ => ?_) (fun q => absurd q (noBy hb e1))
    exact Md_hear_no hb ra rx nt (hk _ _ (by decide) (fin_r _))
  · refine isB_b (LS_isNameBy_B ra ⟨by have := he.1; omega, by have := he.2.1; omega⟩ hb) (fun c => ?_) (fun ca => ?_)
    · exact Md_hear_ok hb hy ra rx he (fun _ s' hf => hk _ _ (by decide) (fin_0 hf)) (fun q => absurd ((nm_iff hb he.1 he.2.1).mpr q) c)
    · have ca := (nm_iff hb he.1 he.2.1).mp ca
      refine He_open_ok hb hy he.1 he.2.1 ⟨by have := he.1; omega, by have := he.2.1; omega⟩ ca (fun P t ht => ?_)
      obtain ⟨tb, ty, te, tn, tL, tq, t24, t7⟩ := hrd_t ht hb hy
      have h11 := ht.2.2.2.2.2.2.2.2.2.2.1
      show Sp_Md_eyes a x t (fun q s2 => K (t.1 11) q s2)
      rw [h11]
      refine Md_hear_ok tb ty ra rx (te x he) (fun q => absurd (by rw [tn]; exact ca) q) (fun _ R t3 hR hf3 hE3 => ?_)
      obtain ⟨u1, u2, u3⟩ := roots_u hb hy he.1 he.2.1 ca ht hR hE3
      have cb := cntP_b (rtB (qOf s e e P (P a)) (s.2 24) (s.1 7).toNat) (s.1 7).toNat
      have c37 := u3.1
      have e75 : t3.2 75 = s.2 18 := by rw [hf3.2 75 rfl, ht.1.2 75 rfl, ← b14.1]
      refine Md_eyesOf_ok (m := t3.1 37) rfl (by omega) (fun j j0 j1 => ?_) ?_
      · obtain ⟨y1, y2, -⟩ := u3.2 j j0 j1
        rw [e75]
        exact ⟨by omega, (b13 _ y1 y2).1⟩
      · have sl := seenL_W (wi := s.2 18) u3 (s.1 7).toNat (by omega)
        rw [c37] at sl
        rw [e75, sl]
        have lt := seenW_lt (rt := rtB (qOf s e e P (P a)) (s.2 24) (s.1 7).toNat) (wi := s.2 18) (s.1 7).toNat (fun w w0 w1 => (b13 w w0 (by omega)).1)
        have pl := popN_le (n := seenW (rtB (qOf s e e P (P a)) (s.2 24) (s.1 7).toNat) (s.2 18) (s.1 7).toNat) (by omega)
        exact hk _ _ ⟨by omega, by omega⟩ (fin_h ht hf3)
theorem sim_last {a x : Int} {s : SS} {K : Int → Int → SS → Prop} (ra : rng a) (rx : rng x) (hb : iBook s) (hy : iKeys s) (hk : ∀ r s', rng r → dg s s' ∧ frm hN hA s s' → K r r s') : Sp_LS_last a x s (fun p s1 => Sp_Md_last a x s1 (fun q s2 => K p q s2)) := by
  have b1 := hb.1
  have b3 := hb.2.2.1
  have b13 := hb.2.2.2.2.2.2.2.2.2.2.2.2.1
  have b14 := hb.2.2.2.2.2.2.2.2.2.2.2.2.2
  refine LS_upTo_ok rx b1.2 (fun e he => ?_)
  rcases he with ⟨e1, nt⟩ | he
  · refine isB_b (LS_isNameBy_B ra ⟨by omega, by omega⟩ hb) (fun _ => ?_) (fun q => absurd q (noBy hb e1))
    exact Md_hear_no hb ra rx nt (hk _ _ (by decide) (fin_r _))
  · refine isB_b (LS_isNameBy_B ra ⟨by have := he.1; omega, by have := he.2.1; omega⟩ hb) (fun c => ?_) (fun ca => ?_)
    · exact Md_hear_ok hb hy ra rx he (fun _ s' hf => hk _ _ (by decide) (fin_0 hf)) (fun q => absurd ((nm_iff hb he.1 he.2.1).mpr q) c)
    · have ca := (nm_iff hb he.1 he.2.1).mp ca
      refine He_open_ok hb hy he.1 he.2.1 ⟨by have := he.1; omega, by have := he.2.1; omega⟩ ca (fun P t ht => ?_)
      obtain ⟨tb, ty, te, tn, tL, tq, t24, t7⟩ := hrd_t ht hb hy
      have h13 := ht.2.2.2.2.2.2.2.2.2.2.2.1
      have hE := ht.2.2.2.2.2.2.2.2.2.1
      have cb := cntP_b (rtB (qOf s e e P (P a)) (s.2 24) (s.1 7).toNat) (s.1 7).toNat
      have c9 := hE.1
      have lo := lastR_ok (la := s.2 22) (a := t.2 35) (t.1 9).toNat (fun j j0 j1 => (hE.2 j j0 (by omega)).1)
      have lv : t.1 13 = -1 ∨ (0 ≤ t.1 13 ∧ t.1 13 < 40) := by
        rw [h13]
        rcases lo with z | ⟨z, j, j0, j1, j2⟩
        · exact Or.inl z.1
        · have := hE.2 j j0 (by omega)
          rw [j2] at this
          exact Or.inr ⟨z, by omega⟩
      have md : ∀ v, (0 ≤ t.1 13 → v = t.1 13) → (t.1 13 < 0 → v = -5) → Sp_Md_last a x t (fun q s2 => K v q s2) := by
        intro v w1 w2
        refine Md_hear_ok tb ty ra rx (te x he) (fun q => absurd (by rw [tn]; exact ca) q) (fun _ R t3 hR hf3 hE3 => ?_)
        obtain ⟨u1, u2, u3⟩ := roots_u hb hy he.1 he.2.1 ca ht hR hE3
        have e79 : t3.2 79 = s.2 22 := by rw [hf3.2 79 rfl, ht.1.2 79 rfl, ← b14.2.2.2.2.1]
        refine Md_lastRoot_ok (m := t3.1 37) rfl (by omega) (fun j j0 j1 => ?_) ?_
        · obtain ⟨y1, y2, -⟩ := u3.2 j j0 j1
          have x := b13 _ y1 y2
          rw [e79]
          exact ⟨by omega, ⟨by omega, by omega⟩⟩
        · have eq : lastR (t3.2 79) (t3.2 82) (t3.1 37).toNat = t.1 13 := by
            rw [e79, h13, ← u1]
            exact (lastR_c _ (fun j j0 j1 => u2 j j0 (by omega))).symm
          rw [eq]
          refine ⟨⟨by omega, by omega⟩, fun c => ?_, fun c => ?_⟩
          · rw [w1 c]; exact hk _ _ ⟨by omega, by omega⟩ (fin_h ht hf3)
          · rw [w2 c]; exact hk _ _ (by decide) (fin_h ht hf3)
      exact ⟨⟨by omega, by omega⟩, fun c => md _ (fun _ => rfl) (fun q => by omega), fun c => md _ (fun q => by omega) (fun _ => rfl)⟩
end
