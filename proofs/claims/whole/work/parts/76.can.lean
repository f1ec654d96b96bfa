section
/-! can, could -/
def wN : List Nat := [8, 17]
def wA : List Nat := [28, 29, 30, 31, 32]
def cN : List Nat := [6, 8, 9, 10, 11, 12, 13, 14, 15, 16, 17, 33, 34, 35, 37, 38]
def cA : List Nat := [13, 14, 15, 27, 28, 29, 30, 31, 32, 33, 34, 35, 67, 68, 69, 70, 72, 73, 74, 82, 83, 84, 85, 86]
theorem frm_w {t u : SS} {e : Int} (hf : frm wN wA t u) : (iBook t → iBook u) ∧ (iKeys t → iKeys u) ∧ (∀ x, okE t x e → okE u x e) ∧ nmBy u e = nmBy t e ∧ linked u e = linked t e ∧ (∀ d R p, qOf u e d R p = qOf t e d R p) ∧ u.2 24 = t.2 24 ∧ u.1 7 = t.1 7 := by
  refine ⟨fun hb => iBook_agr (agr_of hf (by decide)) hb, fun hy => iKeys_agr (agr_of hf (by decide)) hy, fun x hx => by unfold okE; rw [hf.1 1 rfl]; exact hx, by unfold nmBy; rw [hf.2 60 rfl], ?_, fun d R p => ?_, hf.2 24 rfl, hf.1 7 rfl⟩
  · funext x v
    unfold linked
    rw [lk_agr (agr_of hf (by decide))]
  · funext w
    unfold qOf
    rw [st_agr (agr_of hf (by decide)), hf.2 19 rfl]
theorem hrd_roots {s t : SS} {e d a : Int} {P : Int → Int} (hb : iBook s) (h : hrd s e d a P t) : (0 ≤ t.1 9 ∧ t.1 9 ≤ 40) ∧ ∀ j, 0 ≤ j → j < t.1 9 → (0 ≤ t.2 35 j ∧ t.2 35 j < 40) ∧ (0 ≤ t.2 20 (t.2 35 j) ∧ t.2 20 (t.2 35 j) ≤ 1023) ∧ (0 ≤ t.2 21 (t.2 35 j) ∧ t.2 21 (t.2 35 j) ≤ 999) ∧ (0 ≤ t.2 22 (t.2 35 j) ∧ t.2 22 (t.2 35 j) ≤ 999) := by
  have b3 := hb.2.2.1
  have b13 := hb.2.2.2.2.2.2.2.2.2.2.2.2.1
  have hE := h.2.2.2.2.2.2.2.2.2.1
  have cb := cntP_b (rtB (qOf s e d P (P a)) (s.2 24) (s.1 7).toNat) (s.1 7).toNat
  have c9 := hE.1
  refine ⟨⟨by omega, by omega⟩, fun j j0 j1 => ?_⟩
  obtain ⟨y1, y2, y3, y4⟩ := hE.2 j j0 j1
  have x := b13 _ y1 y2
  rw [h.1.2 20 rfl, h.1.2 21 rfl, h.1.2 22 rfl]
  exact ⟨by omega, by omega, by omega, by omega⟩
theorem iLand_d {s t : SS} (hl : iLand s) (h : t.2 4 = s.2 4) (h' : t.2 59 = s.2 59) : dOk (t.2 4) ∧ dM (t.2 59) ∧ ∀ q p, 0 ≤ q → q < 10 → 0 ≤ p → p < 10 → t.2 59 (10 * q + p) = min (t.2 4 (q * 10 + p)) 100000 := by
  obtain ⟨l1, l2, l3, l4, l5, l6⟩ := hl
  rw [h, h']
  refine ⟨fun q p q0 q1 p0 p1 => ?_, fun q p q0 q1 p0 p1 => ?_, fun q p q0 q1 p0 p1 => ?_⟩
  · have := l3.1 q p ⟨q0, q1⟩ ⟨p0, p1⟩
    rw [show q * 10 + p = 10 * q + p by omega]
    omega
  · have := l3.1 q p ⟨q0, q1⟩ ⟨p0, p1⟩
    have := l6 q p ⟨q0, q1⟩ ⟨p0, p1⟩
    omega
  · rw [show q * 10 + p = 10 * q + p by omega]
    exact l6 q p ⟨q0, q1⟩ ⟨p0, p1⟩
theorem sim_can {a x : Int} {s : SS} {K : Int → Int → SS → Prop} (ra : rng a) (rx : rng x) (hl : iLand s) (hb : iBook s) (hy : iKeys s) (hE : iEar s) (hk : ∀ r s', rng r → dg s s' → frm cN cA s s' → iEar s' → K r r s') : Sp_LS_can a x s (fun p s1 => Sp_Md_can a x s1 (fun q s2 => K p q s2)) := by
  have b1 := hb.1
  have b3 := hb.2.2.1
  have b14 := hb.2.2.2.2.2.2.2.2.2.2.2.2.2
  have fin0 : ∀ s', frm mN2 mA2 s s' → K (-1) (-1) s' := fun s' hf => hk _ _ (by decide) (fun u _ _ => by rw [hf.2 13 rfl]) (frm_mono hf (by decide) (by decide)) (by unfold iEar; rw [hf.2 83 rfl]; exact hE)
  refine LS_upTo_ok rx b1.2 (fun e he => ?_)
  rcases he with ⟨e1, nt⟩ | he
  · refine isB_b (LS_isNameBy_B ra ⟨by omega, by omega⟩ hb) (fun _ => ?_) (fun q => absurd q (noBy hb e1))
    exact Md_hear_no hb ra rx nt (fin0 _ (frm_rf _ _ _))
  · refine isB_b (LS_isNameBy_B ra ⟨by have := he.1; omega, by have := he.2.1; omega⟩ hb) (fun c => ?_) (fun ca => ?_)
    · exact Md_hear_ok hb hy ra rx he (fun _ s' hf => fin0 s' hf) (fun q => absurd ((nm_iff hb he.1 he.2.1).mpr q) c)
    · have ca := (nm_iff hb he.1 he.2.1).mp ca
      refine He_open_ok hb hy he.1 he.2.1 ⟨by have := he.1; omega, by have := he.2.1; omega⟩ ca (fun P t ht => ?_)
      obtain ⟨tb, ty, te, tn, tL, tq, t24, t7⟩ := hrd_t ht hb hy
      obtain ⟨m0, hm⟩ := hrd_roots hb ht
      obtain ⟨d1, d2, d3⟩ := iLand_d (t := t) hl (ht.1.2 4 rfl) (ht.1.2 59 rfl)
      refine He_weigh_ok (m := t.1 9) rfl m0 (fun j j0 j1 => (hm j j0 j1).1) d1 (fun j j0 j1 => (hm j j0 j1).2) (fun u hu hw hs h17 hwk => ⟨h17, LS_bit_ok h17 ?_⟩)
      obtain ⟨w1, w2, w3, w4, w5, w6, w7, w8⟩ := frm_w (e := e) (show frm wN wA t u from hu)
      refine Md_hear_ok (w1 tb) (w2 ty) ra rx (w3 x (te x he)) (fun q => absurd (by rw [w4, tn]; exact ca) q) (fun _ R t3 hR hf3 hE3 => ?_)
      rw [w4, w5] at hR
      rw [w6, w7, w8] at hE3
      obtain ⟨u1, u2, u3⟩ := roots_g hb hy he.1 he.2.1 ca ht hR hE3
      have e77 : t3.2 77 = t.2 20 := by rw [hf3.2 77 rfl, hu.2 77 rfl, ht.1.2 77 rfl, ht.1.2 20 rfl, b14.2.2.1]
      have e78 : t3.2 78 = t.2 21 := by rw [hf3.2 78 rfl, hu.2 78 rfl, ht.1.2 78 rfl, ht.1.2 21 rfl, b14.2.2.2.1]
      have e79 : t3.2 79 = t.2 22 := by rw [hf3.2 79 rfl, hu.2 79 rfl, ht.1.2 79 rfl, ht.1.2 22 rfl, b14.2.2.2.2.1]
      have e59 : t3.2 59 = t.2 59 := by rw [hf3.2 59 rfl, hu.2 59 rfl]
      have e83 : t3.2 83 = s.2 83 := by rw [hf3.2 83 rfl, hu.2 83 rfl, ht.1.2 83 rfl]
      refine Md_canAll_ok (m := t.1 9) u1.1.symm m0 (fun j j0 j1 => by rw [← (u2 j j0 j1).1]; exact (hm j j0 j1).1) (by rw [e59]; exact d2) (by unfold iEar; rw [e83]; exact hE) (fun j j0 j1 => by rw [e77, e78, e79, ← (u2 j j0 j1).1]; exact (hm j j0 j1).2) (fun r s' hf' hm' hs' hr01 hcb => ?_)
      have pp := p2_pos (min 8 (t.1 9))
      have same := wk_cb (by omega) (by omega) hw hm' (fun k k0 k1 => by
        obtain ⟨a1, a2, a3⟩ := hs k k0 k1
        obtain ⟨c1, c2, c3⟩ := hs' k k0 k1
        rw [a1, a2, a3, c1, c2, c3, e77, e78, e79, ← (u2 k k0 (by omega)).1]
        exact ⟨rfl, rfl, rfl⟩) d1 (by rw [e59]; exact d3) (x := p2 (min 8 (t.1 9)) - 1) (by omega) (by omega)
      have er : u.1 17 = r := by
        have := hwk.trans (same.trans hcb.symm)
        omega
      have fin := hk r s' ⟨by omega, by omega⟩ (dg_tr (dg_tr ht.2.1 (fun i _ _ => by rw [hu.2 13 rfl])) (fun i _ _ => by rw [hf'.2 13 rfl, hf3.2 13 rfl])) (frm_tr (frm_tr (frm_tr (frm_mono ht.1 (by decide) (by decide)) (frm_mono hu (by decide) (by decide))) (frm_mono hf3 (by decide) (by decide))) (frm_mono hf' (by decide) (by decide))) hm'.2.2
      rw [er]
      refine ⟨⟨by omega, by omega⟩, fun z => ?_, fun z => ?_⟩
      · rw [z] at fin ⊢; exact fin
      · rw [show r = 1 by omega] at fin ⊢; exact fin
end
