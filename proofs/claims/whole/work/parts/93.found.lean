section
/-! RULES: found, count 7 -/
theorem st_both {s : SS} (hw : wOk s) {e n : Int} (hen : e ≤ n) : ∀ (t : Nat) (w : Int), 0 ≤ w → w < s.1 7 → w < t → st s e n w = (st s e e w && st s n n w) := by
  intro t
  induction t with
  | zero => intro w a b c; omega
  | succ t ih =>
    intro w w0 w1 wt
    obtain ⟨q1, q2, q3⟩ := hw.2 w w0 w1
    rw [st_w hw w0 w1, st_w hw w0 w1, st_w hw w0 w1]
    by_cases z : s.2 23 w < 0
    · rw [decide_eq_true z, Bool.true_or, Bool.true_or, Bool.true_or, Bool.and_true, Bool.and_true, Bool.and_true, Bool.eq_iff_iff, Bool.and_eq_true, decide_eq_true_eq, decide_eq_true_eq, decide_eq_true_eq]
      omega
    · rw [decide_eq_false z, Bool.false_or, Bool.false_or, Bool.false_or, ih _ (by omega) (by omega) (by omega), Bool.eq_iff_iff, Bool.and_eq_true, Bool.and_eq_true, Bool.and_eq_true, Bool.and_eq_true, Bool.and_eq_true, decide_eq_true_eq, decide_eq_true_eq, decide_eq_true_eq]
      constructor
      · rintro ⟨a, b, c⟩; exact ⟨⟨by omega, b⟩, ⟨by omega, c⟩⟩
      · rintro ⟨⟨a, b⟩, ⟨a', c⟩⟩; exact ⟨by omega, b, c⟩
def ihN : List Nat := [33, 34, 35, 37, 38]
def ihA : List Nat := [67, 68, 69, 70, 71, 72, 82, 83, 84, 85, 86, 92, 93]
theorem Md_isHeld_ok {f v : Int} {s t : SS} {Q : Int → SS → Prop} (hb : iBook s) (hF : iFind s) (hy : iKeys t) (hE : iEar t) (hag : agr lgN lgA s t) (h94 : t.2 94 = s.2 94 ∧ t.2 95 = s.2 95 ∧ t.2 96 = s.2 96) (f0 : 0 ≤ f) (f1 : f < s.1 0) (rv : rng v) (hDV : DV s (s.2 2 f) (s.2 1 f) (s.1 1) (s.2 0 f) v) (hk : ∀ s', frm ihN ihA t s' → iEar s' → (v = s.2 3 f → Q 1 s') ∧ (v ≠ s.2 3 f → Q 0 s')) : Sp_Md_isHeld f t Q := by
  have b1 := hb.1
  have b3 := hb.2.2.1
  obtain ⟨F1, F2, F3⟩ := hF
  obtain ⟨w1, w2, w3, w4, w5, w6, w7⟩ := F3 f f0 f1
  have t29 : t.1 29 = s.1 29 := hag.1 29 (by decide)
  have hag' : agr [4, 31] [6, 7, 60, 61, 62, 80] s t := ⟨fun k hk => hag.1 k (by revert hk; revert k; decide), fun j hj => hag.2 j (by revert hj; revert j; decide)⟩
  have ix : 0 ≤ f ∧ f < 30 := by omega
  intro X10 X46 g10 g46
  have hwn := (bkN_cnt hb.2.2.2.2.2.2.1 (e := s.1 1) (by omega) (by omega))
  have hWn : wdBy s (s.1 1) = s.1 7 := wd_all hb
  have hWe : 0 ≤ wdBy s (s.2 1 f) ∧ wdBy s (s.2 1 f) ≤ s.1 7 := bkN_cnt hb.2.2.2.2.2.2.1 (e := s.2 1 f) (by omega) (by omega)
  unfold B_Md_isHeld_e
  rw [t29, ← b1.1]
  refine Md_looks_g (Gh := s) hb hy hag' b1.2.1 (Int.le_refl _) (fun u1 hu1 _ _ _ _ _ y6 _ => ?_)
  rw [hWn] at y6
  -- the second look
  have look2 : ∀ (u2 : SS), frm [33, 34, 35] [67, 68, 69, 70, 71, 72] t u2 → (∀ w, 0 ≤ w → w < 40 → u2.2 71 w = if w < s.1 7 ∧ st s (s.1 1) (s.1 1) w = true then 1 else 0) → Sp_Md_looks (u2.2 95 f) u2 (fun s2 => X46 f 0 s2) := by
    intro u2 hu2 h71
    rw [hu2.2 95 rfl, h94.2.1, w6]
    refine Md_looks_g (Gh := s) hb (iKeys_agr (agr_of hu2 (by decide)) hy) ⟨fun k hk => ?_, fun j hj => ?_⟩ (by omega) (by omega) (fun u3 hu3 z1 z2 z3 z4 z5 z6 z7 => ?_)
    · have : ∀ k ∈ ([4, 31] : List Nat), ([33, 34, 35] : List Nat).contains k = false := by decide
      rw [hu2.1 k (this k hk)]; exact hag'.1 k hk
    · have : ∀ k ∈ ([6, 7, 60, 61, 62, 80] : List Nat), ([67, 68, 69, 70, 71, 72] : List Nat).contains k = false := by decide
      rw [hu2.2 j (this j hj)]; exact hag'.2 j hj
    have h71' : ∀ w, 0 ≤ w → w < 40 → u3.2 71 w = if w < s.1 7 ∧ st s (s.1 1) (s.1 1) w = true then 1 else 0 := fun w a b => by rw [hu3.2 71 rfl]; exact h71 w a b
    have loop : ∀ (n : Nat) (k : Int) (u : SS), 0 ≤ k → k ≤ 40 → 40 - k < n → frm [] [70] u3 u → (∀ w, 0 ≤ w → w < k → u.2 70 w = if w < wdBy s (s.2 1 f) ∧ st s (s.2 1 f) (s.1 1) w = true then 1 else 0) → (∀ w, k ≤ w → w < 40 → u.2 70 w = u3.2 70 w) → X46 f k u := by
      intro n
      induction n with
      | zero => intro k u a b c; omega
      | succ n ih =>
        intro k u k0 k1 kn hfu hlo hhi
        refine g46 _ _ _ ⟨⟨by omega, by omega⟩, fun c => ⟨ix, ?_⟩, fun c => ⟨⟨by omega, by omega⟩, ?_⟩⟩
        · have fu : frm [33, 34, 35] [67, 68, 69, 70, 71, 72] t u := frm_tr hu2 (frm_tr (frm_mono hu3 (by decide) (by decide)) (frm_mono hfu (by decide) (by decide)))
          rw [fu.2 94 rfl, h94.1, w5]
          have hm : mlk s (s.2 1 f) (s.1 1) u := by
            refine ⟨by rw [hfu.1 33 rfl]; exact z1, by rw [hfu.1 34 rfl]; exact z2, by rw [hfu.2 72 rfl]; exact z5.1, fun w a b => hlo w a (by omega), fun k hk => absurd hk (by simp), fun j hj => ?_⟩
            have : ∀ j ∈ ([59, 75, 76, 77, 78, 79, 80, 81, 87, 88, 89, 90, 91] : List Nat), j ∈ lgA ∧ ([67, 68, 69, 70, 71, 72] : List Nat).contains j = false := by decide
            rw [fu.2 j (this j hj).2]
            exact hag.2 j (this j hj).1
          have hN := bkN_cnt hb.2.2.2.2.2.1 (e := s.2 1 f) (by omega) (by omega)
          have b2 := hb.2.1
          refine ⟨by unfold nmBy at w2; omega, ?_⟩
          rw [show u.1 35 = s.2 2 f by rw [hfu.1 35 rfl, z3, w3.1]]
          refine hDV u _ hm (by unfold iEar; rw [fu.2 83 rfl]; exact hE) (fun u5 hu5 hE5 => ⟨ix, rv, ?_⟩)
          have fu5 : frm ihN ihA t u5 := frm_tr (frm_mono fu (by decide) (by decide)) (frm_mono hu5 (by decide) (by decide))
          rw [fu5.2 96 rfl, h94.2.2, w7]
          obtain ⟨k1', k0'⟩ := hk u5 fu5 hE5
          exact ⟨⟨by omega, by omega⟩, fun q => k0' q, fun q => k1' q⟩
        · have e70 := hhi k (Int.le_refl _) (by omega)
          have v70 := z6 k k0 (by omega)
          have v71 := h71' k k0 (by omega)
          have e71 : u.2 71 k = u3.2 71 k := by rw [hfu.2 71 rfl]
          rw [e70, v70, e71, v71]
          have put : ∀ (b : Int) (u' : SS), u' = sA u 70 k b → b = (if k < wdBy s (s.2 1 f) ∧ st s (s.2 1 f) (s.1 1) k = true then 1 else 0) → X46 f (k + 1) u' := by
            intro b u' h' hbv
            refine ih (k + 1) u' (by omega) (by omega) (by omega) (by rw [h']; exact frm_tr hfu (frm_A _ _ _ (by decide))) (fun w a b' => ?_) (fun w a b' => ?_)
            · rw [h', sA_s]
              by_cases q : w = k
              · rw [if_pos q, q]; exact hbv
              · rw [if_neg q]; exact hlo w a (by omega)
            · rw [h', sA_s, if_neg (by omega)]; exact hhi w (by omega) b'
          by_cases c1 : k < wdBy s (s.2 1 f) ∧ st s (s.2 1 f) (s.2 1 f) k = true
          · have hst := st_both (wOk_b hb) (e := s.2 1 f) (n := s.1 1) (by omega) (k.toNat + 1) k k0 (by omega) (by omega)
            rw [c1.2, Bool.true_and] at hst
            rw [if_pos c1]
            by_cases c2 : k < s.1 7 ∧ st s (s.1 1) (s.1 1) k = true
            · rw [if_pos c2]
              exact ⟨by decide, fun q => absurd q (by decide), fun _ => ⟨by omega, by decide, fun q => absurd q (by decide), fun _ => ⟨by omega, fun u' h' => put 1 u' h' (by rw [if_pos ⟨c1.1, by rw [hst]; exact c2.2⟩])⟩⟩⟩
            · rw [if_neg c2]
              exact ⟨by decide, fun q => absurd q (by decide), fun _ => ⟨by omega, by decide, fun _ => ⟨by omega, fun u' h' => put 0 u' h' (by rw [if_neg (fun q => c2 ⟨by omega, by rw [← hst]; exact q.2⟩)])⟩, fun q => absurd rfl q⟩⟩
          · rw [if_neg c1]
            refine ⟨by decide, fun _ => ⟨by omega, fun u' h' => put 0 u' h' ?_⟩, fun q => absurd rfl q⟩
            rw [if_neg]
            rintro ⟨q1, q2⟩
            have hst := st_both (wOk_b hb) (e := s.2 1 f) (n := s.1 1) (by omega) (k.toNat + 1) k k0 (by omega) (by omega)
            rw [q2] at hst
            have := hst.symm
            rw [Bool.and_eq_true] at this
            exact c1 ⟨q1, this.1⟩
    exact loop 41 0 u3 (by omega) (by omega) (by omega) (frm_rf _ _ _) (fun w a b => by omega) (fun _ _ _ => rfl)
  have loop1 : ∀ (n : Nat) (k : Int) (u : SS), 0 ≤ k → k ≤ 40 → 40 - k < n → frm [] [71] u1 u → (∀ w, 0 ≤ w → w < k → u.2 71 w = if w < s.1 7 ∧ st s (s.1 1) (s.1 1) w = true then 1 else 0) → X10 f k u := by
    intro n
    induction n with
    | zero => intro k u a b c; omega
    | succ n ih =>
      intro k u k0 k1 kn hfu hlo
      refine g10 _ _ _ ⟨⟨by omega, by omega⟩, fun c => ⟨ix, look2 u (frm_tr (frm_mono hu1 (by decide) (by decide)) (frm_mono hfu (by decide) (by decide))) (fun w a b => hlo w a (by omega))⟩, fun c => ⟨⟨by omega, by omega⟩, ⟨by omega, by omega⟩, ?_, fun u' h' => ?_⟩⟩
      · rw [hfu.2 70 rfl, y6 k k0 (by omega)]
        split
        · exact Or.inr rfl
        · exact Or.inl rfl
      · refine ih (k + 1) u' (by omega) (by omega) (by omega) (by rw [h']; exact frm_tr hfu (frm_A _ _ _ (by decide))) (fun w a b => ?_)
        rw [h', sA_s]
        by_cases q : w = k
        · rw [if_pos q, q, hfu.2 70 rfl]; exact y6 k k0 (by omega)
        · rw [if_neg q]; exact hlo w a (by omega)
  exact loop1 41 0 u1 (by omega) (by omega) (by omega) (frm_rf _ _ _) (fun w a b => by omega)
theorem mlk_up {s t s1 : SS} {e d : Int} (h : frm dN dA s t) (hm : mlk s e d s1) : mlk t e d s1 := by
  obtain ⟨m1, m2, m3, m4, m5⟩ := hm
  have en : nmBy t e = nmBy s e := by unfold nmBy; rw [h.2 60 rfl]
  have ew : wdBy t e = wdBy s e := by unfold wdBy; rw [h.2 60 rfl]
  have el : linked t e = linked s e := by
    funext u v
    unfold linked
    rw [lk_agr (agr_of h (by decide))]
  refine ⟨by rw [en]; exact m1, by rw [ew]; exact m2, by rw [en, el]; exact m3, fun w a b => ?_, fun k hk => absurd hk (by simp), fun j hj => ?_⟩
  · rw [ew, st_agr (agr_of h (by decide))]; exact m4 w a b
  · have : ∀ j ∈ ([59, 75, 76, 77, 78, 79, 80, 81, 87, 88, 89, 90, 91] : List Nat), dA.contains j = false := by decide
    rw [h.2 j (this j hj)]
    exact m5.2 j hj
theorem LS_holding_ok {lo hi : Int} {s : SS} {Q : Int → SS → Prop} (hl : iLand s) (hb : iBook s) (hy : iKeys s) (hr : iRule s) (hF : iFind s) (l0 : 0 ≤ lo) (l1 : lo ≤ hi) (h1 : hi ≤ s.1 0) (hk : ∀ (V : Int → Int) t, (∀ f, lo ≤ f → f < hi → (0 ≤ V f ∧ V f ≤ 9) ∧ DV s (s.2 2 f) (s.2 1 f) (s.1 1) (s.2 0 f) (V f)) → frm dN dA s t → dg s t → Q (cntP (fun i => decide (V (lo + i) = s.2 3 (lo + i))) (hi - lo).toNat) t) : Sp_LS_holding lo hi s Q := by
  have b1 := hb.1
  obtain ⟨F1, F2, F3⟩ := id hF
  intro X5 g5
  have key : ∀ (n : Nat) (k : Nat) (V : Int → Int) (t : SS), lo + k ≤ hi → hi - lo - k < n → frm dN dA s t → dg s t → (∀ f, lo ≤ f → f < lo + k → (0 ≤ V f ∧ V f ≤ 9) ∧ DV s (s.2 2 f) (s.2 1 f) (s.1 1) (s.2 0 f) (V f)) → X5 hi (cntP (fun i => decide (V (lo + i) = s.2 3 (lo + i))) k) (lo + k) t := by
    intro n
    induction n with
    | zero => intro k V t a b; omega
    | succ n ih =>
      intro k V t k1 kn hf hd hV
      have cb := cntP_b (fun i => decide (V (lo + i) = s.2 3 (lo + i))) k
      refine g5 _ _ _ _ ⟨⟨by omega, by omega⟩, ⟨by omega, by omega⟩, fun c => ?_, fun c => ⟨by omega, by omega, by omega, ?_⟩⟩
      · rw [show k = (hi - lo).toNat by omega]
        exact hk V t (fun f a b => hV f a (by omega)) hf hd
      · obtain ⟨w1, w2, w3, w4, w5, w6, w7⟩ := F3 (lo + k) (by omega) (by omega)
        rw [hf.2 2 rfl, hf.2 0 rfl, hf.2 1 rfl, hf.1 1 rfl]
        have nm : nmBy t (s.2 1 (lo + k)) = nmBy s (s.2 1 (lo + k)) := by unfold nmBy; rw [hf.2 60 rfl]
        have hrl := rl_lt hb (e := s.2 1 (lo + k)) (by omega) (by omega)
        refine LS_digitOf_ok (s := t) (iLand_agr (agr_of hf (by decide)) hl) (iBook_agr (agr_of hf (by decide)) hb) (iKeys_agr (agr_of hf (by decide)) hy) (iRule_agr (agr_of hf (by decide)) hr) (by omega) (by rw [hf.1 39 rfl]; omega) (by omega) (by rw [hf.1 1 rfl]; omega) ⟨by omega, by omega⟩ (by rw [nm]; exact w2) (fun v t2 hv hft hdg hDV => ⟨by omega, ⟨by omega, by omega⟩, ?_⟩)
        have hf2 := frm_tr hf hft
        rw [hf2.2 3 rfl]
        have hDs : DV s (s.2 2 (lo + k)) (s.2 1 (lo + k)) (s.1 1) (s.2 0 (lo + k)) v := fun s1 Q' hm => hDV s1 Q' (mlk_up hf hm)
        have nx := ih (k + 1) (fun f => if f = lo + k then v else V f) t2 (by omega) (by omega) hf2 (dg_tr hd hdg) (fun f a b => by
          by_cases z : f = lo + k
          · rw [if_pos z, z]; exact ⟨hv, hDs⟩
          · rw [if_neg z]; exact hV f a (by omega))
        rw [cntP_s, cntP_c (q := fun i => decide (V (lo + i) = s.2 3 (lo + i))) k (fun i i0 i1 => by
          show decide ((if lo + i = lo + (k : Int) then v else V (lo + i)) = s.2 3 (lo + i)) = _
          rw [if_neg (by omega)]), show lo + ((k + 1 : Nat) : Int) = lo + k + 1 by omega] at nx
        have e0 : (decide ((if lo + (k : Int) = lo + (k : Int) then v else V (lo + k)) = s.2 3 (lo + k)) = true) ↔ v = s.2 3 (lo + k) := by
          rw [if_pos rfl, decide_eq_true_eq]
        refine ⟨⟨by omega, by omega⟩, fun q => ?_, fun q => ?_⟩
        · rw [if_neg (fun z => q (e0.mp z)), Int.add_zero] at nx
          exact nx
        · rw [if_pos (e0.mpr q)] at nx
          exact nx
  have := key ((hi - lo).toNat + 1) 0 (fun _ => 0) s (by omega) (by omega) (frm_rf _ _ _) (dg_rf _) (fun f a b => by omega)
  rw [show lo + ((0 : Nat) : Int) = lo by omega] at this
  exact this
theorem sim_count7 {s : SS} {K : Int → Int → SS → Prop} (hl : iLand s) (hb : iBook s) (hy : iKeys s) (hr : iRule s) (hE : iEar s) (hF : iFind s) (hk : ∀ r s', rng r → dg s s' → frm fnN fnA s s' → iEar s' → K r r s') : Sp_LS_count 7 s (fun p s1 => Sp_Md_count 7 s1 (fun q s2 => K p q s2)) := by
  have b1 := hb.1
  obtain ⟨F1, F2, F3⟩ := id hF
  refine ⟨by decide, fun c => absurd c (by decide), fun c => absurd c (by decide), fun c => absurd c (by decide), fun c => absurd c (by decide), fun c => absurd c (by decide), fun c => absurd c (by decide), fun c => absurd c (by decide), fun _ => ?_, fun c => absurd c (by decide), fun c => absurd c (by decide), fun c => absurd c (by decide), fun c => absurd c (by decide), fun a b c d e f g h => absurd rfl h⟩
  refine LS_holding_ok hl hb hy hr hF (by omega) F2.1 (Int.le_refl _) (fun V t hV hft hdg => ?_)
  rw [show (s.1 0 - 0).toNat = (s.1 0).toNat by omega]
  intro X84 X148 X192 g84 g148 g192
  refine ⟨by decide, fun c => absurd c (by decide), fun c => absurd c (by decide), fun c => absurd c (by decide), fun c => absurd c (by decide), fun c => absurd c (by decide), fun c => absurd c (by decide), fun c => absurd c (by decide), fun _ => ?_, fun c => absurd c (by decide), fun c => absurd c (by decide), fun c => absurd c (by decide), fun c => absurd c (by decide), fun a b c d e f g h => absurd rfl h⟩
  have t44 : t.1 44 = s.1 44 := hft.1 44 rfl
  have key : ∀ (n : Nat) (k : Nat) (u : SS), (k : Int) ≤ s.1 0 → s.1 0 - k < n → frm ihN ihA t u → iEar u → X148 (cntP (fun i => decide (V (0 + i) = s.2 3 (0 + i))) k) k u := by
    intro n
    induction n with
    | zero => intro k u a b; omega
    | succ n ih =>
      intro k u k1 kn hfu hEu
      have u44 : u.1 44 = s.1 44 := by rw [hfu.1 44 rfl, t44]
      refine g148 _ _ _ ⟨⟨by omega, by omega⟩, by rw [u44]; exact ⟨by omega, by omega⟩, fun c => ?_, fun c => ?_⟩
      · rw [u44] at c
        have cb := cntP_b (fun i => decide (V (0 + i) = s.2 3 (0 + i))) k
        have := hk (cntP (fun i => decide (V (0 + i) = s.2 3 (0 + i))) k) u ⟨by omega, by omega⟩ (dg_tr hdg (fun i _ _ => by rw [hfu.2 13 rfl])) (frm_tr (frm_mono hft (by decide) (by decide)) (frm_mono hfu (by decide) (by decide))) hEu
        rw [show (s.1 0).toNat = k by omega]
        exact this
      · rw [u44] at c
        obtain ⟨v1, v2⟩ := hV k (by omega) (by omega)
        have fsu : frm fnN fnA s u := frm_tr (frm_mono hft (by decide) (by decide)) (frm_mono hfu (by decide) (by decide))
        refine Md_isHeld_ok (v := V k) hb hF (iKeys_agr (agr_of fsu (by decide)) hy) hEu (agr_of fsu (by decide)) ⟨fsu.2 94 rfl, fsu.2 95 rfl, fsu.2 96 rfl⟩ (by omega) (by omega) ⟨by omega, by omega⟩ v2 (fun s' hf' hE' => ?_)
        have nx := ih (k + 1) s' (by omega) (by omega) (frm_tr hfu hf') hE'
        rw [cntP_s, show ((k + 1 : Nat) : Int) = (k : Int) + 1 by omega, show (0 : Int) + (k : Int) = k by omega] at nx
        refine ⟨fun q => ⟨by decide, fun z => absurd z (by decide), fun _ => ?_⟩, fun q => ⟨by decide, fun _ => ?_, fun z => absurd rfl z⟩⟩
        · rw [if_pos (decide_eq_true q)] at nx; exact nx
        · rw [if_neg (fun z => q (of_decide_eq_true z))] at nx; exact nx
  have h0 := key ((s.1 0).toNat + 1) 0 t (by omega) (by omega) (frm_rf _ _ _) (by unfold iEar; rw [hft.2 83 rfl]; exact hE)
  exact h0
/-! what a finding leans on -/
def nthS (p : Int → Bool) (n i r : Int) : Prop := (0 ≤ r ∧ r < n ∧ p r = true ∧ cntP p r.toNat = i) ∨ (r = -1 ∧ ∀ w, 0 ≤ w → w < n → p w = true → cntP p w.toNat ≠ i)
theorem He_leanCount_ok {p : Int → Bool} {s : SS} {Q : Int → SS → Prop} (h7 : 0 ≤ s.1 7 ∧ s.1 7 ≤ 40) (h34 : ∀ r, 0 ≤ r → r < s.1 7 → s.2 34 r = if p r = true then 1 else 0) (hk : Q (cntP p (s.1 7).toNat) s) : Sp_He_leanCount s Q := by
  intro X4 g4
  have key : ∀ (n : Nat) (k : Nat), (k : Int) ≤ s.1 7 → s.1 7 - k < n → X4 (cntP p k) k s := by
    intro n
    induction n with
    | zero => intro k a b; omega
    | succ n ih =>
      intro k k1 kn
      refine g4 _ _ _ ⟨⟨by omega, by omega⟩, ⟨by omega, by omega⟩, fun c => ?_, fun c => ?_⟩
      · rw [show k = (s.1 7).toNat by omega]; exact hk
      · have nx := ih (k + 1) (by omega) (by omega)
        rw [cntP_s, show ((k + 1 : Nat) : Int) = (k : Int) + 1 by omega] at nx
        rw [h34 k (by omega) (by omega)]
        refine ⟨⟨by omega, by omega⟩, by split <;> decide, fun q => ?_, fun q => ?_⟩
        · by_cases z : p k = true
          · rw [if_pos z] at q; exact absurd q (by decide)
          · rw [if_neg z, Int.add_zero] at nx; exact nx
        · by_cases z : p k = true
          · rw [if_pos z] at nx; exact nx
          · rw [if_neg z] at q; exact absurd rfl q
  exact key ((s.1 7).toNat + 1) 0 (by omega) (by omega)
theorem He_leanAt_ok {p : Int → Bool} {i : Int} {s : SS} {Q : Int → SS → Prop} (ri : rng i) (h7 : 0 ≤ s.1 7 ∧ s.1 7 ≤ 40) (h34 : ∀ r, 0 ≤ r → r < s.1 7 → s.2 34 r = if p r = true then 1 else 0) (hk : ∀ r, nthS p (s.1 7) i r → Q r s) : Sp_He_leanAt i s Q := by
  intro X4 g4
  have key : ∀ (n : Nat) (k : Nat), (k : Int) ≤ s.1 7 → s.1 7 - k < n → (∀ w, 0 ≤ w → w < (k : Int) → p w = true → cntP p w.toNat ≠ i) → X4 i (cntP p k) k s := by
    intro n
    induction n with
    | zero => intro k a b; omega
    | succ n ih =>
      intro k k1 kn hn
      have cb := cntP_b p k
      refine g4 _ _ _ _ ⟨⟨by omega, by omega⟩, ⟨by omega, by omega⟩, fun c => hk _ (Or.inr ⟨rfl, fun w a b => hn w a (by omega)⟩), fun c => ?_⟩
      rw [h34 k (by omega) (by omega)]
      by_cases z : p k = true
      · rw [if_pos z]
        refine ⟨⟨by omega, by omega⟩, by decide, fun _ => ⟨⟨by omega, by omega⟩, ri, fun q => ?_, fun q => hk _ (Or.inl ⟨by omega, c, z, by rw [show (k : Int).toNat = k by omega]; exact q⟩)⟩, fun q => absurd q (by decide)⟩
        have nx := ih (k + 1) (by omega) (by omega) (fun w a b pw => by
          by_cases e : w = k
          · rw [e, show (k : Int).toNat = k by omega]; exact q
          · exact hn w a (by omega) pw)
        rw [cntP_s, if_pos z, show ((k + 1 : Nat) : Int) = (k : Int) + 1 by omega] at nx
        exact nx
      · rw [if_neg z]
        refine ⟨⟨by omega, by omega⟩, by decide, fun q => absurd rfl q, fun _ => ?_⟩
        have nx := ih (k + 1) (by omega) (by omega) (fun w a b pw => by
          by_cases e : w = k
          · rw [e] at pw; exact absurd pw z
          · exact hn w a (by omega) pw)
        rw [cntP_s, if_neg z, Int.add_zero, show ((k + 1 : Nat) : Int) = (k : Int) + 1 by omega] at nx
        exact nx
  exact key ((s.1 7).toNat + 1) 0 (by omega) (by omega) (fun w a b => by omega)
theorem enumP_in {p : Int → Bool} {n m : Int} {a : Int → Int} (h : enumP p n m a) {w : Int} (w0 : 0 ≤ w) (w1 : w < n) : p w = true ↔ ∃ j, 0 ≤ j ∧ j < m ∧ a j = w := by
  constructor
  · intro hp
    have hw : p ((w.toNat : Nat) : Int) = true := by rw [show ((w.toNat : Nat) : Int) = w by omega]; exact hp
    have lt := cntP_lt (p := p) (m := w.toNat) (n := n.toNat) (by omega) hw
    rw [h.1] at lt
    have cb := cntP_b p w.toNat
    obtain ⟨q1, q2, q3, q4⟩ := h.2 _ cb.1 lt
    refine ⟨_, cb.1, lt, ?_⟩
    have := cntP_inj (p := p) (m := (a (cntP p w.toNat)).toNat) (n := w.toNat) (by rw [show (((a (cntP p w.toNat)).toNat : Nat) : Int) = a (cntP p w.toNat) by omega]; exact q3) hw q4
    omega
  · rintro ⟨j, j0, j1, rfl⟩
    exact (h.2 j j0 j1).2.2.1
/-- the model goes through the words for what it leans on -/
theorem Md_leans_loop {i pr c m : Int} {p q : Int → Bool} {s : SS} {Q : Int → SS → Prop} {X33 : Int → Int → Int → Int → SS → Prop} {X78 : Int → Int → Int → Int → Int → Int → SS → Prop}
    (g33 : ∀ (x2 x3 x4 x5 : Int) (s : SS), B_Md_leans_33 Q X33 X78 x2 x3 x4 x5 s → X33 x2 x3 x4 x5 s) (g78 : ∀ (x2 x3 x4 x5 x6 x7 : Int) (s : SS), B_Md_leans_78 Q X33 X78 x2 x3 x4 x5 x6 x7 s → X78 x2 x3 x4 x5 x6 x7 s)
    (ri : rng i) (rp : rng pr) (h34 : s.1 34 = c) (hc : 0 ≤ c ∧ c ≤ 40) (h37 : s.1 37 = m) (hm : 0 ≤ m ∧ m ≤ 40) (hA : ∀ j, 0 ≤ j → j < m → rng (s.2 82 j))
    (hv : ∀ w, 0 ≤ w → w < c → rng (s.2 70 w) ∧ (0 ≤ s.2 76 w ∧ s.2 76 w < 20) ∧ rng (s.2 72 (s.2 76 w)) ∧ (q w = true ↔ (¬ s.2 70 w = 0 ∧ s.2 72 (s.2 76 w) = pr)) ∧ (p w = true ↔ (q w = true ∨ ∃ j, 0 ≤ j ∧ j < m ∧ s.2 82 j = w)))
    (hk1 : ∀ w, 0 ≤ w → w < c → p w = true → cntP p w.toNat = i → Q w s) (hk2 : (∀ w, 0 ≤ w → w < c → p w = true → cntP p w.toNat ≠ i) → (0 ≤ i → Q (-1) s) ∧ (i < 0 → Q (cntP p c.toNat) s)) : X33 i pr 0 0 s := by
  have key : ∀ (n : Nat) (k : Nat), (k : Int) ≤ c → c - k < n → (∀ w, 0 ≤ w → w < (k : Int) → p w = true → cntP p w.toNat ≠ i) → X33 i pr (cntP p k) k s := by
    intro n
    induction n with
    | zero => intro k a b; omega
    | succ n ih =>
      intro k k1 kn hn
      have cb := cntP_b p k
      refine g33 _ _ _ _ _ ⟨⟨by omega, by omega⟩, by rw [h34]; exact ⟨by omega, by omega⟩, fun d => ?_, fun d => ?_⟩
      · obtain ⟨a1, a2⟩ := hk2 (fun w a b => hn w a (by omega))
        rw [show c.toNat = k by omega] at a2
        exact ⟨ri, a1, a2⟩
      · obtain ⟨v1, v2, v3, v4, v5⟩ := hv k (by omega) (by omega)
        have yes : p k = true → ∀ (b : Nat) (j : Nat), (j : Int) ≤ m → m - j < b → X78 i pr (cntP p k) k 1 j s := by
          intro hp b
          induction b with
          | zero => intro j a b; omega
          | succ b ihb =>
            intro j j1 jb
            refine g78 _ _ _ _ _ _ _ ⟨⟨by omega, by omega⟩, by rw [h37]; exact ⟨by omega, by omega⟩, fun e => ⟨by decide, fun _ => ⟨⟨by omega, by omega⟩, ri, fun f => ?_, fun f => hk1 k (by omega) (by omega) hp (by rw [show (k : Int).toNat = k by omega]; exact f)⟩, fun z => absurd z (by decide)⟩, fun e => ⟨by decide, fun _ => ?_, fun z => absurd z (by decide)⟩⟩
            · have nx := ih (k + 1) (by omega) (by omega) (fun w a b pw => by
                by_cases e : w = k
                · rw [e, show (k : Int).toNat = k by omega]; exact f
                · exact hn w a (by omega) pw)
              rw [cntP_s, if_pos hp, show ((k + 1 : Nat) : Int) = (k : Int) + 1 by omega] at nx
              exact nx
            · have := ihb (j + 1) (by omega) (by omega)
              rw [show ((j + 1 : Nat) : Int) = (j : Int) + 1 by omega] at this
              exact this
        have look : ¬ q k = true → ∀ (b : Nat) (j : Nat), (j : Int) ≤ m → m - j < b → (∀ x, 0 ≤ x → x < (j : Int) → s.2 82 x ≠ k) → X78 i pr (cntP p k) k 0 j s := by
          intro hq b
          induction b with
          | zero => intro j a b; omega
          | succ b ihb =>
            intro j j1 jb hj
            refine g78 _ _ _ _ _ _ _ ⟨⟨by omega, by omega⟩, by rw [h37]; exact ⟨by omega, by omega⟩, fun e => ⟨by decide, fun z => absurd rfl z, fun _ => ?_⟩, fun e => ⟨by decide, fun z => absurd rfl z, fun _ => ⟨⟨by omega, by omega⟩, hA j (by omega) (by omega), ⟨by omega, by omega⟩, fun f => ?_, fun f => ?_⟩⟩⟩
            · have np : ¬ p k = true := fun z => by
                rcases v5.mp z with y | ⟨x, x0, x1, x2⟩
                · exact hq y
                · exact hj x x0 (by omega) x2
              have nx := ih (k + 1) (by omega) (by omega) (fun w a b pw => by
                by_cases e : w = k
                · rw [e] at pw; exact absurd pw np
                · exact hn w a (by omega) pw)
              rw [cntP_s, if_neg np, Int.add_zero, show ((k + 1 : Nat) : Int) = (k : Int) + 1 by omega] at nx
              exact nx
            · have := ihb (j + 1) (by omega) (by omega) (fun x x0 x1 => by
                by_cases z : x = j
                · rw [z]; exact f
                · exact hj x x0 (by omega))
              rw [show ((j + 1 : Nat) : Int) = (j : Int) + 1 by omega] at this
              exact this
            · have := yes (v5.mpr (Or.inr ⟨j, by omega, by omega, f⟩)) 100 (j + 1) (by omega) (by omega)
              rw [show ((j + 1 : Nat) : Int) = (j : Int) + 1 by omega] at this
              exact this
        have no0 : ¬ q k = true → X78 i pr (cntP p k) k 0 0 s := fun h => look h 100 0 (by omega) (by omega) (fun x a b => by omega)
        refine ⟨⟨by omega, by omega⟩, v1, fun e => no0 (fun z => (v4.mp z).1 e), fun e => ⟨⟨by omega, by omega⟩, v2, v3, rp, fun f => no0 (fun z => f (v4.mp z).2), fun f => yes (v5.mpr (Or.inl (v4.mpr ⟨e, f⟩))) 100 0 (by omega) (by omega)⟩⟩
  exact key (c.toNat + 1) 0 (by omega) (by omega) (fun w a b => by omega)
/-- the words that it leans on -/
def lnB (s : SS) (e a : Int) (P : Int → Int) : Int → Bool := fun w => rtB (qOf s e e P (P a)) (s.2 24) (s.1 7).toNat w || qOf s e e P (P a) w
theorem Md_leans_ok {f i : Int} {s t : SS} {P : Int → Int} {Q : Int → SS → Prop} (hb : iBook s) (hF : iFind s) (hy : iKeys t) (hag : agr lgN lgA s t) (h94 : t.2 94 = s.2 94 ∧ t.2 95 = s.2 95) (f0 : 0 ≤ f) (f1 : f < s.1 0) (ri : rng i) (hP : isP (linked s (s.2 1 f)) (nmBy s (s.2 1 f)) P)
    (hk1 : ∀ t3 r, frm [33, 34, 35, 37] [67, 68, 69, 70, 72, 82] t t3 → 0 ≤ i → nthS (lnB s (s.2 1 f) (s.2 0 f) P) (s.1 7) i r → Q r t3) (hk2 : ∀ t3, frm [33, 34, 35, 37] [67, 68, 69, 70, 72, 82] t t3 → i < 0 → Q (cntP (lnB s (s.2 1 f) (s.2 0 f) P) (s.1 7).toNat) t3) : Sp_Md_leans f i t Q := by
  obtain ⟨b1, b2, b3, b4, b5, b6, b7, b8, b9, b10, b11, b12, b13, b14⟩ := id hb
  obtain ⟨F1, F2, F3⟩ := hF
  obtain ⟨w1, w2, w3, w4, w5, w6, w7⟩ := F3 f f0 f1
  have e0 : 0 ≤ s.2 1 f := w1.1
  have e1 : s.2 1 f ≤ s.1 1 := by omega
  have ix : 0 ≤ f ∧ f < 30 := by omega
  have hc := bkN_cnt b6 e0 e1
  have hc : 0 ≤ nmBy s (s.2 1 f) ∧ nmBy s (s.2 1 f) ≤ s.1 4 := hc
  have hcW := bkN_cnt b7 e0 e1
  have hcW : 0 ≤ wdBy s (s.2 1 f) ∧ wdBy s (s.2 1 f) ≤ s.1 7 := hcW
  intro X33 X78 g33 g78
  refine ⟨ix, ?_⟩
  rw [h94.2, w6]
  refine Md_looks_g (Gh := s) hb hy ⟨fun k hk => hag.1 k (by revert hk; revert k; decide), fun j hj => hag.2 j (by revert hj; revert j; decide)⟩ e0 e1 (fun u1 hu1 z1 z2 z3 z4 z5 z6 z7 => ⟨ix, ?_⟩)
  rw [hu1.2 94 rfl, h94.1, w5]
  refine ⟨by omega, ?_⟩
  have hR := z5.1
  have e76 : u1.2 76 = s.2 19 := by rw [hu1.2 76 rfl, hag.2 76 (by decide), ← b14.2.1]
  refine Md_roots_g hb e0 e1 z2 hR z6 ⟨fun k hk => absurd hk (by simp), fun j hj => ?_⟩ w2 (fun u2 hu2 hEn => ?_)
  · have : ∀ j ∈ ([76, 81] : List Nat), j ∈ lgA ∧ ([67, 68, 69, 70, 72] : List Nat).contains j = false := by decide
    rw [hu1.2 j (this j hj).2]
    exact hag.2 j (this j hj).1
  have cb2 := cntP_b (rtB (qOf s (s.2 1 f) (s.2 1 f) (u1.2 72) (u1.2 72 (s.2 0 f))) (s.2 24) (s.1 7).toNat) (s.1 7).toNat
  have c37 := hEn.1
  have eq : ∀ w, 0 ≤ w → w < s.1 7 → qOf s (s.2 1 f) (s.2 1 f) P (P (s.2 0 f)) w = qOf s (s.2 1 f) (s.2 1 f) (u1.2 72) (u1.2 72 (s.2 0 f)) w := fun w a b => qOf_u hb e0 e1 hP hR w2 w a b
  have eqr : rtB (qOf s (s.2 1 f) (s.2 1 f) P (P (s.2 0 f))) (s.2 24) (s.1 7).toNat = rtB (qOf s (s.2 1 f) (s.2 1 f) (u1.2 72) (u1.2 72 (s.2 0 f))) (s.2 24) (s.1 7).toNat := by
    funext x
    exact rtB_c _ (fun w a b => eq w a (by omega))
  rw [← eqr] at hEn
  have pa := hR.2.1 _ w2.1 w2.2
  have ft : frm [33, 34, 35, 37] [67, 68, 69, 70, 72, 82] t u2 := frm_tr (frm_mono hu1 (by decide) (by decide)) (frm_mono hu2 (by decide) (by decide))
  -- beyond the words of then there is none
  have qlt : ∀ w, 0 ≤ w → w < s.1 7 → qOf s (s.2 1 f) (s.2 1 f) P (P (s.2 0 f)) w = true → w < wdBy s (s.2 1 f) := fun w a b hq => by
    unfold qOf at hq
    rw [Bool.and_eq_true] at hq
    exact (qOf_name hb e0 e1 a b hq.1).2
  have plt : ∀ w, 0 ≤ w → w < s.1 7 → lnB s (s.2 1 f) (s.2 0 f) P w = true → w < wdBy s (s.2 1 f) := fun w a b hp => by
    unfold lnB at hp
    rw [Bool.or_eq_true] at hp
    rcases hp with hp | hp
    · obtain ⟨x, x0, x1, x2, x3⟩ := (rtB_iff _).mp hp
      have := qlt x x0 (by omega) x2
      have y := b13 x x0 (by omega)
      omega
    · exact qlt w a b hp
  refine Md_leans_loop (c := wdBy s (s.2 1 f)) (m := u2.1 37) (p := lnB s (s.2 1 f) (s.2 0 f) P) (q := qOf s (s.2 1 f) (s.2 1 f) P (P (s.2 0 f))) g33 g78 ri ⟨by omega, by omega⟩ (by rw [hu2.1 34 rfl, z2]) ⟨hcW.1, by omega⟩ rfl (by omega) (fun j j0 j1 => ?_) (fun w a b => ?_) (fun w a b hp hcn => ?_) (fun hno => ⟨fun i0 => ?_, fun i0 => ?_⟩)
  · have := hEn.2 j j0 j1
    exact ⟨by omega, by omega⟩
  · have x := b13 w a (by omega)
    have wt := ((wd_iff hb e0 e1 (x := w)).mpr ⟨a, b⟩).2.2
    have cn := (nm_iff hb e0 e1 (a := s.2 19 w)).mp ⟨x.2.1.1, x.2.1.2.1, by have := x.2.1.2.2; omega⟩
    have pn := hR.2.1 _ cn.1 cn.2
    rw [hu2.2 70 rfl, hu2.2 76 rfl, hu2.2 72 rfl, e76, z6 w a (by omega)]
    refine ⟨by split <;> decide, by omega, ⟨by omega, by omega⟩, ?_, ?_⟩
    · rw [eq w a (by omega)]
      unfold qOf
      rw [Bool.and_eq_true, decide_eq_true_eq]
      refine and_congr_left (fun _ => ?_)
      by_cases y : st s (s.2 1 f) (s.2 1 f) w = true
      · rw [if_pos ⟨b, y⟩]; exact ⟨fun _ => by decide, fun _ => y⟩
      · rw [if_neg (fun z => y z.2)]; exact ⟨fun z => absurd z y, fun z => absurd rfl z⟩
    · unfold lnB
      rw [Bool.or_eq_true, enumP_in hEn a (by omega)]
      exact Or.comm
  · have hi : 0 ≤ i := by rw [← hcn]; exact (cntP_b _ _).1
    exact hk1 u2 w ft hi (Or.inl ⟨a, by omega, hp, hcn⟩)
  · exact hk1 u2 (-1) ft i0 (Or.inr ⟨rfl, fun w a b hp => hno w a (plt w a b hp) hp⟩)
  · have := hk2 u2 ft i0
    rw [cntP_stop (c := (wdBy s (s.2 1 f)).toNat) (s.1 7).toNat (by omega) (fun w a b hp => by
      have := plt w (by omega) (by omega) hp
      omega)] at this
    exact this
theorem or_ite (a b : Bool) : (if a = true ∨ b = true then (1 : Int) else 0) = if (a || b) = true then 1 else 0 := by cases a <;> cases b <;> rfl
theorem nthS_u {p : Int → Bool} {n i r r' : Int} (h : nthS p n i r) (h' : nthS p n i r') : r = r' := by
  rcases h with ⟨a, b, c, d⟩ | ⟨a, b⟩ <;> rcases h' with ⟨a', b', c', d'⟩ | ⟨a', b'⟩
  · have := cntP_inj (p := p) (m := r.toNat) (n := r'.toNat) (by rw [show ((r.toNat : Nat) : Int) = r by omega]; exact c) (by rw [show ((r'.toNat : Nat) : Int) = r' by omega]; exact c') (by rw [d, d'])
    omega
  · exact absurd d (b' r a b c)
  · exact absurd d' (b r' a' b' c')
  · rw [a, a']
theorem sim_found {f x : Int} {s : SS} {K : Int → Int → SS → Prop} (rf : rng f) (rx : rng x) (hl : iLand s) (hb : iBook s) (hy : iKeys s) (hr : iRule s) (hE : iEar s) (hF : iFind s) (hk : ∀ r s', rng r → dg s s' → frm fnN fnA s s' → iEar s' → K r r s') : Sp_LS_found f x s (fun p s1 => Sp_Md_found f x s1 (fun q s2 => K p q s2)) := by
  obtain ⟨F1, F2, F3⟩ := id hF
  have b1 := hb.1
  have b3 := hb.2.2.1
  have stay : ∀ v, rng v → K v v s := fun v rv => hk v s rv (dg_rf _) (frm_rf _ _ _) hE
  have no : ¬ (0 ≤ f ∧ f < s.1 0) → Sp_Md_found f x s (fun q s2 => K (-1) q s2) := fun h => ⟨rf, ⟨by omega, by omega⟩, isB_b (Md_isIn_B rf (by decide) ⟨by omega, by omega⟩ s) (fun _ => stay _ (by decide)) (fun q => by omega)⟩
  refine ⟨rf, fun c => no (by omega), fun c => ⟨rf, ⟨by omega, by omega⟩, fun d => ?_, fun d => no (by omega)⟩⟩
  have ix : 0 ≤ f ∧ f < 30 := by omega
  obtain ⟨w1, w2, w3, w4, w5, w6, w7⟩ := F3 f c d
  have b2 := hb.2.1
  have hN := bkN_cnt hb.2.2.2.2.2.1 (e := s.2 1 f) (by omega) (by omega)
  have hN : 0 ≤ nmBy s (s.2 1 f) ∧ nmBy s (s.2 1 f) ≤ s.1 4 := hN
  have go : ∀ (t : SS) (Q : Int → SS → Prop), t.1 44 = s.1 44 → (x = 0 → Q (t.2 94 f) t) → (x = 1 → Q (t.2 95 f) t) → (x = 2 → Q (t.2 96 f) t) → (x = 3 → Sp_Md_isHeld f t (fun r4 s3 => rng r4 ∧ ((r4 = 0 → Q 0 s3) ∧ (¬ r4 = 0 → Q 1 s3)))) → (x = 4 → Sp_Md_leans f (-1) t Q) → (10 ≤ x → Sp_Md_leans f (x - 10) t Q) → (¬ (0 ≤ x ∧ x ≤ 4) → x < 10 → Q (-1) t) → Sp_Md_found f x t Q := by
    intro t Q t44 q0 q1 q2 q3 q4 q10 qe
    refine ⟨rf, by rw [t44]; exact ⟨by omega, by omega⟩, ?_⟩
    rw [t44]
    exact isB_b (Md_isIn_B rf (by decide) ⟨by omega, by omega⟩ t) (fun q => by omega) (fun _ => ⟨rx, fun a => ⟨ix, q0 a⟩, fun a => ⟨ix, q1 a⟩, fun a => ⟨ix, q2 a⟩, q3, q4, fun a0 a1 a2 a3 a4 => ⟨rx, q10, qe (by omega)⟩⟩)
  have hopen : ∀ (A : SS → Prop), (∀ P t, hrd s (s.2 1 f) (s.2 1 f) (s.2 0 f) P t → A t) → Sp_LS_openAsFound f s A := fun A h => ⟨ix, ix, He_open_ok hb hy w1.1 (by omega) ⟨by omega, by omega⟩ w2 h⟩
  have e10 : ∀ {t : SS}, frm [6, 9, 10, 11, 12, 13, 14, 15, 16] [13, 14, 15, 27, 33, 34, 35] s t → frm fnN fnA s t := fun h => frm_mono h (by decide) (by decide)
  refine ⟨rx, fun e => ⟨ix, ?_⟩, fun e => ⟨ix, ?_⟩, fun e => ⟨ix, ?_⟩, fun e => ?_, fun e => ?_, fun a0 a1 a2 a3 a4 => ⟨rx, fun e => ?_, fun e => ?_⟩⟩
  · refine go s _ rfl (fun _ => by rw [w5]; exact stay _ ⟨by omega, by omega⟩) ?_ ?_ ?_ ?_ ?_ ?_ <;> intros <;> omega
  · refine go s _ rfl ?_ (fun _ => by rw [w6]; exact stay _ ⟨by omega, by omega⟩) ?_ ?_ ?_ ?_ ?_ <;> intros <;> omega
  · refine go s _ rfl ?_ ?_ (fun _ => by rw [w7]; exact stay _ ⟨by omega, by omega⟩) ?_ ?_ ?_ ?_ <;> intros <;> omega
  · refine LS_holding_ok hl hb hy hr hF c (by omega) (by omega) (fun V t hV hft hdg => ?_)
    obtain ⟨v1, v2⟩ := hV f (Int.le_refl _) (by omega)
    have e1 : cntP (fun i => decide (V (f + i) = s.2 3 (f + i))) (f + 1 - f).toNat = if V f = s.2 3 f then 1 else 0 := by
      rw [show (f + 1 - f).toNat = 0 + 1 by omega, cntP_s]
      show (0 : Int) + (if decide (V (f + ((0 : Nat) : Int)) = s.2 3 (f + ((0 : Nat) : Int))) = true then 1 else 0) = _
      rw [show f + ((0 : Nat) : Int) = f by omega, Int.zero_add]
      by_cases z : V f = s.2 3 f
      · rw [if_pos z, if_pos (decide_eq_true z)]
      · rw [if_neg z, if_neg (fun q => z (of_decide_eq_true q))]
    rw [e1]
    have fsu : frm fnN fnA s t := frm_mono hft (by decide) (by decide)
    have hEt : iEar t := by unfold iEar; rw [hft.2 83 rfl]; exact hE
    refine go t _ (hft.1 44 rfl) ?_ ?_ ?_ (fun _ => ?_) ?_ ?_ ?_ <;> try (intros; omega)
    refine Md_isHeld_ok (v := V f) hb hF (iKeys_agr (agr_of fsu (by decide)) hy) hEt (agr_of fsu (by decide)) ⟨fsu.2 94 rfl, fsu.2 95 rfl, fsu.2 96 rfl⟩ c d ⟨by omega, by omega⟩ v2 (fun s' hf' hE' => ?_)
    have fin := fun r (rr : rng r) => hk r s' rr (dg_tr hdg (fun i _ _ => by rw [hf'.2 13 rfl])) (frm_tr fsu (frm_mono hf' (by decide) (by decide))) hE'
    refine ⟨fun q => ⟨by decide, fun z => absurd z (by decide), fun _ => ?_⟩, fun q => ⟨by decide, fun _ => ?_, fun z => absurd rfl z⟩⟩
    · rw [if_pos q]; exact fin 1 (by decide)
    · rw [if_neg q]; exact fin 0 (by decide)
  · refine hopen _ (fun P t ht => ?_)
    have f1 := ht.1
    have hP := ht.2.2.1
    have h34 := ht.2.2.2.2.2.2.2.2.1
    have t7 : t.1 7 = s.1 7 := f1.1 7 rfl
    have fsu := e10 f1
    refine He_leanCount_ok (p := lnB s (s.2 1 f) (s.2 0 f) P) (by rw [t7]; exact b3.2) (fun r r0 r1 => ?_) ?_
    · rw [h34 r r0 (by omega)]
      exact or_ite _ _
    · rw [t7]
      refine go t _ (f1.1 44 rfl) ?_ ?_ ?_ ?_ (fun _ => ?_) ?_ ?_ <;> try (intros; omega)
      have cb := cntP_b (lnB s (s.2 1 f) (s.2 0 f) P) (s.1 7).toNat
      exact Md_leans_ok (P := P) hb hF (iKeys_agr (agr_of fsu (by decide)) hy) (agr_of fsu (by decide)) ⟨fsu.2 94 rfl, fsu.2 95 rfl⟩ c d (by decide) hP (fun t3 r _ q => absurd q (by decide)) (fun t3 hf3 _ => hk _ t3 ⟨by omega, by omega⟩ (dg_tr ht.2.1 (fun i _ _ => by rw [hf3.2 13 rfl])) (frm_tr fsu (frm_mono hf3 (by decide) (by decide))) (by unfold iEar; rw [hf3.2 83 rfl, f1.2 83 rfl]; exact hE))
  · refine hopen _ (fun P t ht => ?_)
    have f1 := ht.1
    have hP := ht.2.2.1
    have h34 := ht.2.2.2.2.2.2.2.2.1
    have t7 : t.1 7 = s.1 7 := f1.1 7 rfl
    have fsu := e10 f1
    have rx10 : rng (x - 10) := by have := rx.2; exact ⟨by omega, by omega⟩
    refine He_leanAt_ok (p := lnB s (s.2 1 f) (s.2 0 f) P) rx10 (by rw [t7]; exact b3.2) (fun r r0 r1 => ?_) (fun r hn => ?_)
    · rw [h34 r r0 (by omega)]
      exact or_ite _ _
    · rw [t7] at hn
      refine go t _ (f1.1 44 rfl) ?_ ?_ ?_ ?_ ?_ (fun _ => ?_) ?_ <;> try (intros; omega)
      have rr : rng r := by
        rcases hn with q | q
        · exact ⟨by omega, by omega⟩
        · rw [q.1]; decide
      exact Md_leans_ok (P := P) hb hF (iKeys_agr (agr_of fsu (by decide)) hy) (agr_of fsu (by decide)) ⟨fsu.2 94 rfl, fsu.2 95 rfl⟩ c d rx10 hP (fun t3 r' hf3 _ hn' => by rw [nthS_u hn' hn]; exact hk _ t3 rr (dg_tr ht.2.1 (fun i _ _ => by rw [hf3.2 13 rfl])) (frm_tr fsu (frm_mono hf3 (by decide) (by decide))) (by unfold iEar; rw [hf3.2 83 rfl, f1.2 83 rfl]; exact hE)) (fun t3 _ q => by omega)
  · refine go s _ rfl ?_ ?_ ?_ ?_ ?_ ?_ (fun _ _ => stay _ (by decide)) <;> intros <;> omega
end
