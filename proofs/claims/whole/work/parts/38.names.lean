section
/-! NAMES: name, key, join, part -/
def iKeys (s : SS) : Prop := ∀ k, 0 ≤ k → k < s.1 4 → s.2 7 k = s.2 65 k ∧ (0 ≤ s.2 7 k ∧ s.2 7 k ≤ 12) ∧ ∀ i, 0 ≤ i → i < s.2 7 k → s.2 64 (12 * k + i) = s.2 6 (12 * k + i) - 97 ∧ 97 ≤ s.2 6 (12 * k + i) ∧ s.2 6 (12 * k + i) ≤ 122
theorem iKeys_agr {s t : SS} (h : agr [4] [6, 7, 64, 65] s t) (q : iKeys s) : iKeys t := by
  unfold iKeys
  rw [h.1 4 (by decide), h.2 6 (by decide), h.2 7 (by decide), h.2 64 (by decide), h.2 65 (by decide)]
  exact q
theorem Ta_at_ok {i : Int} {s : SS} {K : Int → SS → Prop} (h : iTape s) (h0 : 0 ≤ i) (h1 : i < s.1 3) (hk : K (s.2 63 i) s) : Sp_Ta_at i s K := by
  obtain ⟨i1, i2, i3⟩ := h
  refine ⟨⟨by omega, by omega⟩, fun c => by omega, fun _ => ⟨⟨by omega, by omega⟩, ⟨by omega, by omega⟩, fun _ => ⟨⟨by omega, by omega⟩, ?_⟩, fun c => by omega⟩⟩
  rw [← (i3 i h0 h1).1]
  exact hk
def goodN (s : SS) : Prop := (1 ≤ s.1 3 ∧ s.1 3 ≤ 12) ∧ ∀ i, 0 ≤ i → i < s.1 3 → 97 ≤ s.2 63 i ∧ s.2 63 i ≤ 122
theorem Na_canRead_B {s : SS} (h : iTape s) : isB (goodN s) s (Sp_Na_canRead s) := by
  intro K h1 h0
  have h2 := h.2.1
  intro X21 h21
  refine ⟨⟨by omega, by omega⟩, fun c => h0 (fun q => by have := q.1; omega), fun c => ⟨⟨by omega, by omega⟩, fun c2 => ?_, fun c2 => h0 (fun q => by have := q.1; omega)⟩⟩
  have key : ∀ (t : Nat) (i : Int), 0 ≤ i → i ≤ s.1 3 → s.1 3 - i < t → (∀ j, 0 ≤ j → j < i → 97 ≤ s.2 63 j ∧ s.2 63 j ≤ 122) → X21 i s := by
    intro t
    induction t with
    | zero => intro i a b c; omega
    | succ t ih =>
      intro i a b d hj
      refine h21 _ _ ⟨⟨by omega, by omega⟩, ⟨by omega, by omega⟩, fun e => h1 ⟨⟨c, c2⟩, fun j j0 j1 => hj j j0 (by omega)⟩, fun e => ?_⟩
      have hb := h.2.2 i a e
      refine Ta_at_ok h a e ⟨⟨by omega, by omega⟩, fun f => h0 (fun q => by have := q.2 i a e; omega), fun f => Ta_at_ok h a e ⟨⟨by omega, by omega⟩, fun g => ?_, fun g => h0 (fun q => by have := q.2 i a e; omega)⟩⟩
      refine ih (i + 1) (by omega) (by omega) (by omega) (fun j j0 j1 => ?_)
      by_cases q : j = i
      · rw [q]; exact ⟨f, g⟩
      · exact hj j j0 (by omega)
  exact key 20 0 (by omega) (by omega) (by omega) (fun j a b => by omega)
def tapeL (s : SS) : List Int := (List.range (s.1 3).toNat).map (fun i : Nat => s.2 63 (i : Int))
theorem tapeL_len (s : SS) : (tapeL s).length = (s.1 3).toNat := by unfold tapeL; rw [List.length_map, List.length_range]
theorem tapeL_get (s : SS) {i : Nat} (h : i < (s.1 3).toNat) : (tapeL s).getD i 0 = s.2 63 (i : Int) := by
  unfold tapeL
  rw [List.getD_eq_getElem?_getD, List.getElem?_map, List.getElem?_range h]
  rfl
theorem tapeL_ltr {s : SS} (h : goodN s) : ltr (tapeL s) := by
  intro v hv
  obtain ⟨i, hi, rfl⟩ := List.mem_map.mp hv
  rw [List.mem_range] at hi
  exact h.2 i (by omega) (by omega)
theorem Na_enter_ok {entry : Int} {s : SS} {Q : Int → SS → Prop} (ht : iTape s) (hg : goodN s) (hN : 0 ≤ s.1 4 ∧ s.1 4 < 20)
    (hk : ∀ s', frm [4] [6, 7, 8, 17] s s' → s'.1 4 = s.1 4 + 1 → (∀ i : Nat, i < (keyF (tapeL s)).length → s'.2 6 (12 * s.1 4 + i) = (keyF (tapeL s)).getD i 0) → (∀ x, x < 12 * s.1 4 → s'.2 6 x = s.2 6 x) → s'.2 7 = updF (s.2 7) (s.1 4) ((keyF (tapeL s)).length : Int) → s'.2 8 = updF (s.2 8) (s.1 4) entry → Q (s.1 4) s') : Sp_Na_enter entry s Q := by
  intro X13 X64 h13 h64
  have tl := tapeL_len s
  have lt := tapeL_ltr hg
  have g1 := hg.1
  have kl := keyF_ok lt
  have h12 : (tapeL s).length ≤ 12 := by omega
  -- the copy
  have c64 : ∀ (t i : Nat) (s1 : SS), i + t = (keyF (tapeL s)).length → frm [] [6, 17] s s1 → pre (s1.2 17) (keyF (tapeL s)) → (∀ j : Nat, j < i → s1.2 6 (12 * s.1 4 + j) = (keyF (tapeL s)).getD j 0) → (∀ x, x < 12 * s.1 4 → s1.2 6 x = s.2 6 x) → X64 entry ((keyF (tapeL s)).length : Int) (i : Int) s1 := by
    intro t
    induction t with
    | zero =>
      intro i s1 hi hf e2 e4 e5
      have q4 : s1.1 4 = s.1 4 := hf.1 4 rfl
      refine h64 _ _ _ _ ⟨⟨by omega, by omega⟩, ⟨by omega, by omega⟩, fun _ => ?_, fun c => by omega⟩
      rw [q4]
      refine ⟨hN, fun s16 h16 => ?_⟩
      have q16 : s16.1 4 = s.1 4 := by rw [h16, sA_1, q4]
      rw [q16]
      refine ⟨hN, fun s17 h17 s18 h18 => ?_⟩
      have q18 : s18.1 4 = s.1 4 + 1 := by rw [h18, sF_s, h17, sA_1, q16]
      rw [q18, Int.add_sub_cancel]
      refine hk s18 ?_ q18 (fun j hj => ?_) (fun x hx => ?_) ?_ ?_
      · rw [h18, h17, h16]
        exact frm_tr (frm_tr (frm_tr (frm_mono hf (by decide) (by decide)) (frm_A s1 _ _ (by decide))) (frm_A _ _ _ (by decide))) (frm_F _ _ (by decide))
      · rw [h18, sF_2, h17, sA_n _ _ _ (by decide), h16, sA_n _ _ _ (by decide)]
        exact e4 j (by omega)
      · rw [h18, sF_2, h17, sA_n _ _ _ (by decide), h16, sA_n _ _ _ (by decide)]
        exact e5 x hx
      · rw [h18, sF_2, h17, sA_n _ _ _ (by decide), h16, sA_u, hf.2 7 rfl]
      · rw [h18, sF_2, h17, sA_u, h16, sA_n _ _ _ (by decide), hf.2 8 rfl]
    | succ t ih =>
      intro i s1 hi hf e2 e4 e5
      have q4 : s1.1 4 = s.1 4 := hf.1 4 rfl
      refine h64 _ _ _ _ ⟨⟨by omega, by omega⟩, ⟨by omega, by omega⟩, fun c => by omega, fun _ => ?_⟩
      rw [q4, show s.1 4 * 12 + (i : Int) = 12 * s.1 4 + (i : Int) by omega]
      refine ⟨by omega, by omega, fun s2 h2 => ?_⟩
      have e6 : ∀ x, s2.2 6 x = if x = 12 * s.1 4 + (i : Int) then s1.2 17 (i : Int) else s1.2 6 x := by intro x; rw [h2, sA_s]
      refine ih (i + 1) s2 (by omega) (by rw [h2]; exact frm_tr hf (frm_A s1 _ _ (by decide))) (by rw [h2, sA_n _ _ _ (by decide)]; exact e2) (fun j hj => ?_) (fun x hx => ?_)
      · rw [e6]
        by_cases q : j = i
        · subst q
          rw [if_pos rfl, e2 j (by omega)]
        · rw [if_neg (by omega)]
          exact e4 j (by omega)
      · rw [e6, if_neg (by omega)]
        exact e5 x hx
  have c13 : ∀ (t i : Nat) (s1 : SS), i + t = (tapeL s).length → frm [] [17] s s1 → (∀ j : Nat, j < i → s1.2 17 (j : Int) = ((tapeL s).map plF).getD j 0) → X13 entry ((tapeL s).length : Int) (i : Int) s1 := by
    intro t
    induction t with
    | zero =>
      intro i s1 hi hf e2
      refine h13 _ _ _ _ ⟨⟨by omega, by omega⟩, ⟨by omega, by omega⟩, fun _ => ?_, fun c => by omega⟩
      have ml : ((tapeL s).map plF).length = (tapeL s).length := List.length_map ..
      have hml := map_ltr lt
      have bl := blR_both _ ((tapeL s).map plF) (Nat.le_refl _)
      have hb := bl.2 hml
      have l1 := gF_len0 drH (blR ((tapeL s).map plF))
      have l2 := gF_len0 drT (gF drH 0 [] (blR ((tapeL s).map plF)))
      rw [show (((tapeL s).length : Nat) : Int) = ((((tapeL s).map plF).length : Nat) : Int) by rw [ml]]
      refine Na_blendPh_ok hml (by omega) (fun j hj => e2 j (by omega)) (fun s2 hf2 p2 => ?_)
      refine Na_dropBreaths_ok hb (by omega) p2 (fun s3 hf3 p3 => ?_)
      refine Na_dropTwins_ok (gF_ltr hb) (by omega) p3 (fun s4 hf4 p4 => ?_)
      refine Na_dropVowels_ok (gF_ltr (gF_ltr hb)) (by omega) p4 (fun s5 hf5 p5 => ?_)
      have hff := frm_tr (frm_tr (frm_tr (frm_tr hf hf2) hf3) hf4) hf5
      exact c64 _ 0 s5 (Nat.zero_add _) (frm_mono hff (by decide) (by decide)) p5 (fun j hj => absurd hj (Nat.not_lt_zero _)) (fun x _ => by rw [hff.2 6 rfl])
    | succ t ih =>
      intro i s1 hi hf e2
      refine h13 _ _ _ _ ⟨⟨by omega, by omega⟩, ⟨by omega, by omega⟩, fun c => by omega, fun _ => ?_⟩
      have ht1 : iTape s1 := iTape_agr (agr_of hf (by decide)) ht
      have q3 : s1.1 3 = s.1 3 := hf.1 3 rfl
      have il : i < (s.1 3).toNat := by omega
      refine Ta_at_ok ht1 (by omega) (by omega) ?_
      rw [hf.2 63 rfl, ← tapeL_get s il]
      refine Na_alike_ok (ltr_rng lt (by omega)) ⟨by omega, fun s4 h4 => ?_⟩
      refine ih (i + 1) s4 (by omega) (by rw [h4]; exact frm_tr hf (frm_A s1 _ _ (by decide))) (fun j hj => ?_)
      rw [h4, sA_s]
      by_cases q : j = i
      · subst q
        rw [if_pos rfl]
        have il2 : j < (tapeL s).length := by omega
        rw [List.getD_eq_getElem?_getD, List.getD_eq_getElem?_getD, List.getElem?_map, List.getElem?_eq_getElem il2]
        rfl
      · rw [if_neg (by omega)]
        exact e2 j (by omega)
  refine ⟨⟨by omega, by omega⟩, ?_⟩
  rw [show min (s.1 3) 12 = ((tapeL s).length : Int) by omega]
  exact c13 _ 0 s (Nat.zero_add _) (frm_rf _ _ s) (fun j hj => absurd hj (Nat.not_lt_zero _))
theorem Md_name_ok {s : SS} {Q : Int → SS → Prop} (ht : iTape s) (hb : iBook s) (h1 : ¬ goodN s → Q (-2) s) (h2 : goodN s → (s.1 4 = 20 ∨ s.1 1 = 200) → Q (-4) s)
    (hk : goodN s → s.1 4 < 20 → s.1 1 < 200 → ∀ s', frm [29, 30, 31, 32] [60, 61, 62, 64, 65, 66] s s' → s'.1 30 = 0 → s'.1 29 = s.1 1 + 1 → s'.1 31 = s.1 4 + 1 → s'.2 60 = updF (s.2 60) (s.1 1) 1 → s'.2 61 = updF (s.2 61) (s.1 1) (s.1 4) → s'.2 62 = updF (s.2 62) (s.1 1) 0 → s'.2 65 = updF (s.2 65) (s.1 4) ((keyF (tapeL s)).length : Int) → (∀ i : Nat, i < (keyF (tapeL s)).length → s'.2 64 (12 * s.1 4 + i) = (keyF (tapeL s)).getD i 0 - 97) → (∀ x, x < 12 * s.1 4 → s'.2 64 x = s.2 64 x) → Q (s.1 4) s') : Sp_Md_name s Q := by
  obtain ⟨b1, b2, -⟩ := hb
  have t1 := ht.1
  have t2 := ht.2.1
  intro X15 h15
  have key : ∀ (t : Nat) (g i : Int), 0 ≤ i → i ≤ s.1 3 → s.1 3 - i < t → (g = 1 ∧ (1 ≤ s.1 3 ∧ s.1 3 ≤ 12) ∧ (∀ j, 0 ≤ j → j < i → 97 ≤ s.2 63 j ∧ s.2 63 j ≤ 122)) ∨ (g = 0 ∧ ¬ goodN s) → X15 g i s := by
    intro t
    induction t with
    | zero => intro g i a b c; omega
    | succ t ih =>
      intro g i a b d hj
      have rg : rng g := by rcases hj with q | q <;> rw [q.1] <;> decide
      refine h15 _ _ _ ⟨⟨by omega, by omega⟩, by rw [← t1]; exact ⟨by omega, by omega⟩, fun e => ⟨rg, fun f => ?_, fun f => ?_⟩, fun e => ⟨rg, fun f => ?_, fun f => ?_⟩⟩
      · have q := hj.resolve_right (fun q => f q.1)
        have hg : goodN s := ⟨q.2.1, fun j j0 j1 => q.2.2 j j0 (by omega)⟩
        refine ⟨by rw [← b2.1]; exact ⟨by omega, by omega⟩, fun c => h2 hg (Or.inl (by omega)), fun c => ⟨by rw [← b1.1]; exact ⟨by omega, by omega⟩, fun c2 => ?_, fun c2 => h2 hg (Or.inr (by omega))⟩⟩
        rw [← b2.1]
        refine Md_findKey_ok ⟨by omega, by omega⟩ (tapeL_ltr hg) (by rw [tapeL_len]; omega) (by rw [tapeL_len]; omega) (fun j hjl => (tapeL_get s (by rw [tapeL_len] at hjl; exact hjl)).symm) (fun s3 hf3 e65 e64 e64b s4 h4 => ?_)
        have q29 : s4.1 29 = s.1 1 := by rw [h4, sF_n _ _ (by decide), hf3.1 29 rfl, b1.1]
        have q31 : s4.1 31 = s.1 4 := by rw [h4, sF_n _ _ (by decide), hf3.1 31 rfl, b2.1]
        have q2 : s4.2 = s3.2 := by rw [h4]; rfl
        rw [q31]
        refine Md_enters_ok ⟨by omega, by omega⟩ (fun s5 hf5 e29 e60 e61 e62 s6 h6 => ?_)
        have q31' : s6.1 31 = s.1 4 + 1 := by rw [h6, sF_s, hf5.1 31 rfl, q31]
        rw [q31', Int.add_sub_cancel]
        rw [q29, q2] at e60 e61 e62
        refine hk hg (by omega) (by omega) s6 ?_ ?_ (by rw [h6, sF_n _ _ (by decide), e29, q29]) q31' ?_ ?_ ?_ ?_ ?_ ?_
        · rw [h6]
          refine frm_tr (frm_tr (frm_tr (frm_mono hf3 (by decide) (by decide)) ?_) (frm_mono hf5 (by decide) (by decide))) (frm_F s5 _ (by decide))
          rw [h4]
          exact frm_F s3 _ (by decide)
        · rw [h6, sF_n _ _ (by decide), hf5.1 30 rfl, h4, sF_s]
        · rw [h6, sF_2, e60, hf3.2 60 rfl]
        · rw [h6, sF_2, e61, hf3.2 61 rfl]
        · rw [h6, sF_2, e62, hf3.2 62 rfl]
        · rw [h6, sF_2, hf5.2 65 rfl, q2, e65]
        · rw [h6, sF_2, hf5.2 64 rfl, q2]; exact e64
        · rw [h6, sF_2, hf5.2 64 rfl, q2]; exact e64b
      · exact h1 ((hj.resolve_left (fun q => by omega)).2)
      · exact ih 0 (i + 1) (by omega) (by omega) (by omega) (Or.inr ⟨rfl, (hj.resolve_left (fun q => by omega)).2⟩)
      · have q := hj.resolve_right (fun q => f q.1)
        have hv := ht.2.2 i a (by omega)
        refine ⟨⟨by omega, by omega⟩, ⟨by omega, by omega⟩, isB_a (Md_isIn_B ⟨by omega, by omega⟩ (by decide) (by decide) s) (fun c => ?_) (fun c => ?_)⟩
        · exact ih 0 (i + 1) (by omega) (by omega) (by omega) (Or.inr ⟨rfl, fun g => c (g.2 i a (by omega))⟩)
        · refine ih 1 (i + 1) (by omega) (by omega) (by omega) (Or.inl ⟨rfl, q.2.1, fun j j0 j1 => ?_⟩)
          by_cases z : j = i
          · rw [z]; exact c
          · exact q.2.2 j j0 (by omega)
  refine ⟨by rw [← t1]; exact ⟨by omega, by omega⟩, ?_⟩
  refine Md_isIn_B (by rw [← t1]; exact ⟨by omega, by omega⟩) (by decide) (by decide) s _ (fun c => ?_) (fun c => ?_)
  · exact key 300 1 0 (by omega) (by omega) (by omega) (Or.inl ⟨rfl, by omega, fun j a b => by omega⟩)
  · exact key 300 0 0 (by omega) (by omega) (by omega) (Or.inr ⟨rfl, fun g => c (by have := g.1; omega)⟩)
theorem sim_name {s : SS} {K : Int → Int → SS → Prop} (ht : iTape s) (hb : iBook s) (hy : iKeys s) (hk : ∀ r s', rng r → iTape s' → iBook s' → iKeys s' → s.1 4 ≤ s'.1 4 → s.1 7 = s'.1 7 → (∀ k, 0 ≤ k → k < s.1 4 → s'.2 8 k = s.2 8 k) → frm [1, 3, 4, 29, 30, 31, 32] [6, 7, 8, 17, 60, 61, 62, 64, 65, 66] s s' → grw s s' → K r r s') : Sp_LS_name s (fun x s1 => Sp_Md_name s1 (fun y s2 => K x y s2)) := by
  obtain ⟨b1, b2, b3, b4, b5, b6, b7, b8, b9, b10, b11, b12, b13, b14⟩ := id hb
  have stay : ∀ v : Int, rng v → K v v s := fun v hv => hk v s hv ht hb hy (Int.le_refl _) rfl (fun _ _ _ => rfl) (frm_rf _ _ s) (grw_rf s)
  refine isB_b (Na_canRead_B ht) (fun c => ?_) (fun c => ?_)
  · exact Md_name_ok ht hb (fun _ => stay _ (by decide)) (fun g => absurd g c) (fun g => absurd g c)
  · have full : s.1 4 = 20 ∨ s.1 1 = 200 → Sp_Md_name s (fun y s2 => K (-4) y s2) := fun f => Md_name_ok ht hb (fun q => absurd c q) (fun _ _ => stay _ (by decide)) (fun _ _ _ => by omega)
    refine ⟨⟨by omega, by omega⟩, fun d => full (Or.inl (by omega)), fun d => isB_a (LS_bookIsFull_B b1.2) (fun e => ?_) (fun e => full (Or.inr e))⟩
    refine Na_enter_ok ht c ⟨b2.2.1, d⟩ (fun s1 hf1 e4 e6 e6b e7 e8 s2 h2 s3 h3 => ?_)
    have q2 : s3.2 = s1.2 := by rw [h3, sF_2, h2, sF_2]
    have f3 : frm [1, 3, 4] [6, 7, 8, 17] s s3 := by
      rw [h3, h2]
      exact frm_tr (frm_tr (frm_mono hf1 (by decide) (by decide)) (frm_F s1 _ (by decide))) (frm_F _ _ (by decide))
    have p1 : s3.1 1 = s.1 1 + 1 := by rw [h3, sF_n _ _ (by decide), h2, sF_s, hf1.1 1 rfl]
    have p3 : s3.1 3 = 0 := by rw [h3, sF_s]
    have p4 : s3.1 4 = s.1 4 + 1 := by rw [h3, sF_n _ _ (by decide), h2, sF_n _ _ (by decide), e4]
    -- the model at s3: its own parts are as before
    have mt : s3.2 63 = s.2 63 := f3.2 63 rfl
    have m30 : s3.1 30 = s.1 3 := by rw [f3.1 30 rfl, ht.1]
    have m29 : s3.1 29 = s.1 1 := by rw [f3.1 29 rfl, b1.1]
    have m31 : s3.1 31 = s.1 4 := by rw [f3.1 31 rfl, b2.1]
    -- walk the model from s3
    have walk : ∀ (Q : Int → SS → Prop), (∀ s', frm [29, 30, 31, 32] [60, 61, 62, 64, 65, 66] s3 s' → s'.1 30 = 0 → s'.1 29 = s.1 1 + 1 → s'.1 31 = s.1 4 + 1 → s'.2 60 = updF (s.2 60) (s.1 1) 1 → s'.2 61 = updF (s.2 61) (s.1 1) (s.1 4) → s'.2 62 = updF (s.2 62) (s.1 1) 0 → s'.2 65 = updF (s.2 65) (s.1 4) ((keyF (tapeL s)).length : Int) → (∀ i : Nat, i < (keyF (tapeL s)).length → s'.2 64 (12 * s.1 4 + i) = (keyF (tapeL s)).getD i 0 - 97) → (∀ x, x < 12 * s.1 4 → s'.2 64 x = s.2 64 x) → Q (s.1 4) s') → Sp_Md_name s3 Q := by
      intro Q hq
      intro X15 h15
      have t2 := ht.2.1
      have key : ∀ (t : Nat) (i : Int), 0 ≤ i → i ≤ s.1 3 → s.1 3 - i < t → X15 1 i s3 := by
        intro t
        induction t with
        | zero => intro i a b c; omega
        | succ t ih =>
          intro i a b d2
          refine h15 _ _ _ ⟨⟨by omega, by omega⟩, by rw [m30]; exact ⟨by omega, by omega⟩, fun e => ⟨by decide, fun f => ?_, fun f => absurd f (by decide)⟩, fun e => ⟨by decide, fun f => absurd f (by decide), fun f => ?_⟩⟩
          · refine ⟨by rw [m31]; exact ⟨by omega, by omega⟩, fun c => by omega, fun _ => ⟨by rw [m29]; exact ⟨by omega, by omega⟩, fun _ => ?_, fun c2 => by omega⟩⟩
            rw [m31]
            refine Md_findKey_ok ⟨by omega, by omega⟩ (tapeL_ltr c) (by rw [tapeL_len]; have := c.1; omega) (by rw [tapeL_len, m30]; omega) (fun j hjl => by rw [mt]; exact (tapeL_get s (by rw [tapeL_len] at hjl; exact hjl)).symm) (fun s4 hf4 e65 e64 e64b s5 h5 => ?_)
            have q29 : s5.1 29 = s.1 1 := by rw [h5, sF_n _ _ (by decide), hf4.1 29 rfl, m29]
            have q31 : s5.1 31 = s.1 4 := by rw [h5, sF_n _ _ (by decide), hf4.1 31 rfl, m31]
            have q2' : s5.2 = s4.2 := by rw [h5]; rfl
            rw [q31]
            refine Md_enters_ok ⟨by omega, by omega⟩ (fun s6 hf6 e29 e60 e61 e62 s7 h7 => ?_)
            have q31' : s7.1 31 = s.1 4 + 1 := by rw [h7, sF_s, hf6.1 31 rfl, q31]
            rw [q31', Int.add_sub_cancel]
            rw [q29, q2'] at e60 e61 e62
            refine hq s7 ?_ ?_ (by rw [h7, sF_n _ _ (by decide), e29, q29]) q31' ?_ ?_ ?_ ?_ ?_ ?_
            · rw [h7]
              refine frm_tr (frm_tr (frm_tr (frm_mono hf4 (by decide) (by decide)) ?_) (frm_mono hf6 (by decide) (by decide))) (frm_F s6 _ (by decide))
              rw [h5]
              exact frm_F s4 _ (by decide)
            · rw [h7, sF_n _ _ (by decide), hf6.1 30 rfl, h5, sF_s]
            · rw [h7, sF_2, e60, hf4.2 60 rfl, f3.2 60 rfl]
            · rw [h7, sF_2, e61, hf4.2 61 rfl, f3.2 61 rfl]
            · rw [h7, sF_2, e62, hf4.2 62 rfl, f3.2 62 rfl]
            · rw [h7, sF_2, hf6.2 65 rfl, q2', e65, f3.2 65 rfl]
            · rw [h7, sF_2, hf6.2 64 rfl, q2']; exact e64
            · intro x hx; rw [h7, sF_2, hf6.2 64 rfl, q2', e64b x hx, f3.2 64 rfl]
          · have hv := c.2 i a (by omega)
            refine ⟨⟨by omega, by omega⟩, by rw [mt]; exact ⟨by omega, by omega⟩, isB_a (Md_isIn_B (by rw [mt]; exact ⟨by omega, by omega⟩) (by decide) (by decide) s3) (fun q => absurd (by rw [mt]; exact hv) q) (fun _ => ih (i + 1) (by omega) (by omega) (by omega))⟩
      refine ⟨by rw [m30]; exact ⟨by omega, by omega⟩, Md_isIn_B (by rw [m30]; exact ⟨by omega, by omega⟩) (by decide) (by decide) s3 _ (fun _ => key 300 0 (by omega) (by omega) (by omega)) (fun q => absurd (by rw [m30]; exact c.1) q)⟩
    refine walk _ (fun s' hf' w30 w29 w31 w60 w61 w62 w65 w64 w64b => ?_)
    have r1 : s'.1 1 = s.1 1 + 1 := by rw [hf'.1 1 rfl, p1]
    have r3 : s'.1 3 = 0 := by rw [hf'.1 3 rfl, p3]
    have r4 : s'.1 4 = s.1 4 + 1 := by rw [hf'.1 4 rfl, p4]
    have r6 : s'.2 6 = s1.2 6 := by rw [hf'.2 6 rfl, q2]
    have r7 : s'.2 7 = updF (s.2 7) (s.1 4) ((keyF (tapeL s)).length : Int) := by rw [hf'.2 7 rfl, q2, e7]
    have r8 : s'.2 8 = updF (s.2 8) (s.1 4) (s.1 1) := by rw [hf'.2 8 rfl, q2, e8]
    have ff : frm [1, 3, 4, 29, 30, 31, 32] [6, 7, 8, 17, 60, 61, 62, 64, 65, 66] s s' := frm_tr (frm_mono f3 (by decide) (by decide)) (frm_mono hf' (by decide) (by decide))
    have kl := keyF_ok (tapeL_ltr c)
    have tl := tapeL_len s
    have g1 := c.1
    have n8 : ∀ k, 0 ≤ k → k < s.1 4 → updF (s.2 8) (s.1 4) (s.1 1) k = s.2 8 k := fun k _ h => updF_n _ _ (by omega)
    refine hk _ s' ⟨by omega, by omega⟩ ⟨by omega, by omega, fun i a b => by omega⟩ ?_ ?_ (by omega) (ff.1 7 rfl).symm (fun k k0 k1 => by rw [r8]; exact n8 k k0 k1) ff (grw_u w60 b1.1 (by omega))
    · refine ⟨⟨by omega, by omega, by omega⟩, ⟨by omega, by omega, by omega⟩, ?_, ?_, ?_, ?_⟩
      · rw [ff.1 7 rfl, ff.1 36 rfl]; exact b3
      · rw [ff.1 18 rfl, ff.1 39 rfl]; exact b4
      · rw [ff.1 5 rfl, r1]; omega
      · rw [w60, w61, w62, r1, r8, r4, ff.2 25 rfl, ff.1 7 rfl, ff.2 39 rfl, ff.1 18 rfl, ff.2 9 rfl, ff.2 10 rfl, ff.2 11 rfl, ff.2 12 rfl, ff.1 5 rfl, ff.2 26 rfl, ff.2 18 rfl, ff.2 19 rfl, ff.2 20 rfl, ff.2 21 rfl, ff.2 22 rfl, ff.2 23 rfl, ff.2 24 rfl, ff.2 75 rfl, ff.2 76 rfl, ff.2 77 rfl, ff.2 78 rfl, ff.2 79 rfl, ff.2 80 rfl, ff.2 81 rfl]
        exact ⟨bkN_s b6 b1.2.1, bkN_o b7 b1.2.1 (by decide), bkN_o b8 b1.2.1 (by decide), bkD_o b9 b1.2.1 (by decide) (by omega) n8, bkW_o b10 (by decide) (Int.le_refl _) (fun w _ _ => ⟨rfl, rfl⟩) (fun w h1 h2 => by omega), bkR_o b11 (by decide), typ_o b12 (by decide), bkO_nm b13 (by omega) n8, b14⟩
    · intro k k0 k1
      rw [r7, w65, r6]
      by_cases e2 : k = s.1 4
      · subst e2
        rw [updF_s, updF_s]
        refine ⟨rfl, by omega, fun i i0 i1 => ?_⟩
        have z1 := e6 i.toNat (by omega)
        have z2 := w64 i.toNat (by omega)
        rw [show ((i.toNat : Nat) : Int) = i by omega] at z1 z2
        have z3 := kl.1 _ (getD_mem (l := keyF (tapeL s)) (i := i.toNat) (by omega))
        rw [z1, z2]
        exact ⟨rfl, z3.1, z3.2⟩
      · rw [updF_n _ _ e2, updF_n _ _ e2]
        obtain ⟨y1, y2, y3⟩ := hy k k0 (by omega)
        refine ⟨y1, y2, fun i i0 i1 => ?_⟩
        rw [w64b _ (by omega), e6b _ (by omega)]
        exact y3 i i0 i1
theorem sim_key {a i : Int} {s : SS} {K : Int → Int → SS → Prop} (ra : rng a) (ri : rng i) (hb : iBook s) (hy : iKeys s) (hk : ∀ r, rng r → K r r s) : Sp_LS_key a i s (fun x s1 => Sp_Md_key a i s1 (fun y s2 => K x y s2)) := by
  have b2 := hb.2.1
  refine isB_b (LS_isName_B ra hb) (fun c => ?_) (fun c => ?_)
  · exact isB_a (Md_isName_B ra hb) (fun _ => hk _ (by decide)) (fun q => absurd q c)
  · obtain ⟨y1, y2, y3⟩ := hy a c.1 c.2
    have no : (i < -1 ∨ s.2 7 a ≤ i) → Sp_Md_key a i s (fun y s2 => K (-5) y s2) := fun f => isB_a (Md_isName_B ra hb) (fun q => absurd c q) (fun _ => ⟨ri, by omega, by rw [← y1]; exact ⟨by omega, by omega⟩, isB_b (Md_isIn_B ri (by decide) (by rw [← y1]; exact ⟨by omega, by omega⟩) s) (fun _ => hk _ (by decide)) (fun q => by omega)⟩)
    have yes : ∀ v, -1 ≤ i → i < s.2 7 a → (0 ≤ i → v = s.2 64 (12 * a + i)) → (i < 0 → v = s.2 65 a) → rng v → Sp_Md_key a i s (fun y s2 => K v y s2) := fun v f g e1 e2 rv => isB_a (Md_isName_B ra hb) (fun q => absurd c q) (fun _ => ⟨ri, by omega, by rw [← y1]; exact ⟨by omega, by omega⟩, isB_b (Md_isIn_B ri (by decide) (by rw [← y1]; exact ⟨by omega, by omega⟩) s) (fun q => by omega) (fun _ => ⟨ri, fun h => ⟨by omega, by rw [← e1 h]; exact hk _ rv⟩, fun h => ⟨by omega, by rw [← e2 h]; exact hk _ rv⟩⟩)⟩)
    refine ⟨by omega, ri, fun d => ⟨ri, fun e => no (by omega), fun e => ⟨ri, ⟨by omega, by omega⟩, fun f => ⟨by omega, ?_⟩, fun f => no (by omega)⟩⟩, fun d => yes _ (by omega) (by omega) (fun h => by omega) (fun _ => y1) ⟨by omega, by omega⟩⟩
    have z := y3 i e f
    rw [show a * 12 + i = 12 * a + i by omega]
    exact yes _ (by omega) f (fun _ => z.1.symm) (fun h => by omega) ⟨by omega, by omega⟩
theorem sim_decree {a b k u : Int} {s : SS} {K : Int → Int → SS → Prop} (ra : rng a) (rb : rng b) (hu : (u = 2 ∧ k = 1) ∨ (u = 3 ∧ k = 2)) (hb : iBook s) (hk : ∀ r s', rng r → iBook s' → frm [1, 5, 29] [9, 10, 11, 12, 60, 61, 62] s s' → grw s s' → K r r s') : Sp_LS_decree a b k s (fun x s1 => Sp_Md_relates u a b s1 (fun y s2 => K x y s2)) := by
  obtain ⟨b1, b2, b3, b4, b5, b6, b7, b8, b9, b10, b11, b12, b13, b14⟩ := id hb
  have stay : ∀ v : Int, rng v → K v v s := fun v hv => hk v s hv hb (frm_rf _ _ s) (grw_rf s)
  have no : ¬ (0 ≤ a ∧ a < s.1 4) ∨ ¬ (0 ≤ b ∧ b < s.1 4) → Sp_Md_relates u a b s (fun y s2 => K (-1) y s2) := fun f => isB_a (Md_isName_B ra hb) (fun _ => stay _ (by decide)) (fun q => isB_b (Md_isName_B rb hb) (fun _ => stay _ (by decide)) (fun q2 => absurd f (by omega)))
  refine isB_a (LS_isName_B ra hb) (fun c => no (Or.inl c)) (fun ca => isB_b (LS_isName_B rb hb) (fun c => no (Or.inr c)) (fun cb => ⟨ra, rb, fun ne => isB_a (LS_bookIsFull_B b1.2) (fun nf => ?_) (fun f => ?_), fun e => ?_⟩))
  · -- it comes
    have go : ∀ s7 : SS, frm [5] [9, 10, 11, 12] s s7 → s7.1 5 = s.1 5 + 1 → s7.2 9 = updF (s.2 9) (s.1 5) a → s7.2 10 = updF (s.2 10) (s.1 5) b → s7.2 11 = updF (s.2 11) (s.1 5) k → s7.2 12 = updF (s.2 12) (s.1 5) (s.1 1) → ∀ s8, s8 = sF s7 1 ((s7.1 1) + 1) → Sp_Md_relates u a b s8 (fun y s2 => K (s8.1 1) y s2) := by
      intro s7 hf7 e5 e9 e10 e11 e12 s8 h8
      have f8 : frm [1, 5] [9, 10, 11, 12] s s8 := by rw [h8]; exact frm_tr (frm_mono hf7 (by decide) (fun _ h => h)) (frm_F s7 _ (by decide))
      have p1 : s8.1 1 = s.1 1 + 1 := by rw [h8, sF_s, hf7.1 1 rfl]
      have q2 : s8.2 = s7.2 := by rw [h8]; rfl
      have m31 : s8.1 31 = s.1 4 := by rw [f8.1 31 rfl, b2.1]
      have m29 : s8.1 29 = s.1 1 := by rw [f8.1 29 rfl, b1.1]
      have nmB : ∀ {x : Int}, rng x → isB (0 ≤ x ∧ x < s.1 4) s8 (Sp_Md_isName x s8) := by
        intro x hx K h1 h0
        exact ⟨hx, fun c => h0 (by omega), fun c => ⟨hx, ⟨by omega, by omega⟩, fun d => h0 (by omega), fun d => h1 (by omega)⟩⟩
      refine isB_a (nmB ra) (fun q => absurd ca q) (fun _ => isB_b (nmB rb) (fun q => absurd cb q) (fun _ => ⟨ra, rb, fun _ => ⟨⟨by omega, by omega⟩, fun _ => ?_, fun q => by omega⟩, fun q => absurd q ne⟩))
      refine Md_enters_ok ⟨by omega, by omega⟩ (fun s' hf' w29 w60 w61 w62 => ?_)
      rw [m29] at w29 w60 w61 w62
      rw [p1, w29]
      have ff : frm [1, 5, 29] [9, 10, 11, 12, 60, 61, 62] s s' := frm_tr (frm_mono f8 (by decide) (by decide)) (frm_mono hf' (by decide) (by decide))
      have r1 : s'.1 1 = s.1 1 + 1 := by rw [hf'.1 1 rfl, p1]
      have r5 : s'.1 5 = s.1 5 + 1 := by rw [hf'.1 5 rfl, h8, sF_n _ _ (by decide), e5]
      have na := b6.2 a ca.1 ca.2
      have nb := b6.2 b cb.1 cb.2
      refine hk _ s' ⟨by omega, by omega⟩ ⟨⟨by omega, by omega, by omega⟩, ?_, ?_, ?_, by omega, ?_⟩ ff (grw_u (by rw [w60, f8.2 60 rfl]) b1.1 (by omega))
      · rw [ff.1 4 rfl, ff.1 31 rfl]; exact b2
      · rw [ff.1 7 rfl, ff.1 36 rfl]; exact b3
      · rw [ff.1 18 rfl, ff.1 39 rfl]; exact b4
      · rw [w60, w61, w62, f8.2 60 rfl, f8.2 61 rfl, f8.2 62 rfl, r1, r5, hf'.2 9 rfl, hf'.2 10 rfl, hf'.2 11 rfl, hf'.2 12 rfl, q2, e9, e10, e11, e12, ff.1 4 rfl, ff.2 8 rfl, ff.2 25 rfl, ff.1 7 rfl, ff.2 39 rfl, ff.1 18 rfl, ff.2 26 rfl, ff.2 18 rfl, ff.2 19 rfl, ff.2 20 rfl, ff.2 21 rfl, ff.2 22 rfl, ff.2 23 rfl, ff.2 24 rfl, ff.2 75 rfl, ff.2 76 rfl, ff.2 77 rfl, ff.2 78 rfl, ff.2 79 rfl, ff.2 80 rfl, ff.2 81 rfl]
        have hu1 : u ≠ 1 ∧ u ≠ 4 ∧ u ≠ 5 ∧ u ≠ 6 ∧ 1 ≤ u ∧ u ≤ 6 := by rcases hu with ⟨q, -⟩ | ⟨q, -⟩ <;> rw [q] <;> decide
        exact ⟨bkN_o b6 b1.2.1 hu1.1, bkN_o b7 b1.2.1 hu1.2.1, bkN_o b8 b1.2.1 hu1.2.2.2.1, bkD_s b9 b1.2.1 hu ⟨ca.1, ca.2, cb.1, cb.2, ne⟩ na.2.1 nb.2.1, bkW_o b10 hu1.2.2.1 (Int.le_refl _) (fun w _ _ => ⟨rfl, rfl⟩) (fun w h1 h2 => by omega), bkR_o b11 hu1.2.2.2.1, typ_o b12 hu1.2.2.2.2, b13, b14⟩
    refine ⟨by omega, fun s1 h1 => ?_⟩
    have p1 : s1.1 5 = s.1 5 := by rw [h1, sA_1]
    rw [p1]
    refine ⟨by omega, fun s2 h2 => ?_⟩
    have p2 : s2.1 5 = s.1 5 := by rw [h2, sA_1, p1]
    rw [p2]
    refine ⟨by omega, fun s3 h3 => ?_⟩
    have p3 : s3.1 5 = s.1 5 := by rw [h3, sA_1, p2]
    rw [p3]
    refine ⟨by omega, fun s4 h4 s5 h5 => ?_⟩
    have p4 : s4.1 5 = s.1 5 := by rw [h4, sA_1, p3]
    refine go s5 ?_ (by rw [h5, sF_s, p4]) ?_ ?_ ?_ ?_
    · rw [h5, h4, h3, h2, h1]
      exact frm_tr (frm_tr (frm_tr (frm_tr (frm_A s _ _ (by decide)) (frm_A _ _ _ (by decide))) (frm_A _ _ _ (by decide))) (frm_A _ _ _ (by decide))) (frm_F _ _ (by decide))
    · rw [h5, sF_2, h4, sA_n _ _ _ (by decide), h3, sA_n _ _ _ (by decide), h2, sA_n _ _ _ (by decide), h1, sA_u]
    · rw [h5, sF_2, h4, sA_n _ _ _ (by decide), h3, sA_n _ _ _ (by decide), h2, sA_u, h1, sA_n _ _ _ (by decide)]
    · rw [h5, sF_2, h4, sA_n _ _ _ (by decide), h3, sA_u, h2, sA_n _ _ _ (by decide), h1, sA_n _ _ _ (by decide)]
    · rw [h5, sF_2, h4, sA_u, h3, sA_n _ _ _ (by decide), h2, sA_n _ _ _ (by decide), h1, sA_n _ _ _ (by decide)]
  · exact isB_a (Md_isName_B ra hb) (fun q => absurd ca q) (fun _ => isB_b (Md_isName_B rb hb) (fun q => absurd cb q) (fun _ => ⟨ra, rb, fun _ => ⟨by rw [← b1.1]; exact ⟨by omega, by omega⟩, fun q => by omega, fun _ => stay _ (by decide)⟩, fun q => absurd q ne⟩))
  · exact isB_a (Md_isName_B ra hb) (fun q => absurd ca q) (fun _ => isB_b (Md_isName_B rb hb) (fun q => absurd cb q) (fun _ => ⟨ra, rb, fun q => absurd e q, fun _ => stay _ (by decide)⟩))
end
