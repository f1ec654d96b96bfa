section
/-! THE TAPE: feed -/
def iTape (s : SS) : Prop := s.1 3 = s.1 30 ∧ (0 ≤ s.1 3 ∧ s.1 3 ≤ 200) ∧ (∀ i, 0 ≤ i → i < s.1 3 → s.2 63 i = bnd (s.2 5 i) 255 ∧ 0 ≤ s.2 63 i ∧ s.2 63 i ≤ 255)
theorem iTape_agr {s t : SS} (h : agr [3, 30] [5, 63] s t) (q : iTape s) : iTape t := by
  have e1 := h.1 3 (by decide)
  have e2 := h.1 30 (by decide)
  have e3 := h.2 5 (by decide)
  have e4 := h.2 63 (by decide)
  unfold iTape
  rw [e1, e2, e3, e4]
  exact q
theorem Ta_append_ok {w n : Int} {s : SS} {Q : Int → SS → Prop} (hn : 0 ≤ n ∧ n ≤ 8) (h0 : 0 ≤ s.1 3) (h1 : s.1 3 + n ≤ 200)
    (hk : ∀ s', frm [3] [5] s s' → s'.1 3 = s.1 3 + n → (∀ i, i < s.1 3 → s'.2 5 i = s.2 5 i) → (∀ j, 0 ≤ j → j < n → s'.2 5 (s.1 3 + j) = i2b (l2i (lsr w (8 * (n - 1 - j))))) → Q (s.1 3 + n) s') : Sp_Ta_append w n s Q := by
  intro X5 h5
  have k5 : ∀ (t : Nat) (s1 : SS), (t : Int) ≤ n → frm [3] [5] s s1 → s1.1 3 = s.1 3 + n - t → (∀ i, i < s.1 3 → s1.2 5 i = s.2 5 i) → (∀ j, 0 ≤ j → j < n - t → s1.2 5 (s.1 3 + j) = i2b (l2i (lsr w (8 * (n - 1 - j))))) → X5 w ((t : Int) - 1) s1 := by
    intro t
    induction t with
    | zero =>
      intro s1 ht hf e1 e2 e3
      refine h5 _ _ _ ⟨⟨by omega, by omega⟩, fun _ => ?_, fun c => by omega⟩
      rw [show s1.1 3 = s.1 3 + n by omega]
      exact hk s1 hf (by omega) e2 (fun j a b => e3 j a (by omega))
    | succ t ih =>
      intro s1 ht hf e1 e2 e3
      refine h5 _ _ _ ⟨⟨by omega, by omega⟩, fun c => by omega, fun _ => ⟨⟨by omega, by omega⟩, fun s2 h2 s3 h3 => ?_⟩⟩
      have g3 : s3.1 3 = s1.1 3 + 1 := by rw [h3, sF_s, h2, sA_1]
      have g5 : ∀ x, s3.2 5 x = if x = s1.1 3 then i2b (l2i (lsr w (8 * (((t + 1 : Nat) : Int) - 1)))) else s1.2 5 x := by intro x; rw [h3, sF_2, h2, sA_s]
      rw [show ((t + 1 : Nat) : Int) - 1 + (-1) = (t : Int) - 1 by omega]
      refine ih s3 (by omega) ?_ (by omega) (fun i hi => ?_) (fun j j0 j1 => ?_)
      · rw [h3, h2]
        exact frm_tr (frm_tr hf (frm_A s1 _ _ (by decide))) (frm_F _ _ (by decide))
      · rw [g5, if_neg (by omega)]
        exact e2 i hi
      · rw [g5]
        split
        · next e => rw [show n - 1 - j = ((t + 1 : Nat) : Int) - 1 by omega]
        · exact e3 j j0 (by omega)
  have := k5 n.toNat s (by omega) (frm_rf _ _ s) (by omega) (fun _ _ => rfl) (fun j a b => by omega)
  rwa [show ((n.toNat : Nat) : Int) - 1 = n - 1 by omega] at this
theorem sim_feed {w n : Int} {s : SS} {K : Int → Int → SS → Prop} (rn : rng n) (hi : iTape s) (hk : ∀ r s', rng r → iTape s' → frm [3, 30] [5, 63] s s' → K r r s') : Sp_LS_feed w n s (fun x s1 => Sp_Md_feed w n s1 (fun y s2 => K x y s2)) := by
  obtain ⟨i1, i2, i3⟩ := id hi
  have bad : ¬ (1 ≤ n ∧ n ≤ 8) → Sp_Md_feed w n s (fun y s2 => K (-2) y s2) := by
    intro c X35 h35
    exact ⟨rn, isB_b (Md_isIn_B rn (by decide) (by decide) s) (fun _ => hk _ s (by decide) hi (frm_rf _ _ s)) (fun d => absurd d c)⟩
  refine ⟨rn, fun c => bad (by omega), fun c => ⟨rn, fun d => ?_, fun d => bad (by omega)⟩⟩
  refine ⟨⟨by omega, by omega⟩, fun e => b0' ?_, fun e => b1' ?_⟩
  · intro X35 h35
    refine ⟨rn, isB_b (Md_isIn_B rn (by decide) (by decide) s) (fun q => absurd ⟨c, d⟩ q) (fun _ => ⟨⟨by omega, by omega⟩, fun q => by omega, fun _ => hk _ s (by decide) hi (frm_rf _ _ s)⟩)⟩
  · refine Ta_append_ok ⟨by omega, d⟩ i2.1 (by omega) (fun s1 hf e1 e2 e3 => ?_)
    have g30 : s1.1 30 = s.1 3 := by rw [hf.1 30 rfl, i1]
    have g63 : s1.2 63 = s.2 63 := hf.2 63 rfl
    intro X35 h35
    refine ⟨rn, isB_b (Md_isIn_B rn (by decide) (by decide) s1) (fun q => absurd ⟨c, d⟩ q) (fun _ => ⟨by rw [g30]; exact ⟨by omega, by omega⟩, fun _ => ?_, fun q => by omega⟩)⟩
    have k5 : ∀ (t : Nat) (s2 : SS), (t : Int) ≤ n → frm [3, 30] [5, 63] s s2 → s2.1 3 = s.1 3 + n → s2.2 5 = s1.2 5 → s2.1 30 = s.1 3 + n - t → (∀ i, i < s.1 3 → s2.2 63 i = s.2 63 i) → (∀ j, 0 ≤ j → j < n - t → s2.2 63 (s.1 3 + j) = l2i (lnd (lsr w (8 * (n - 1 - j))) 255)) → X35 w ((t : Int) - 1) s2 := by
      intro t
      induction t with
      | zero =>
        intro s2 ht hf2 q1 q2 q3 q4 q5
        refine h35 _ _ _ ⟨⟨by omega, by omega⟩, fun _ => ?_, fun c => by omega⟩
        rw [show s2.1 30 = s.1 3 + n by omega]
        refine hk _ s2 ⟨by omega, by omega⟩ ⟨by omega, by omega, fun i a b => ?_⟩ hf2
        by_cases hlt : i < s.1 3
        · rw [q4 i hlt, q2, e2 i hlt]
          exact i3 i a hlt
        · have z := q5 (i - s.1 3) (by omega) (by omega)
          have z2 := e3 (i - s.1 3) (by omega) (by omega)
          rw [show s.1 3 + (i - s.1 3) = i by omega] at z z2
          rw [z, q2, z2, byte_eq]
          refine ⟨rfl, ?_⟩
          rw [← byte_eq]
          exact bnd_255 _
      | succ t ih =>
        intro s2 ht hf2 q1 q2 q3 q4 q5
        refine h35 _ _ _ ⟨⟨by omega, by omega⟩, fun c => by omega, fun _ => ⟨⟨by omega, by omega⟩, fun s3 h3 s4 h4 => ?_⟩⟩
        have g3 : s4.1 30 = s2.1 30 + 1 := by rw [h4, sF_s, h3, sA_1]
        have g5 : ∀ x, s4.2 63 x = if x = s2.1 30 then l2i (lnd (lsr w (8 * (((t + 1 : Nat) : Int) - 1))) 255) else s2.2 63 x := by intro x; rw [h4, sF_2, h3, sA_s]
        rw [show ((t + 1 : Nat) : Int) - 1 + (-1) = (t : Int) - 1 by omega]
        refine ih s4 (by omega) ?_ (by rw [h4, sF_n _ _ (by decide), h3, sA_1, q1]) (by rw [h4, sF_2, h3, sA_n _ _ _ (by decide), q2]) (by omega) (fun i hi2 => ?_) (fun j j0 j1 => ?_)
        · rw [h4, h3]
          exact frm_tr (frm_tr hf2 (frm_A s2 _ _ (by decide))) (frm_F _ _ (by decide))
        · rw [g5, if_neg (by omega)]
          exact q4 i hi2
        · rw [g5]
          split
          · next e => rw [show n - 1 - j = ((t + 1 : Nat) : Int) - 1 by omega]
          · exact q5 j j0 (by omega)
    have := k5 n.toNat s1 (by omega) (frm_mono hf (by decide) (by decide)) (by omega) rfl (by omega) (fun i _ => by rw [g63]) (fun j a b => by omega)
    rwa [show ((n.toNat : Nat) : Int) - 1 = n - 1 by omega] at this
end
