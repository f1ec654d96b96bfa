section
/-! count 10 -/
theorem LS_count_10 {s : SS} {Q : Int → SS → Prop} (hk : Sp_Gr_givenSets s (fun r s1 => Q r s1)) : Sp_LS_count 10 s Q := by
  refine ⟨by decide, fun c => absurd c (by decide), fun c => absurd c (by decide), fun c => absurd c (by decide), fun c => absurd c (by decide), fun c => absurd c (by decide), fun c => absurd c (by decide), fun c => absurd c (by decide), fun c => absurd c (by decide), fun c => absurd c (by decide), fun c => absurd c (by decide), fun _ => hk, fun c => absurd c (by decide), fun _ _ _ _ _ _ _ _ _ _ c => absurd rfl c⟩
theorem sim_count10 {n : Int} {s : SS} {K : Int → Int → SS → Prop} (h : iGrv n s) (hN : s.1 4 ≤ 20) (hk : ∀ r, rng r → K r r s) : Sp_LS_count 10 s (fun p s1 => Sp_Md_count 10 s1 (fun q s2 => K p q s2)) := by
  obtain ⟨g1, g2, g3, g4, g5, g6, g7⟩ := h
  let p : Int → Bool := fun k => decide (0 ≤ s.2 50 k)
  have cb := cntP_b p (s.1 25).toNat
  have md : Sp_Md_count 10 s (fun q s2 => K (cntP p (s.1 25).toNat) q s2) := by
    intro X84 X148 X192 h84 h148 h192
    have loop : ∀ (t : Nat) (k : Nat), (k : Int) ≤ s.1 25 → s.1 25 - k < t → X192 (cntP p k) k s := by
      intro t
      induction t with
      | zero => intro k a b; omega
      | succ t ih =>
        intro k k1 ht
        refine h192 _ _ _ ⟨⟨by omega, by omega⟩, ⟨by omega, by omega⟩, fun d => ?_, fun d => ?_⟩
        · rw [show k = (s.1 25).toNat by omega]; exact hk _ ⟨by omega, by omega⟩
        · have d : (k : Int) < s.1 25 := by omega
          have nx := ih (k + 1) (by omega) (by omega)
          rw [cntP_s] at nx
          have a6 := (g4 k (by omega) d).2.2.2.2.2
          have v : (s.2 50 k = -1 ∧ s.2 104 k = -1) ∨ (0 ≤ s.2 50 k ∧ 0 ≤ s.2 104 k ∧ s.2 104 k < 20) := by
            rcases a6 with z | ⟨z1, z2, z3, -⟩
            · exact Or.inl z
            · have := (g6 _ z1 z2).1
              exact Or.inr ⟨z1, by omega, by omega⟩
          refine ⟨by omega, ⟨by omega, by omega⟩, fun c => ?_, fun c => ?_⟩
          · rw [if_neg (show ¬ p k = true from fun q => by have : 0 ≤ s.2 50 k := of_decide_eq_true q; omega)] at nx
            exact nx
          · rw [if_pos (show p k = true from decide_eq_true (by omega))] at nx
            exact nx
    refine ⟨by decide, fun c => absurd c (by decide), fun c => absurd c (by decide), fun c => absurd c (by decide), fun c => absurd c (by decide), fun c => absurd c (by decide), fun c => absurd c (by decide), fun c => absurd c (by decide), fun c => absurd c (by decide), fun c => absurd c (by decide), fun c => absurd c (by decide), fun _ => loop 100 0 (by omega) (by omega), fun c => absurd c (by decide), fun _ _ _ _ _ _ _ _ _ _ c => absurd rfl c⟩
  refine LS_count_10 ?_
  intro X4 h4
  have loop : ∀ (t : Nat) (k : Nat), (k : Int) ≤ s.1 25 → s.1 25 - k < t → X4 (cntP p k) k s := by
    intro t
    induction t with
    | zero => intro k a b; omega
    | succ t ih =>
      intro k k1 ht
      refine h4 _ _ _ ⟨⟨by omega, by omega⟩, ⟨by omega, by omega⟩, fun d => ?_, fun d => ?_⟩
      · rw [show k = (s.1 25).toNat by omega]; exact md
      · have nx := ih (k + 1) (by omega) (by omega)
        rw [cntP_s] at nx
        have a6 := (g4 k (by omega) d).2.2.2.2.2
        refine ⟨by omega, by rcases a6 with z | z <;> exact ⟨by omega, by omega⟩, fun c => ?_, fun c => ?_⟩
        · rw [if_neg (show ¬ p k = true from fun q => by have : 0 ≤ s.2 50 k := of_decide_eq_true q; omega), Int.add_zero] at nx
          exact nx
        · rw [if_pos (show p k = true from decide_eq_true c)] at nx
          exact nx
  exact loop 100 0 (by omega) (by omega)
end
