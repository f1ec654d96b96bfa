section
/-! GRAVES: what both hold; set, named -/
def iGrv (n : Int) (s : SS) : Prop :=
  (s.1 25 = s.1 46 ∧ 0 ≤ s.1 25 ∧ s.1 25 ≤ 8) ∧ (s.1 27 = s.1 47 ∧ 0 ≤ s.1 27 ∧ s.1 27 ≤ 10) ∧ (s.1 26 = s.1 48 ∧ 0 ≤ s.1 26 ∧ s.1 26 ≤ n) ∧
  (∀ k, 0 ≤ k → k < s.1 25 → (0 ≤ s.2 45 k ∧ s.2 45 k ≤ 3) ∧ (100 ≤ s.2 46 k ∧ s.2 46 k ≤ s.2 47 k ∧ s.2 47 k ≤ 220) ∧ (0 ≤ s.2 48 k ∧ s.2 48 k ≤ 255) ∧ (0 ≤ s.2 49 k ∧ s.2 49 k ≤ 255) ∧ (s.2 99 k = s.2 45 k ∧ s.2 100 k = s.2 46 k ∧ s.2 101 k = s.2 47 k ∧ s.2 102 k = s.2 48 k ∧ s.2 103 k = s.2 49 k) ∧ ((s.2 50 k = -1 ∧ s.2 104 k = -1) ∨ (0 ≤ s.2 50 k ∧ s.2 50 k < s.1 27 ∧ s.2 104 k = s.2 52 (s.2 50 k) ∧ 0 ≤ s.2 51 k ∧ s.2 51 k < s.1 26 ∧ s.2 105 k = s.2 51 k + 1))) ∧
  (∀ k, s.1 25 ≤ k → k < 8 → s.2 104 k = -1) ∧
  (∀ m, 0 ≤ m → m < s.1 27 → (s.2 106 m = s.2 52 m ∧ 0 ≤ s.2 52 m ∧ s.2 52 m < s.1 4) ∧ (s.2 107 m = s.2 53 m ∧ (s.2 53 m = 0 ∨ (100 ≤ s.2 53 m ∧ s.2 53 m ≤ 220))) ∧ (s.2 108 m = s.2 54 m ∧ 0 ≤ s.2 54 m ∧ s.2 54 m ≤ 255) ∧ (s.2 109 m = s.2 55 m ∧ 0 ≤ s.2 55 m ∧ s.2 55 m ≤ 255)) ∧
  (∀ m k, 0 ≤ m → m < s.1 27 → 0 ≤ k → k < s.1 27 → s.2 52 m = s.2 52 k → m = k)
def gvSc : List Nat := [4, 25, 26, 27, 46, 47, 48]
def gvAr : List Nat := [45, 46, 47, 48, 49, 50, 51, 52, 53, 54, 55, 99, 100, 101, 102, 103, 104, 105, 106, 107, 108, 109]
theorem LS_isSet_B {x n : Int} {s : SS} (hx : rng x) (h : iGrv n s) : isB (0 ≤ x ∧ x < s.1 25) s (Sp_LS_isSet x s) := by
  intro K h1 h0
  have g1 := h.1
  exact ⟨hx, fun c => h0 (by omega), fun c => ⟨hx, ⟨by omega, by omega⟩, fun d => h0 (by omega), fun d => h1 (by omega)⟩⟩
theorem Md_isSet_B {x n : Int} {s : SS} (hx : rng x) (h : iGrv n s) : isB (0 ≤ x ∧ x < s.1 25) s (Sp_Md_isSet x s) := by
  intro K h1 h0
  have g1 := h.1
  exact ⟨hx, fun c => h0 (by omega), fun c => ⟨hx, ⟨by omega, by omega⟩, fun d => h0 (by omega), fun d => h1 (by omega)⟩⟩
theorem sim_named {x n : Int} {s : SS} {K : Int → Int → SS → Prop} (rx : rng x) (h : iGrv n s) (hN : s.1 4 ≤ 20) (hk : ∀ r, rng r → K r r s) : Sp_LS_named x s (fun p s1 => Sp_Md_named x s1 (fun q s2 => K p q s2)) := by
  obtain ⟨g1, g2, g3, g4, g5, g6, g7⟩ := id h
  have md : ∀ v, rng v → (0 ≤ x ∧ x < s.1 25 → (0 ≤ s.2 104 x → v = s.2 104 x) ∧ (s.2 104 x < 0 → v = -5) ∧ rng (s.2 104 x)) → (¬ (0 ≤ x ∧ x < s.1 25) → v = -1) → Sp_Md_named x s (fun q s2 => K v q s2) := by
    intro v rv w1 w2
    refine isB_b (Md_isSet_B rx h) (fun c => ?_) (fun c => ?_)
    · rw [w2 c]; exact hk _ (by decide)
    · obtain ⟨y1, y2, y3⟩ := w1 c
      refine ⟨by omega, y3, fun d => ⟨by omega, ?_⟩, fun d => ?_⟩
      · rw [← y1 d]; exact hk _ rv
      · rw [y2 d]; exact hk _ (by decide)
  refine isB_b (LS_isSet_B rx h) (fun c => md _ (by decide) (fun q => absurd q c) (fun _ => rfl)) (fun c => ⟨by omega, ?_⟩)
  obtain ⟨-, -, -, -, -, k6⟩ := g4 x c.1 c.2
  rcases k6 with ⟨z1, z2⟩ | ⟨z1, z2, z3, -⟩
  · exact ⟨⟨by omega, by omega⟩, fun d => by omega, fun d => md _ (by decide) (fun _ => ⟨fun q => by omega, fun _ => rfl, by rw [z2]; decide⟩) (fun q => absurd c q)⟩
  · have m := (g6 _ z1 z2).1
    exact ⟨⟨by omega, by omega⟩, fun d => ⟨by omega, md _ ⟨by omega, by omega⟩ (fun _ => ⟨fun _ => z3.symm, fun q => by omega, ⟨by omega, by omega⟩⟩) (fun q => absurd c q)⟩, fun d => by omega⟩
theorem Gr_areMarks_B {x y : Int} (hx : rng x) (hy : rng y) (s : SS) : isB ((0 ≤ x ∧ x ≤ 255) ∧ (0 ≤ y ∧ y ≤ 255) ∧ bnd x y = 0) s (Sp_Gr_areMarks x y s) := by
  intro K h1 h0
  refine ⟨hx, fun c => h0 (by omega), fun c => ⟨hx, fun d => h0 (by omega), fun d => ⟨hy, fun e => h0 (by omega), fun e => ⟨hy, fun f => h0 (by omega), fun f => ?_⟩⟩⟩⟩
  have hb : bnd x y = ((x.toNat &&& y.toNat : Nat) : Int) := by
    have := bnd_nat (a := x.toNat) (b := y.toNat) (Or.inl (by omega))
    rw [show ((x.toNat : Nat) : Int) = x by omega, show ((y.toNat : Nat) : Int) = y by omega] at this
    exact this
  have le : x.toNat &&& y.toNat ≤ x.toNat := Nat.and_le_left
  exact ⟨⟨by omega, by omega⟩, fun g => h0 (fun q => g q.2.2), fun g => h1 ⟨⟨c, d⟩, ⟨e, f⟩, g⟩⟩
theorem Md_areMarks_B {x y : Int} (hx : rng x) (hy : rng y) (s : SS) : isB ((0 ≤ x ∧ x ≤ 255) ∧ (0 ≤ y ∧ y ≤ 255) ∧ bnd x y = 0) s (Sp_Md_areMarks x y s) := by
  intro K h1 h0
  refine ⟨hx, isB_a (Md_isIn_B hx (by decide) (by decide) s) (fun c => h0 (fun q => c q.1)) (fun c => ⟨hy, isB_a (Md_isIn_B hy (by decide) (by decide) s) (fun d => h0 (fun q => d q.2.1)) (fun d => ?_)⟩)⟩
  have hb : bnd x y = ((x.toNat &&& y.toNat : Nat) : Int) := by
    have := bnd_nat (a := x.toNat) (b := y.toNat) (Or.inl (by omega))
    rw [show ((x.toNat : Nat) : Int) = x by omega, show ((y.toNat : Nat) : Int) = y by omega] at this
    exact this
  have le : x.toNat &&& y.toNat ≤ x.toNat := Nat.and_le_left
  exact ⟨⟨by omega, by omega⟩, fun g => h0 (fun q => g q.2.2), fun g => h1 ⟨c, d, g⟩⟩
end
