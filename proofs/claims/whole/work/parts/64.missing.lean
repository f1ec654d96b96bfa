section
/-! missing -/
def mC2 (x2 x3 x4 : Int) : Prop := (x2 = 0 ∨ (100 ≤ x2 ∧ x2 ≤ 220)) ∧ ((0 ≤ x3 ∧ x3 ≤ 255) ∧ (0 ≤ x4 ∧ x4 ≤ 255) ∧ bnd x3 x4 = 0)
def takP (s : SS) (r : Int) : Prop := ∃ k, 0 ≤ k ∧ k < s.1 25 ∧ s.2 50 k = r
theorem Gr_isTaken_B {r n : Int} {s : SS} (rr : rng r) (h : iGrv n s) : isB (takP s r) s (Sp_Gr_isTaken r s) := by
  intro K h1 h0
  obtain ⟨g1, g2, g3, g4, g5, g6, g7⟩ := h
  intro X2 h2
  have key : ∀ (t : Nat) (k : Int), 0 ≤ k → k ≤ s.1 25 → s.1 25 - k < t → (∀ m, 0 ≤ m → m < k → s.2 50 m ≠ r) → X2 r k s := by
    intro t
    induction t with
    | zero => intro k b c d; omega
    | succ t ih =>
      intro k k0 k1 ht hno
      refine h2 _ _ _ ⟨⟨by omega, by omega⟩, ⟨by omega, by omega⟩, fun d => h0 (fun ⟨m, m0, m1, m2⟩ => hno m m0 (by omega) m2), fun d => ?_⟩
      have a6 := (g4 k k0 d).2.2.2.2.2
      exact ⟨by omega, by rcases a6 with z | z <;> exact ⟨by omega, by omega⟩, rr, fun f => ih (k + 1) (by omega) (by omega) (by omega) (fun m m0 m1 => by
        by_cases e : m = k
        · rw [e]; exact f
        · exact hno m m0 (by omega)), fun f => h1 ⟨k, k0, d, f⟩⟩
  exact key 100 0 (by omega) (by omega) (by omega) (fun m a b => by omega)
theorem Md_isGiven_B {a r n : Int} {s : SS} (ra : 0 ≤ a ∧ a < 20) (h : iGrv n s) (hN : s.1 4 ≤ 20) (hr : lostI s a r) : isB (0 ≤ r ∧ takP s r) s (Sp_Md_isGiven a s) := by
  intro K h1 h0
  have gi : ∀ k, 0 ≤ k → k < s.1 25 → (s.2 104 k = a ↔ (0 ≤ r ∧ s.2 50 k = r)) := by
    intro k k0 k1
    obtain ⟨g1, g2, g3, g4, g5, g6, g7⟩ := h
    rcases (g4 k k0 k1).2.2.2.2.2 with ⟨z1, z2⟩ | ⟨z1, z2, z3, -⟩
    · exact ⟨fun q => by omega, fun q => by omega⟩
    · rw [z3]
      constructor
      · intro q
        rcases hr with ⟨y1, y2⟩ | ⟨y1, y2, y3⟩
        · exact absurd q (y2 _ z1 z2)
        · exact ⟨y1, g7 _ _ z1 z2 y1 y2 (by omega)⟩
      · rintro ⟨q1, q2⟩
        rcases hr with ⟨y1, y2⟩ | ⟨y1, y2, y3⟩
        · omega
        · rw [q2]; exact y3
  obtain ⟨g1, g2, g3, g4, g5, g6, g7⟩ := h
  intro X4 h4
  have key : ∀ (t : Nat) (k f : Int), 0 ≤ k → k ≤ s.1 25 → s.1 25 - k < t → (f = 0 ∨ f = 1) → (f = 1 ↔ ∃ m, 0 ≤ m ∧ m < k ∧ s.2 104 m = a) → X4 a f k s := by
    intro t
    induction t with
    | zero => intro k f b c d; omega
    | succ t ih =>
      intro k f k0 k1 ht hf hfe
      refine h4 _ _ _ _ ⟨⟨by omega, by omega⟩, ⟨by omega, by omega⟩, fun d => ⟨hf, ?_⟩, fun d => ⟨by rcases hf with z | z <;> rw [z] <;> decide, fun n0 => ?_, fun z0 => ⟨by omega, ?_, ⟨by omega, by omega⟩, fun g => ?_, fun g => ?_⟩⟩⟩
      · rcases hf with z | z
        · rw [z]
          refine h0 (fun ⟨q1, m, m0, m1, m2⟩ => ?_)
          have := hfe.mpr ⟨m, m0, by omega, (gi m m0 m1).mpr ⟨q1, m2⟩⟩
          omega
        · rw [z]
          obtain ⟨m, m0, m1, m2⟩ := hfe.mp z
          have := (gi m m0 (by omega)).mp m2
          exact h1 ⟨this.1, m, m0, by omega, this.2⟩
      · refine ih (k + 1) 1 (by omega) (by omega) (by omega) (Or.inr rfl) ⟨fun _ => ?_, fun _ => rfl⟩
        obtain ⟨m, m0, m1, m2⟩ := hfe.mp (by omega)
        exact ⟨m, m0, by omega, m2⟩
      · rcases (g4 k k0 (by omega)).2.2.2.2.2 with ⟨z1, z2⟩ | ⟨z1, z2, z3, -⟩
        · rw [z2]; decide
        · have := (g6 _ z1 z2).1
          exact ⟨by omega, by omega⟩
      · refine ih (k + 1) 0 (by omega) (by omega) (by omega) (Or.inl rfl) ⟨fun q => absurd q (by decide), fun ⟨m, m0, m1, m2⟩ => ?_⟩
        by_cases e : m = k
        · rw [e] at m2; exact absurd m2 g
        · have := hfe.mpr ⟨m, m0, by omega, m2⟩
          omega
      · exact ih (k + 1) 1 (by omega) (by omega) (by omega) (Or.inr rfl) ⟨fun _ => ⟨k, k0, by omega, g⟩, fun _ => rfl⟩
  exact key 100 0 0 (by omega) (by omega) (by omega) (Or.inl rfl) ⟨fun q => absurd q (by decide), fun ⟨m, m0, m1, m2⟩ => by omega⟩
end
