section
/-! missing: the model, with the graves as they were -/
theorem Md_isGiven_g {a r n : Int} {Gh s : SS} (ra : 0 ≤ a ∧ a < 20) (h : iGrv n Gh) (hm : agr [46] [104] Gh s) (hN : Gh.1 4 ≤ 20) (hr : lostI Gh a r) : isB (0 ≤ r ∧ takP Gh r) s (Sp_Md_isGiven a s) := by
  intro K h1 h0
  have gi : ∀ k, 0 ≤ k → k < Gh.1 25 → (Gh.2 104 k = a ↔ (0 ≤ r ∧ Gh.2 50 k = r)) := by
    intro k k0 k1
    obtain ⟨g1, g2, g3, g4, g5, g6, g7⟩ := h
    rcases (g4 k k0 k1).2.2.2.2.2 with ⟨z1, z2⟩ | ⟨z1, z2, z3, -⟩
    · exact ⟨fun q => by omega, fun q => by omega⟩
    · rw [z3]
      constructor
      · intro q
        rcases hr with ⟨y1, y2⟩ | ⟨y1, y2, y3⟩
        · exact absurd q (y2 _ z1 z2)
        · exact ⟨y1, g7 _ _ z1 z2 y1 y2 (by omega)⟩
      · rintro ⟨q1, q2⟩
        rcases hr with ⟨y1, y2⟩ | ⟨y1, y2, y3⟩
        · omega
        · rw [q2]; exact y3
  obtain ⟨g1, g2, g3, g4, g5, g6, g7⟩ := h
  have e46 : s.1 46 = Gh.1 25 := by rw [hm.1 46 (by decide)]; exact g1.1.symm
  have e104 : s.2 104 = Gh.2 104 := hm.2 104 (by decide)
  intro X4 h4
  have key : ∀ (t : Nat) (k f : Int), 0 ≤ k → k ≤ Gh.1 25 → Gh.1 25 - k < t → (f = 0 ∨ f = 1) → (f = 1 ↔ ∃ m, 0 ≤ m ∧ m < k ∧ Gh.2 104 m = a) → X4 a f k s := by
    intro t
    induction t with
    | zero => intro k f b c d; omega
    | succ t ih =>
      intro k f k0 k1 ht hf hfe
      refine h4 _ _ _ _ ⟨⟨by omega, by omega⟩, ⟨by omega, by omega⟩, fun d => ⟨hf, ?_⟩, fun d => ⟨by rcases hf with z | z <;> rw [z] <;> decide, fun n0 => ?_, fun z0 => ⟨by omega, ?_, ⟨by omega, by omega⟩, fun g => ?_, fun g => ?_⟩⟩⟩
      · rcases hf with z | z
        · rw [z]
          refine h0 (fun ⟨q1, m, m0, m1, m2⟩ => ?_)
          have := hfe.mpr ⟨m, m0, by omega, (gi m m0 m1).mpr ⟨q1, m2⟩⟩
          omega
        · rw [z]
          obtain ⟨m, m0, m1, m2⟩ := hfe.mp z
          have := (gi m m0 (by omega)).mp m2
          exact h1 ⟨this.1, m, m0, by omega, this.2⟩
      · refine ih (k + 1) 1 (by omega) (by omega) (by omega) (Or.inr rfl) ⟨fun _ => ?_, fun _ => rfl⟩
        obtain ⟨m, m0, m1, m2⟩ := hfe.mp (by omega)
        exact ⟨m, m0, by omega, m2⟩
      · rw [e104]
        rcases (g4 k k0 (by omega)).2.2.2.2.2 with ⟨z1, z2⟩ | ⟨z1, z2, z3, -⟩
        · rw [z2]; decide
        · have := (g6 _ z1 z2).1
          exact ⟨by omega, by omega⟩
      · rw [e104] at g
        refine ih (k + 1) 0 (by omega) (by omega) (by omega) (Or.inl rfl) ⟨fun q => absurd q (by decide), fun ⟨m, m0, m1, m2⟩ => ?_⟩
        by_cases e : m = k
        · rw [e] at m2; exact absurd m2 g
        · have := hfe.mpr ⟨m, m0, by omega, m2⟩
          omega
      · rw [e104] at g
        exact ih (k + 1) 1 (by omega) (by omega) (by omega) (Or.inr rfl) ⟨fun _ => ⟨k, k0, by omega, g⟩, fun _ => rfl⟩
  exact key 100 0 0 (by omega) (by omega) (by omega) (Or.inl rfl) ⟨fun q => absurd q (by decide), fun ⟨m, m0, m1, m2⟩ => by omega⟩
theorem Md_missingOf_g {a n : Int} {Gh s : SS} {Q : Int → SS → Prop} (ra : rng a) (h : iGrv n Gh) (hm : agr [47] [106] Gh s) (hN : Gh.1 4 ≤ 20) (hk : ∀ r, lostI Gh a r → Q r s) : Sp_Md_missingOf a s Q := by
  obtain ⟨g1, g2, g3, g4, g5, g6, g7⟩ := h
  have e47 : s.1 47 = Gh.1 27 := by rw [hm.1 47 (by decide)]; exact g2.1.symm
  have e106 : s.2 106 = Gh.2 106 := hm.2 106 (by decide)
  intro X2 h2
  have key : ∀ (t : Nat) (k : Int), 0 ≤ k → k ≤ Gh.1 27 → Gh.1 27 - k < t → (∀ m, 0 ≤ m → m < k → Gh.2 52 m ≠ a) → X2 a k s := by
    intro t
    induction t with
    | zero => intro k b c d; omega
    | succ t ih =>
      intro k k0 k1 ht hno
      refine h2 _ _ _ ⟨⟨by omega, by omega⟩, ⟨by omega, by omega⟩, fun d => hk _ (Or.inl ⟨rfl, fun m m0 m1 => hno m m0 (by omega)⟩), fun d => ?_⟩
      have c := (g6 k k0 (by omega)).1
      rw [e106]
      exact ⟨by omega, ⟨by omega, by omega⟩, ra, fun f => ih (k + 1) (by omega) (by omega) (by omega) (fun m m0 m1 => by
        by_cases e : m = k
        · rw [e]; omega
        · exact hno m m0 (by omega)), fun f => hk _ (Or.inr ⟨k0, by omega, by omega⟩)⟩
  exact key 100 0 (by omega) (by omega) (by omega) (fun m a b => by omega)
end
