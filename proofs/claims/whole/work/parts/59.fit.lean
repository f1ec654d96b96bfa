section
/-! fit -/
theorem bnd_r {x y : Int} (h0 : 0 ≤ x ∧ x ≤ 255) (h1 : 0 ≤ y ∧ y ≤ 255) : 0 ≤ bnd x y ∧ bnd x y ≤ 255 := by
  have hb : bnd x y = ((x.toNat &&& y.toNat : Nat) : Int) := by
    have := bnd_nat (a := x.toNat) (b := y.toNat) (Or.inl (by omega))
    rw [show ((x.toNat : Nat) : Int) = x by omega, show ((y.toNat : Nat) : Int) = y by omega] at this
    exact this
  have le : x.toNat &&& y.toNat ≤ x.toNat := Nat.and_le_left
  omega
def fitD (s : SS) (k m : Int) : Prop := (s.2 53 m = 0 ∨ (s.2 46 k ≤ s.2 53 m ∧ s.2 53 m ≤ s.2 47 k)) ∧ bnd (s.2 48 k) (s.2 55 m) = 0 ∧ bnd (s.2 49 k) (s.2 54 m) = 0
theorem Gr_suits_B {k m n : Int} {s : SS} (h : iGrv n s) (k0 : 0 ≤ k) (k1 : k < s.1 25) (m0 : 0 ≤ m) (m1 : m < s.1 27) : isB (fitD s k m) s (Sp_Gr_suits k m s) := by
  intro K h1 h0
  obtain ⟨g1, g2, g3, g4, g5, g6, g7⟩ := h
  obtain ⟨a1, a2, a3, a4, a5, a6⟩ := g4 k k0 k1
  obtain ⟨c1, c2, c3, c4⟩ := g6 m m0 m1
  have r1 := bnd_r (x := s.2 48 k) (y := s.2 55 m) a3 ⟨c4.2.1, c4.2.2⟩
  have r2 := bnd_r (x := s.2 49 k) (y := s.2 54 m) a4 ⟨c3.2.1, c3.2.2⟩
  intro X33 h33
  have tail : (s.2 53 m = 0 ∨ (s.2 46 k ≤ s.2 53 m ∧ s.2 53 m ≤ s.2 47 k)) → X33 k m s := fun hh => h33 _ _ _ ⟨by omega, by omega, ⟨by omega, by omega⟩, fun z => h0 (fun q => z q.2.1), fun z => ⟨by omega, by omega, ⟨by omega, by omega⟩, fun y => h0 (fun q => y q.2.2), fun y => h1 ⟨hh, z, y⟩⟩⟩
  exact ⟨by omega, ⟨by omega, by omega⟩, fun z => tail (Or.inl z), fun z => ⟨by omega, ⟨by omega, by omega⟩, ⟨by omega, by omega⟩, fun y => h0 (fun q => by have := q.1; omega), fun y => ⟨by omega, ⟨by omega, by omega⟩, ⟨by omega, by omega⟩, fun x => tail (Or.inr ⟨y, x⟩), fun x => h0 (fun q => by have := q.1; omega)⟩⟩⟩
theorem Md_fits_B {k m n : Int} {s : SS} (h : iGrv n s) (k0 : 0 ≤ k) (k1 : k < s.1 25) (m0 : 0 ≤ m) (m1 : m < s.1 27) : isB (fitD s k m) s (Sp_Md_fits k m s) := by
  intro K h1 h0
  obtain ⟨g1, g2, g3, g4, g5, g6, g7⟩ := h
  obtain ⟨a1, a2, a3, a4, ⟨a51, a52, a53, a54, a55⟩, a6⟩ := g4 k k0 k1
  obtain ⟨c1, c2, c3, c4⟩ := g6 m m0 m1
  have r1 := bnd_r (x := s.2 48 k) (y := s.2 55 m) a3 ⟨c4.2.1, c4.2.2⟩
  have r2 := bnd_r (x := s.2 49 k) (y := s.2 54 m) a4 ⟨c3.2.1, c3.2.2⟩
  intro X36 h36
  have tail : (s.2 53 m = 0 ∨ (s.2 46 k ≤ s.2 53 m ∧ s.2 53 m ≤ s.2 47 k)) → X36 k m s := fun hh => by
    refine h36 _ _ _ ?_
    unfold B_Md_fits_36
    rw [a54, a55, c3.1, c4.1]
    exact ⟨by omega, by omega, ⟨by omega, by omega⟩, fun z => h0 (fun q => z q.2.1), fun z => ⟨by omega, by omega, ⟨by omega, by omega⟩, fun y => h0 (fun q => y q.2.2), fun y => h1 ⟨hh, z, y⟩⟩⟩
  unfold B_Md_fits_e
  rw [c2.1, a52, a53]
  exact ⟨by omega, ⟨by omega, by omega⟩, fun z => tail (Or.inl z), fun z => ⟨by omega, ⟨by omega, by omega⟩, by omega, ⟨by omega, by omega⟩, by omega, ⟨by omega, by omega⟩, isB_a (Md_isIn_B ⟨by omega, by omega⟩ ⟨by omega, by omega⟩ ⟨by omega, by omega⟩ s) (fun y => h0 (fun q => by have := q.1; omega)) (fun y => tail (Or.inr y))⟩⟩
def lostI (s : SS) (a r : Int) : Prop := (r = -1 ∧ ∀ m, 0 ≤ m → m < s.1 27 → s.2 52 m ≠ a) ∨ (0 ≤ r ∧ r < s.1 27 ∧ s.2 52 r = a)
theorem lostI_u {s : SS} {n a r t : Int} (h : iGrv n s) (h1 : lostI s a r) (h2 : lostI s a t) : r = t := by
  have g7 := h.2.2.2.2.2.2
  rcases h1 with ⟨a1, a2⟩ | ⟨a1, a2, a3⟩ <;> rcases h2 with ⟨b1, b2⟩ | ⟨b1, b2, b3⟩
  · omega
  · exact absurd b3 (a2 t b1 b2)
  · exact absurd a3 (b2 r a1 a2)
  · exact g7 r t a1 a2 b1 b2 (by omega)
theorem Gr_lostIndex_ok {a n : Int} {s : SS} {Q : Int → SS → Prop} (ra : rng a) (h : iGrv n s) (hN : s.1 4 ≤ 20) (hk : ∀ r, lostI s a r → Q r s) : Sp_Gr_lostIndex a s Q := by
  obtain ⟨g1, g2, g3, g4, g5, g6, g7⟩ := h
  intro X2 h2
  have key : ∀ (t : Nat) (k : Int), 0 ≤ k → k ≤ s.1 27 → s.1 27 - k < t → (∀ m, 0 ≤ m → m < k → s.2 52 m ≠ a) → X2 a k s := by
    intro t
    induction t with
    | zero => intro k b c d; omega
    | succ t ih =>
      intro k k0 k1 ht hno
      refine h2 _ _ _ ⟨⟨by omega, by omega⟩, ⟨by omega, by omega⟩, fun d => hk _ (Or.inl ⟨rfl, fun m m0 m1 => hno m m0 (by omega)⟩), fun d => ?_⟩
      have c := (g6 k k0 d).1
      exact ⟨by omega, ⟨by omega, by omega⟩, ra, fun f => ih (k + 1) (by omega) (by omega) (by omega) (fun m m0 m1 => by
        by_cases e : m = k
        · rw [e]; exact f
        · exact hno m m0 (by omega)), fun f => hk _ (Or.inr ⟨k0, d, f⟩)⟩
  exact key 100 0 (by omega) (by omega) (by omega) (fun m a b => by omega)
theorem Md_missingOf_ok {a n : Int} {s : SS} {Q : Int → SS → Prop} (ra : rng a) (h : iGrv n s) (hN : s.1 4 ≤ 20) (hk : ∀ r, lostI s a r → Q r s) : Sp_Md_missingOf a s Q := by
  obtain ⟨g1, g2, g3, g4, g5, g6, g7⟩ := h
  intro X2 h2
  have key : ∀ (t : Nat) (k : Int), 0 ≤ k → k ≤ s.1 27 → s.1 27 - k < t → (∀ m, 0 ≤ m → m < k → s.2 52 m ≠ a) → X2 a k s := by
    intro t
    induction t with
    | zero => intro k b c d; omega
    | succ t ih =>
      intro k k0 k1 ht hno
      refine h2 _ _ _ ⟨⟨by omega, by omega⟩, ⟨by omega, by omega⟩, fun d => hk _ (Or.inl ⟨rfl, fun m m0 m1 => hno m m0 (by omega)⟩), fun d => ?_⟩
      have c := (g6 k k0 (by omega)).1
      exact ⟨by omega, ⟨by omega, by omega⟩, ra, fun f => ih (k + 1) (by omega) (by omega) (by omega) (fun m m0 m1 => by
        by_cases e : m = k
        · rw [e]; omega
        · exact hno m m0 (by omega)), fun f => hk _ (Or.inr ⟨k0, by omega, by omega⟩)⟩
  exact key 100 0 (by omega) (by omega) (by omega) (fun m a b => by omega)
theorem sim_fit {x a n : Int} {s : SS} {K : Int → Int → SS → Prop} (rx : rng x) (ra : rng a) (h : iGrv n s) (hN : s.1 4 ≤ 20) (hk : ∀ r, rng r → K r r s) : Sp_LS_fit x a s (fun p s1 => Sp_Md_fit x a s1 (fun q s2 => K p q s2)) := by
  obtain ⟨g1, g2, g3, g4, g5, g6, g7⟩ := id h
  refine Gr_lostIndex_ok ra h hN (fun r hr => ?_)
  have rr : rng r := by rcases hr with z | z; (rw [z.1]; decide); exact ⟨by omega, by omega⟩
  have md : ∀ v, (¬ (0 ≤ x ∧ x < s.1 25) ∨ r < 0 → v = -1) → (0 ≤ x ∧ x < s.1 25 → 0 ≤ r → (fitD s x r → v = 1) ∧ (¬ fitD s x r → v = 0)) → rng v → Sp_Md_fit x a s (fun q s2 => K v q s2) := by
    intro v w1 w2 rv
    refine isB_a (Md_isSet_B rx h) (fun c => ?_) (fun c => Md_missingOf_ok ra h hN (fun r2 hr2 => ?_))
    · have := w1 (Or.inl c)
      rw [this]; exact hk _ (by decide)
    · have e := lostI_u h hr2 hr
      rw [e]
      refine ⟨rr, fun d => Md_missingOf_ok ra h hN (fun r3 hr3 => ?_), fun d => ?_⟩
      · rw [lostI_u h hr3 hr]
        have r1 : r < s.1 27 := by rcases hr with z | z <;> omega
        obtain ⟨y1, y2⟩ := w2 c d
        refine isB_a (Md_fits_B h c.1 c.2 d r1) (fun f => ?_) (fun f => ?_)
        · rw [y2 f]; exact hk _ (by decide)
        · rw [y1 f]; exact hk _ (by decide)
      · rw [w1 (Or.inr d)]; exact hk _ (by decide)
  refine isB_a (LS_isSet_B rx h) (fun c => md _ (fun _ => rfl) (fun q => absurd q c) (by decide)) (fun c => ⟨rr, fun d => ?_, fun d => md _ (fun _ => rfl) (fun _ q => by omega) (by decide)⟩)
  have r1 : r < s.1 27 := by rcases hr with z | z <;> omega
  exact Gr_suits_B h c.1 c.2 d r1 _ (fun f => LS_bit_ok (Or.inr rfl) (md _ (fun q => absurd q (by omega)) (fun _ _ => ⟨fun _ => rfl, fun q => absurd f q⟩) (by decide))) (fun f => LS_bit_ok (Or.inl rfl) (md _ (fun q => absurd q (by omega)) (fun _ _ => ⟨fun q => absurd q f, fun _ => rfl⟩) (by decide)))
end
