section
/-! WALK: the model -/
def rm (n : Int) (D e : Int → Int) (R p x J q : Int) : Prop := ∃ j r, 0 ≤ j ∧ j < n ∧ bt R j ∧ 0 ≤ r ∧ r < 10 ∧ (j < J ∨ (j = J ∧ r < q)) ∧ e (90 * R + 10 * j + r) + D (10 * r + p) ≤ x
def mqd (n : Int) (pl fi la D e : Int → Int) (R k p v : Int) : Prop := bt (pl k) p ∧ fi k ≤ v ∧ fi k ≤ la k ∧ (R = 0 ∨ rm n D e R p (min v (la k)) n 0)
def dM (D : Int → Int) : Prop := ∀ q p, 0 ≤ q → q < 10 → 0 ≤ p → p < 10 → 0 ≤ D (10 * q + p) ∧ D (10 * q + p) ≤ 100000
theorem Md_comesAt_ok {n S k p : Int} {s : SS} {Q : Int → SS → Prop} (hn : s.1 38 = n) (n1 : n ≤ 9) (k0 : 0 ≤ k) (k1 : k < n) (S0 : 0 ≤ S) (S1 : S < p2 n) (hb : bt S k) (p0 : 0 ≤ p) (p1 : p < 10) (hi : itm n (s.2 84) (s.2 85) (s.2 86)) (hD : dM (s.2 59)) (he : ∀ j q, 0 ≤ j → j < n → 0 ≤ q → q < 10 → bt (S - p2 k) j → 0 ≤ s.2 83 (90 * (S - p2 k) + 10 * j + q) ∧ s.2 83 (90 * (S - p2 k) + 10 * j + q) ≤ 100000) (hk : ∀ r, (r = 100000 ∨ (0 ≤ r ∧ r ≤ 999)) → (∀ v, 0 ≤ v → v ≤ 999 → (r ≤ v ↔ (s.2 85 k ≤ v ∧ s.2 85 k ≤ s.2 86 k ∧ (S - p2 k = 0 ∨ rm n (s.2 59) (s.2 83) (S - p2 k) p (min v (s.2 86 k)) n 0)))) → Q r s) : Sp_Md_comesAt S k p s Q := by
  intro X30 X55 h30 h55
  have p9 := p2_9 (n := n) (by omega) n1
  obtain ⟨x1, x2, x3⟩ := (bt_in (x := S) (k := k) k0 (by omega) S0 (by omega)).1 hb
  have ik := hi k k0 k1
  obtain ⟨R, hR⟩ : ∃ R, R = S - p2 k := ⟨_, rfl⟩
  have pp := p2_pos k
  unfold B_Md_comesAt_e
  rw [x1]
  rw [← hR] at hk he ⊢
  have l30 : ∀ (t : Nat) (j b : Int), 0 ≤ j → j ≤ n → n - j < t → 0 ≤ b → b ≤ 100000 → (∀ x, 0 ≤ x → x ≤ 999 → (b ≤ x ↔ ((R = 0 ∧ s.2 85 k ≤ x) ∨ rm n (s.2 59) (s.2 83) R p x j 0))) → X30 k p R b j s := by
    intro t
    induction t with
    | zero => intro j b a c d; omega
    | succ t ih =>
      intro j b j0 j1 ht b0 b1 hI
      have b01 := bt_01 (x := R) (k := j) (by omega) (by omega) j0 (by omega)
      refine h30 _ _ _ _ _ _ ⟨⟨by omega, by omega⟩, by rw [hn]; exact ⟨by omega, by omega⟩, fun d => ?_, fun d => ?_⟩
      · rw [hn] at d
        rw [show j = n by omega] at hI
        have fin : ∀ r, (r = if max b (s.2 85 k) ≤ s.2 86 k then max b (s.2 85 k) else 100000) → Q r s := by
          intro r hr
          refine hk r ?_ (fun v v0 v1 => ?_)
          · rw [hr]
            split
            · right; omega
            · exact Or.inl rfl
          · have hv := hI (min v (s.2 86 k)) (by omega) (by omega)
            rw [hr]
            constructor
            · intro z
              have g : max b (s.2 85 k) ≤ s.2 86 k := by
                by_cases y : max b (s.2 85 k) ≤ s.2 86 k
                · exact y
                · rw [if_neg y] at z; omega
              rw [if_pos g] at z
              refine ⟨by omega, by omega, ?_⟩
              rcases hv.mp (by omega) with y | y
              · exact Or.inl y.1
              · exact Or.inr y
            · rintro ⟨z1, z2, z3⟩
              have := hv.mpr (z3.imp (fun y => ⟨y, by omega⟩) id)
              rw [if_pos (by omega)]
              omega
        refine ⟨⟨k0, by omega⟩, ⟨by omega, by omega⟩, ⟨by omega, by omega⟩, fun f => ⟨⟨k0, by omega⟩, ⟨by omega, by omega⟩, ⟨by omega, by omega⟩, fun g => fin b (by rw [if_pos (by omega)]; omega), fun g => fin 100000 (by rw [if_neg (by omega)])⟩, fun f => ⟨⟨k0, by omega⟩, ⟨k0, by omega⟩, ⟨by omega, by omega⟩, ⟨by omega, by omega⟩, fun g => fin _ (by rw [if_pos (by omega)]; omega), fun g => fin 100000 (by rw [if_neg (by omega)])⟩⟩
      · rw [hn] at d
        refine ⟨⟨by omega, by omega⟩, fun c => ?_, fun c => ih (j + 1) b (by omega) (by omega) (by omega) b0 b1 (fun x y0 y1 => ?_)⟩
        · have hbj : bt R j := by unfold bt; omega
          have l55 : ∀ (u : Nat) (q b : Int), 0 ≤ q → q ≤ 10 → 10 - q < u → 0 ≤ b → b ≤ 100000 → (∀ x, 0 ≤ x → x ≤ 999 → (b ≤ x ↔ ((R = 0 ∧ s.2 85 k ≤ x) ∨ rm n (s.2 59) (s.2 83) R p x j q))) → X55 k p R b j q s := by
            intro u
            induction u with
            | zero => intro j b a c d; omega
            | succ u ih2 =>
              intro q b q0 q1 hu b0 b1 hJ
              refine h55 _ _ _ _ _ _ _ ⟨⟨by omega, by omega⟩, fun d2 => ih (j + 1) b (by omega) (by omega) (by omega) b0 b1 (fun x y0 y1 => ?_), fun d2 => ?_⟩
              · rw [hJ x y0 y1]
                refine or_congr Iff.rfl ⟨?_, ?_⟩
                · rintro ⟨j', r, a1, a2, a3, a4, a5, a6, a7⟩
                  exact ⟨j', r, a1, a2, a3, a4, a5, by omega, a7⟩
                · rintro ⟨j', r, a1, a2, a3, a4, a5, a6, a7⟩
                  exact ⟨j', r, a1, a2, a3, a4, a5, by omega, a7⟩
              · have e1 := he j q j0 d q0 d2 hbj
                have e2 := hD q p q0 d2 p0 p1
                refine ⟨by omega, by omega, ⟨by omega, by omega⟩, ⟨by omega, by omega⟩, fun f => ih2 (q + 1) b (by omega) (by omega) (by omega) b0 b1 (fun x y0 y1 => ?_), fun f => ih2 (q + 1) _ (by omega) (by omega) (by omega) (by omega) (by omega) (fun x y0 y1 => ?_)⟩
                · rw [hJ x y0 y1]
                  constructor
                  · rintro (z | ⟨j', r, a1, a2, a3, a4, a5, a6, a7⟩)
                    · exact Or.inl z
                    · exact Or.inr ⟨j', r, a1, a2, a3, a4, a5, by omega, a7⟩
                  · rintro (z | ⟨j', r, a1, a2, a3, a4, a5, a6, a7⟩)
                    · exact Or.inl z
                    · by_cases y : j' = j ∧ r = q
                      · rw [y.1, y.2] at a7
                        exact (hJ x y0 y1).mp (by omega)
                      · exact Or.inr ⟨j', r, a1, a2, a3, a4, a5, by omega, a7⟩
                · have hx := hJ x y0 y1
                  constructor
                  · intro z
                    exact Or.inr ⟨j, q, j0, d, hbj, q0, d2, Or.inr ⟨rfl, by omega⟩, z⟩
                  · rintro (z | ⟨j', r, a1, a2, a3, a4, a5, a6, a7⟩)
                    · have := hx.mpr (Or.inl z)
                      omega
                    · by_cases y : j' = j ∧ r = q
                      · rw [y.1, y.2] at a7
                        exact a7
                      · have := hx.mpr (Or.inr ⟨j', r, a1, a2, a3, a4, a5, by omega, a7⟩)
                        omega
          exact l55 11 0 b (by omega) (by omega) (by omega) b0 b1 hI
        · rw [hI x y0 y1]
          refine or_congr Iff.rfl ⟨?_, ?_⟩
          · rintro ⟨j', r, a1, a2, a3, a4, a5, a6, a7⟩
            exact ⟨j', r, a1, a2, a3, a4, a5, by omega, a7⟩
          · rintro ⟨j', r, a1, a2, a3, a4, a5, a6, a7⟩
            refine ⟨j', r, a1, a2, a3, a4, a5, ?_, a7⟩
            have : j' ≠ j := by
              intro z
              rw [z] at a3
              unfold bt at a3
              omega
            omega
  have nor : ∀ x, ¬ rm n (s.2 59) (s.2 83) R p x 0 0 := by
    rintro x ⟨j', r, a1, a2, a3, a4, a5, a6, a7⟩
    omega
  refine ⟨⟨by omega, by omega⟩, fun c => l30 (n.toNat + 1) 0 100000 (by omega) (by omega) (by omega) (by omega) (by omega) (fun x y0 y1 => ⟨fun z => by omega, fun z => z.elim (fun y => absurd y.1 c) (fun y => absurd y (nor x))⟩), fun c => ⟨⟨k0, by omega⟩, l30 (n.toNat + 1) 0 _ (by omega) (by omega) (by omega) (by omega) (by omega) (fun x y0 y1 => ⟨fun z => Or.inl ⟨c, z⟩, fun z => z.elim (fun y => y.2) (fun y => absurd y (nor x))⟩)⟩⟩
def emW (n : Int) (pl fi la D e : Int → Int) (S k p : Int) : Prop := ∀ S' k' p', 1 ≤ S' → S' < p2 n → 0 ≤ k' → k' < n → 0 ≤ p' → p' < 10 → (S' < S ∨ (S' = S ∧ (k' < k ∨ (k' = k ∧ p' < p)))) → (e (90 * S' + 10 * k' + p') = 100000 ∨ (0 ≤ e (90 * S' + 10 * k' + p') ∧ e (90 * S' + 10 * k' + p') ≤ 999)) ∧ ∀ v, 0 ≤ v → v ≤ 999 → (e (90 * S' + 10 * k' + p') ≤ v ↔ (bt S' k' ∧ mqd n pl fi la D e (S' - p2 k') k' p' v))
theorem emW_x {n : Int} {pl fi la D e : Int → Int} {S k p S2 k2 p2' : Int} (h : emW n pl fi la D e S k p) (g : ∀ S' k' p', S' < p2 n → k' < n → p' < 10 → 0 ≤ k' → 0 ≤ p' → (S' < S2 ∨ (S' = S2 ∧ (k' < k2 ∨ (k' = k2 ∧ p' < p2')))) → (S' < S ∨ (S' = S ∧ (k' < k ∨ (k' = k ∧ p' < p))))) : emW n pl fi la D e S2 k2 p2' := fun S' k' p' a b c d f i j => h S' k' p' a b c d f i (g S' k' p' b d i c f j)
theorem rm_c {n : Int} {D e e' : Int → Int} {R p x J q : Int} (h : ∀ j r, 0 ≤ j → j < n → 0 ≤ r → r < 10 → e (90 * R + 10 * j + r) = e' (90 * R + 10 * j + r)) : rm n D e R p x J q ↔ rm n D e' R p x J q := by
  constructor
  · rintro ⟨j, r, a1, a2, a3, a4, a5, a6, a7⟩
    exact ⟨j, r, a1, a2, a3, a4, a5, a6, by rw [← h j r a1 a2 a4 a5]; exact a7⟩
  · rintro ⟨j, r, a1, a2, a3, a4, a5, a6, a7⟩
    exact ⟨j, r, a1, a2, a3, a4, a5, a6, by rw [h j r a1 a2 a4 a5]; exact a7⟩
theorem emW_s {n : Int} {pl fi la D e : Int → Int} {S k p r : Int} (n1 : n ≤ 9) (h : emW n pl fi la D e S k p) (S0 : 1 ≤ S) (S1 : S < p2 n) (k0 : 0 ≤ k) (k1 : k < n) (p0 : 0 ≤ p) (p1 : p < 10) (hr : r = 100000 ∨ (0 ≤ r ∧ r ≤ 999)) (hv : ∀ v, 0 ≤ v → v ≤ 999 → (r ≤ v ↔ (bt S k ∧ mqd n pl fi la D e (S - p2 k) k p v))) : emW n pl fi la D (updF e (90 * S + 10 * k + p) r) S k (p + 1) := by
  intro S' k' p' a1 a2 a3 a4 a5 a6 a7
  have p9 := p2_9 (n := n) (by omega) n1
  have cc : ∀ v, (bt S' k' ∧ mqd n pl fi la D (updF e (90 * S + 10 * k + p) r) (S' - p2 k') k' p' v) ↔ (bt S' k' ∧ mqd n pl fi la D e (S' - p2 k') k' p' v) := by
    intro v
    refine and_congr_right (fun hb => ?_)
    have := (bt_in (x := S') (k := k') a3 (by omega) (by omega) (by omega)).1 hb
    have pp := p2_pos k'
    unfold mqd
    rw [rm_c (e := updF e (90 * S + 10 * k + p) r) (e' := e) (fun j q j0 j1 q0 q1 => updF_n _ _ (by omega))]
  by_cases z : S' = S ∧ k' = k ∧ p' = p
  · rw [z.1, z.2.1, z.2.2] at cc ⊢
    rw [updF_s]
    exact ⟨hr, fun v v0 v1 => by rw [cc v]; exact hv v v0 v1⟩
  · rw [updF_n _ _ (by omega)]
    obtain ⟨h1, h2⟩ := h S' k' p' a1 a2 a3 a4 a5 a6 (by omega)
    exact ⟨h1, fun v v0 v1 => by rw [cc v]; exact h2 v v0 v1⟩
theorem Md_fillEarliest_ok {n : Int} {s : SS} {Q : SS → Prop} (hn : s.1 38 = n) (n0 : 0 ≤ n) (n1 : n ≤ 9) (hi : itm n (s.2 84) (s.2 85) (s.2 86)) (hD : dM (s.2 59)) (h83 : ∀ i, rng (s.2 83 i)) (hk : ∀ s', frm [] [83] s s' → (∀ i, rng (s'.2 83 i)) → emW n (s.2 84) (s.2 85) (s.2 86) (s.2 59) (s'.2 83) (p2 n) 0 0 → Q s') : Sp_Md_fillEarliest s Q := by
  intro X2 X14 X24 h2 h14 h24
  have p9 := p2_9 n0 n1
  have pn := p2_pos n
  have en : shl 1 n = p2 n := p2_shl n0 (by omega)
  have key : ∀ (t : Nat) (S k p : Int) (s1 : SS), 1 ≤ S → S ≤ p2 n → 0 ≤ k → k ≤ n → 0 ≤ p → p ≤ 10 → (p2 n - S) * 1000 + (n - k) * 20 + (10 - p) < t → frm [] [83] s s1 → (∀ i, rng (s1.2 83 i)) → emW n (s.2 84) (s.2 85) (s.2 86) (s.2 59) (s1.2 83) S k p → (S < p2 n → k < n → X24 S k p s1) ∧ (S < p2 n → p = 0 → X14 S k s1) ∧ (k = 0 → p = 0 → X2 S s1) := by
    intro t
    induction t with
    | zero => intro S k p s1 a b c d e f g h; omega
    | succ t ih =>
      intro S k p s1 S0 S1 k0 k1 p0 p1 ht hf hg hE
      have e38 : s1.1 38 = n := by rw [hf.1 38 rfl, hn]
      have e84 : s1.2 84 = s.2 84 := hf.2 84 rfl
      have e85 : s1.2 85 = s.2 85 := hf.2 85 rfl
      have e86 : s1.2 86 = s.2 86 := hf.2 86 rfl
      have e59 : s1.2 59 = s.2 59 := hf.2 59 rfl
      have k24 : S < p2 n → k < n → X24 S k p s1 := by
        intro c1 c2
        have ik := hi k k0 c2
        have b1 := bt_01 (x := S) (k := k) (by omega) (by omega) k0 (by omega)
        have b2 := bt_01 (x := s.2 84 k) (k := p) (by omega) (by omega) p0 (by omega)
        have put : p < 10 → ∀ r s2, s2 = sA s1 83 (90 * S + 10 * k + p) r → (r = 100000 ∨ (0 ≤ r ∧ r ≤ 999)) → (∀ v, 0 ≤ v → v ≤ 999 → (r ≤ v ↔ (bt S k ∧ mqd n (s.2 84) (s.2 85) (s.2 86) (s.2 59) (s1.2 83) (S - p2 k) k p v))) → X24 S k (p + 1) s2 := by
          intro d r s2 h2' hr hv
          refine (ih S k (p + 1) s2 S0 S1 k0 k1 (by omega) (by omega) (by omega) (by rw [h2']; exact frm_tr hf (frm_A _ _ _ (by decide))) (fun i => by
            rw [h2', sA_s]
            split
            · exact ⟨by omega, by omega⟩
            · exact hg i) ?_).1 c1 c2
          rw [h2', sA_u]
          exact emW_s n1 hE S0 c1 k0 c2 p0 d hr hv
        refine h24 _ _ _ _ ⟨⟨by omega, by omega⟩, fun d => ?_, fun d => ⟨by omega, fun c => ⟨by omega, fun s2 h2' => put d _ s2 h2' (Or.inl rfl) (fun v v0 v1 => ⟨fun z => by omega, fun z => absurd z.1 c⟩)⟩, fun c => ⟨by omega, ?_⟩⟩⟩
        · refine (ih S (k + 1) 0 s1 S0 S1 (by omega) (by omega) (by omega) (by omega) (by omega) hf hg (emW_x hE (fun S' k' p' a1 a2 a3 a4 a5 a6 => by omega))).2.1 c1 rfl
        · rw [e84]
          refine ⟨by omega, fun f => ⟨by omega, fun s2 h2' => put d _ s2 h2' (Or.inl rfl) (fun v v0 v1 => ⟨fun z => by omega, fun z => absurd z.2.1 f⟩)⟩, fun f => ?_⟩
          refine Md_comesAt_ok e38 n1 k0 c2 (by omega) c1 c p0 d (by rw [e84, e85, e86]; exact hi) (by rw [e59]; exact hD) (fun j q j0 j1 q0 q1 hb => ?_) (fun r hr hv => ⟨by omega, fun s2 h2' => put d r s2 h2' hr (fun v v0 v1 => ?_)⟩)
          · have x := (bt_in (x := S) (k := k) k0 (by omega) (by omega) (by omega)).1 c
            have pp := p2_pos k
            have R1 : 1 ≤ S - p2 k := by
              rcases Int.lt_or_le (S - p2 k) 1 with z | z
              · rw [show S - p2 k = 0 by omega] at hb
                have dz : ∀ j : Fin 9, ¬ bt 0 (j.val : Int) := by decide
                have := dz ⟨j.toNat, by omega⟩
                rw [show (((⟨j.toNat, by omega⟩ : Fin 9).val : Nat) : Int) = j by show ((j.toNat : Nat) : Int) = j; omega] at this
                exact absurd hb this
              · exact z
            have := (hE (S - p2 k) j q R1 (by omega) j0 j1 q0 q1 (by omega)).1
            omega
          · rw [hv v v0 v1, e85, e86, e59]
            exact ⟨fun z => ⟨c, f, z⟩, fun z => z.2.2⟩
      have k14 : S < p2 n → p = 0 → X14 S k s1 := by
        intro c1 c2
        refine h14 _ _ _ ⟨⟨by omega, by omega⟩, by rw [e38]; exact ⟨by omega, by omega⟩, fun d => ?_, fun d => ?_⟩
        · rw [e38] at d
          refine (ih (S + 1) 0 0 s1 (by omega) (by omega) (by omega) (by omega) (by omega) (by omega) (by omega) hf hg (emW_x hE (fun S' k' p' a1 a2 a3 a4 a5 a6 => by omega))).2.2 rfl rfl
        · rw [e38] at d
          have := k24 c1 d
          rw [c2] at this
          exact this
      refine ⟨k24, k14, fun c1 c2 => ?_⟩
      refine h2 _ _ ?_
      unfold B_Md_fillEarliest_2
      rw [e38, en]
      refine ⟨⟨by omega, by omega⟩, ⟨by omega, by omega⟩, fun d => hk s1 hf hg ?_, fun d => ?_⟩
      · rw [c1, c2, show S = p2 n by omega] at hE
        exact hE
      · have := k14 d c2
        rw [c1] at this
        exact this
  exact (key 1000000 1 0 0 s (by omega) (by omega) (by omega) n0 (by omega) (by omega) (by omega) (frm_rf _ _ _) h83 (fun S' k' p' a1 a2 a3 a4 a5 a6 a7 => by omega)).2.2 rfl rfl
theorem Md_canBe_B {n x : Int} {s : SS} (hn : s.1 38 = n) (n0 : 0 ≤ n) (n1 : n ≤ 9) (x0 : 0 ≤ x) (x1 : x < p2 n) (hr : ∀ i, rng (s.2 83 i)) : isB (x = 0 ∨ ∃ i, 0 ≤ i ∧ i < 90 ∧ i < 10 * n ∧ s.2 83 (90 * x + i) < 100000) s (Sp_Md_canBe x s) := by
  intro K h1 h0 X12 h12
  have p9 := p2_9 n0 n1
  have loop : ∀ (t : Nat) (i f : Int), 0 ≤ i → i ≤ 90 → 90 - i < t → (f = 0 ∨ f = 1) → (f = 1 ↔ (x = 0 ∨ ∃ j, 0 ≤ j ∧ j < i ∧ j < 10 * n ∧ s.2 83 (90 * x + j) < 100000)) → X12 x f i s := by
    intro t
    induction t with
    | zero => intro j b a c d; omega
    | succ t ih =>
      intro i f i0 i1 ht hf hI
      refine h12 _ _ _ _ ⟨⟨by omega, by omega⟩, fun d => ⟨by omega, ?_⟩, fun d => ⟨⟨by omega, by omega⟩, fun c => ?_, fun c => ⟨by omega, hr _, fun g => ?_, fun g => ⟨⟨by omega, by omega⟩, by rw [hn]; exact ⟨by omega, by omega⟩, fun k => ?_, fun k => ?_⟩⟩⟩⟩
      · rcases hf with z | z
        · rw [z]
          refine h0 (fun y => ?_)
          have := hI.mpr (y.imp id (fun ⟨j, a, b, c, e⟩ => ⟨j, a, by omega, c, e⟩))
          omega
        · rw [z]
          refine h1 ?_
          exact (hI.mp z).imp id (fun ⟨j, a, b, c, e⟩ => ⟨j, a, by omega, c, e⟩)
      · refine ih (i + 1) 1 (by omega) (by omega) (by omega) (Or.inr rfl) ⟨fun _ => ?_, fun _ => rfl⟩
        exact (hI.mp (by omega)).imp id (fun ⟨j, a, b, c, e⟩ => ⟨j, a, by omega, c, e⟩)
      · refine ih (i + 1) 0 (by omega) (by omega) (by omega) (Or.inl rfl) ⟨fun z => absurd z (by decide), fun z => ?_⟩
        rcases z with z | ⟨j, a, b, c, e⟩
        · have := hI.mpr (Or.inl z); omega
        · by_cases y : j = i
          · rw [y] at e; omega
          · have := hI.mpr (Or.inr ⟨j, a, by omega, c, e⟩); omega
      · rw [hn] at k
        refine ih (i + 1) 0 (by omega) (by omega) (by omega) (Or.inl rfl) ⟨fun z => absurd z (by decide), fun z => ?_⟩
        rcases z with z | ⟨j, a, b, c, e⟩
        · have := hI.mpr (Or.inl z); omega
        · have := hI.mpr (Or.inr ⟨j, a, by omega, c, e⟩); omega
      · rw [hn] at k
        exact ih (i + 1) 1 (by omega) (by omega) (by omega) (Or.inr rfl) ⟨fun _ => Or.inr ⟨i, i0, by omega, k, g⟩, fun _ => rfl⟩
  exact ⟨⟨by omega, by omega⟩, fun c => loop 91 0 0 (by omega) (by omega) (by omega) (Or.inl rfl) ⟨fun z => absurd z (by decide), fun z => by rcases z with z | ⟨j, a, b, -⟩; exact absurd z c; omega⟩, fun c => loop 91 0 1 (by omega) (by omega) (by omega) (Or.inr rfl) ⟨fun _ => Or.inl c, fun _ => rfl⟩⟩
end
