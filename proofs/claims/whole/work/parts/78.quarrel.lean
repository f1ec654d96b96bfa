section
/-! quarrel -/
def lqF (W : Int → Bool) : Nat → Int
  | 0 => 0
  | k + 1 => if (lqF W k = 0 ∨ popN (k + 1) < popN (lqF W k).toNat) ∧ W ((k : Int) + 1) = false then (k : Int) + 1 else lqF W k
theorem lqF_s (W : Int → Bool) (k : Nat) : lqF W (k + 1) = if (lqF W k = 0 ∨ popN (k + 1) < popN (lqF W k).toNat) ∧ W ((k : Int) + 1) = false then (k : Int) + 1 else lqF W k := rfl
theorem lqF_b (W : Int → Bool) (k : Nat) : 0 ≤ lqF W k ∧ lqF W k ≤ k := by
  induction k with
  | zero => exact ⟨Int.le_refl _, Int.le_refl _⟩
  | succ k ih => rw [lqF_s]; split <;> omega
theorem Wa_leastQuarrel_ok {n : Int} {D : Int → Int} {W : Int → Bool} {s : SS} {Q : Int → SS → Prop} (n0 : 0 ≤ n) (n1 : n ≤ 9) (hw : wkd n D s) (hW : ∀ x, 0 ≤ x → x < p2 n → (W x = true ↔ wk s x)) (hk : Q (lqF W (p2 n - 1).toNat) s) : Sp_Wa_leastQuarrel s Q := by
  intro X4 X32 h4 h32
  have p9 := p2_9 n0 n1
  have pp := p2_pos n
  have loop : ∀ (t k : Nat), (k : Int) ≤ p2 n - 1 → p2 n - k < t → X4 (lqF W k) ((k : Int) + 1) s := by
    intro t
    induction t with
    | zero => intro k a b; omega
    | succ t ih =>
      intro k k1 ht
      have lb := lqF_b W k
      have pl1 := popN_le (n := k + 1) (by omega)
      have pl2 := popN_le (n := (lqF W k).toNat) (by omega)
      refine h4 _ _ _ (all_ok hw.1 n0 n1 ⟨⟨by omega, by omega⟩, ⟨by omega, by omega⟩, fun d => ?_, fun d => ⟨⟨by omega, by omega⟩, ?_⟩⟩)
      · rw [show k = (p2 n - 1).toNat by omega]
        exact hk
      · have nx := ih (k + 1) (by omega) (by omega)
        rw [lqF_s, Int.natCast_add] at nx
        have no : ¬ (lqF W k = 0 ∨ popN (k + 1) < popN (lqF W k).toNat) → X32 (lqF W k) ((k : Int) + 1) 0 s := fun c => by
          rw [if_neg (fun z => c z.1)] at nx
          exact h32 _ _ _ _ ⟨by decide, fun _ => nx, fun z => absurd rfl z⟩
        have yes : (lqF W k = 0 ∨ popN (k + 1) < popN (lqF W k).toNat) → X32 (lqF W k) ((k : Int) + 1) 1 s := fun c => by
          refine h32 _ _ _ _ ⟨by decide, fun z => absurd z (by decide), fun _ => isB_b (wk_B n0 n1 hw (by omega) (by omega)) (fun z => ?_) (fun z => ?_)⟩
          · rw [if_pos ⟨c, by rw [← Bool.not_eq_true]; exact fun y => z ((hW _ (by omega) (by omega)).mp y)⟩] at nx
            exact nx
          · rw [if_neg (fun y => by rw [(hW _ (by omega) (by omega)).mpr z] at y; exact absurd y.2 (by decide))] at nx
            exact nx
        refine ⟨fun c => yes (Or.inl c), fun c => Jl_bitCount_ok (by omega) (by omega) (Jl_bitCount_ok (by omega) (by omega) ?_)⟩
        rw [show ((k : Int) + 1).toNat = k + 1 by omega]
        exact ⟨⟨by omega, by omega⟩, ⟨by omega, by omega⟩, fun f => no (by omega), fun f => yes (Or.inr (by omega))⟩
  exact loop (p2 n + 1).toNat 0 (by omega) (by omega)
def bB (x : Int) : Int → Bool := fun k => decide (bt x k)
theorem bt_hi {n x k : Int} (n0 : 0 ≤ n) (n1 : n ≤ 9) (x0 : 0 ≤ x) (x1 : x < p2 n) (k0 : n ≤ k) (k1 : k < 32) : ¬ bt x k := by
  have h := bt_nat (x := x.toNat) (k := k.toNat) (by have := p2_9 n0 n1; omega) (by omega)
  rw [show ((x.toNat : Nat) : Int) = x by omega, show ((k.toNat : Nat) : Int) = k by omega] at h
  have e : p2 n = ((2 ^ n.toNat : Nat) : Int) := by unfold p2; rw [Int.natCast_pow]; rfl
  have l : 2 ^ n.toNat ≤ 2 ^ k.toNat := Nat.pow_le_pow_right (by decide) (by omega)
  have z : x.toNat / 2 ^ k.toNat = 0 := Nat.div_eq_of_lt (by omega)
  rw [z] at h
  unfold bt
  omega
/-- the place of the i-th bit -/
def ibt (n x i r : Int) : Prop := (0 ≤ r ∧ r < n ∧ bt x r ∧ cntP (bB x) r.toNat = i) ∨ (r = -1 ∧ ∀ p, 0 ≤ p → p < n → bt x p → cntP (bB x) p.toNat ≠ i)
theorem LS_bitAt_ok {n x i : Int} {s : SS} {Q : Int → SS → Prop} (n0 : 0 ≤ n) (n1 : n ≤ 9) (x0 : 0 ≤ x) (x1 : x < p2 n) (ri : rng i) (hk : ∀ r, ibt n x i r → Q r s) : Sp_LS_bitAt x i s Q := by
  intro X4 h4
  have p9 := p2_9 n0 n1
  have loop : ∀ (t k : Nat), (k : Int) ≤ 32 → (32 : Int) - k < t → (∀ p, 0 ≤ p → p < (k : Int) → bt x p → cntP (bB x) p.toNat ≠ i) → X4 x i (cntP (bB x) k) k s := by
    intro t
    induction t with
    | zero => intro k a b; omega
    | succ t ih =>
      intro k k1 ht hI
      have cb := cntP_b (bB x) k
      have nx := ih (k + 1) 
      rw [cntP_s] at nx
      refine h4 _ _ _ _ _ ⟨⟨by omega, by omega⟩, fun d => hk _ (Or.inr ⟨rfl, fun p p0 p1 => hI p p0 (by omega)⟩), fun d => ?_⟩
      have b01 := bt_01 (x := x) (k := k) x0 (by omega) (by omega) d
      refine ⟨by omega, fun c => ⟨⟨by omega, by omega⟩, ri, fun f => ?_, fun f => ?_⟩, fun c => ?_⟩
      · have hb : bt x k := by unfold bt; omega
        rw [if_pos (by unfold bB; exact decide_eq_true hb)] at nx
        refine nx (by omega) (by omega) (fun p p0 p1 hp => ?_)
        by_cases e : p = k
        · rw [e, Int.toNat_natCast]; exact f
        · exact hI p p0 (by omega) hp
      · have hb : bt x k := by unfold bt; omega
        have kn : (k : Int) < n := by
          rcases Int.lt_or_le (k : Int) n with z | z
          · exact z
          · exact absurd hb (bt_hi n0 n1 x0 x1 z d)
        exact hk _ (Or.inl ⟨by omega, kn, hb, by rw [Int.toNat_natCast]; exact f⟩)
      · have hb : ¬ bt x k := by unfold bt; omega
        rw [if_neg (by unfold bB; rw [decide_eq_true_eq]; exact hb), Int.add_zero] at nx
        refine nx (by omega) (by omega) (fun p p0 p1 hp => ?_)
        by_cases e : p = k
        · rw [e] at hp; exact absurd hp hb
        · exact hI p p0 (by omega) hp
  exact loop 33 0 (by omega) (by omega) (fun p a b => by omega)
theorem ibt_u {n x i r k : Int} (h : ibt n x i r) (k0 : 0 ≤ k) (k1 : k < n) (hb : bt x k) (hc : cntP (bB x) k.toNat = i) : r = k := by
  rcases h with ⟨a, b, c, d⟩ | ⟨a, b⟩
  · have := cntP_inj (p := bB x) (m := r.toNat) (n := k.toNat) (by rw [show ((r.toNat : Nat) : Int) = r by omega]; exact decide_eq_true c) (by rw [show ((k.toNat : Nat) : Int) = k by omega]; exact decide_eq_true hb) (by omega)
    omega
  · exact absurd hc (b k k0 k1 hb)
end
