section
/-! WALK: sets as bits -/
abbrev bt (x k : Int) : Prop := bnd (shr x k) 1 = 1
def p2 (k : Int) : Int := 2 ^ k.toNat
theorem bt_nat {x k : Nat} (hx : x < 2147483648) (hk : k < 32) : bnd (shr x k) 1 = ((x / 2 ^ k % 2 : Nat) : Int) := by
  rw [shr_nat hx hk, show (1 : Int) = ((1 : Nat) : Int) from rfl, bnd_nat (Or.inr (by decide)), Nat.and_one_is_mod]
theorem bt_01 {x k : Int} (x0 : 0 ≤ x) (x1 : x < 2147483648) (k0 : 0 ≤ k) (k1 : k < 32) : bnd (shr x k) 1 = 0 ∨ bnd (shr x k) 1 = 1 := by
  have h := bt_nat (x := x.toNat) (k := k.toNat) (by omega) (by omega)
  rw [show ((x.toNat : Nat) : Int) = x by omega, show ((k.toNat : Nat) : Int) = k by omega] at h
  omega
theorem p2_shl {k : Int} (k0 : 0 ≤ k) (k1 : k < 31) : shl 1 k = p2 k := by
  have h := shl_nat (a := 1) (k := k.toNat) (by omega) (by
    have : 2 ^ k.toNat < 2 ^ 31 := Nat.pow_lt_pow_right (by decide) (by omega)
    omega)
  rw [show ((k.toNat : Nat) : Int) = k by omega, Nat.one_mul] at h
  rw [show (1 : Int) = ((1 : Nat) : Int) from rfl, h]
  unfold p2
  rw [Int.natCast_pow]
  rfl
theorem p2_vals : ∀ k : Fin 10, p2 k = [1, 2, 4, 8, 16, 32, 64, 128, 256, 512].getD k.val 0 := by decide
theorem p2_d1 : ∀ n : Fin 10, ∀ k : Fin 9, k.val < n.val → p2 (k.val : Int) < p2 (n.val : Int) := by decide
set_option maxRecDepth 100000 in
theorem bt_dec : ∀ k : Fin 9, ∀ x : Fin 512, (bt (x.val : Int) (k.val : Int) → bnd (x.val : Int) (bxr (shl 1 (k.val : Int)) (-1)) = (x.val : Int) - p2 (k.val : Int) ∧ p2 (k.val : Int) ≤ (x.val : Int) ∧ ¬ bt ((x.val : Int) - p2 (k.val : Int)) (k.val : Int)) ∧ (¬ bt (x.val : Int) (k.val : Int) → bor (x.val : Int) (shl 1 (k.val : Int)) = (x.val : Int) + p2 (k.val : Int) ∧ bt ((x.val : Int) + p2 (k.val : Int)) (k.val : Int)) := by decide +kernel
set_option maxRecDepth 100000 in
theorem bt_n : ∀ n : Fin 10, ∀ k : Fin 9, k.val < n.val → ∀ x : Fin 512, (x.val : Int) < p2 (n.val : Int) → ¬ bt (x.val : Int) (k.val : Int) → (x.val : Int) + p2 (k.val : Int) < p2 (n.val : Int) := by decide +kernel
theorem p2_pos (k : Int) : 1 ≤ p2 k := by
  have : 0 < 2 ^ k.toNat := Nat.two_pow_pos _
  have e : p2 k = ((2 ^ k.toNat : Nat) : Int) := by unfold p2; rw [Int.natCast_pow]; rfl
  omega
theorem p2_9 {n : Int} (n0 : 0 ≤ n) (n1 : n ≤ 9) : p2 n ≤ 512 := by
  have h : ∀ k : Fin 10, p2 (k.val : Int) ≤ 512 := by decide
  have := h ⟨n.toNat, by omega⟩
  rw [show (((⟨n.toNat, by omega⟩ : Fin 10).val : Nat) : Int) = n by show ((n.toNat : Nat) : Int) = n; omega] at this
  exact this
theorem bt_in {x k : Int} (k0 : 0 ≤ k) (k1 : k < 9) (x0 : 0 ≤ x) (x1 : x < 512) : (bt x k → bnd x (bxr (shl 1 k) (-1)) = x - p2 k ∧ p2 k ≤ x ∧ ¬ bt (x - p2 k) k) ∧ (¬ bt x k → bor x (shl 1 k) = x + p2 k ∧ bt (x + p2 k) k) := by
  have := bt_dec ⟨k.toNat, by omega⟩ ⟨x.toNat, by omega⟩
  have e1 : (((⟨k.toNat, by omega⟩ : Fin 9).val : Nat) : Int) = k := by show ((k.toNat : Nat) : Int) = k; omega
  have e2 : (((⟨x.toNat, by omega⟩ : Fin 512).val : Nat) : Int) = x := by show ((x.toNat : Nat) : Int) = x; omega
  rw [e1, e2] at this
  exact this
theorem bt_lt {n x k : Int} (n1 : n ≤ 9) (k0 : 0 ≤ k) (k1 : k < n) (x0 : 0 ≤ x) (x1 : x < p2 n) (h : ¬ bt x k) : x + p2 k < p2 n := by
  have p9 := p2_9 (n := n) (by omega) n1
  have := bt_n ⟨n.toNat, by omega⟩ ⟨k.toNat, by omega⟩ (show k.toNat < n.toNat by omega) ⟨x.toNat, by omega⟩
  have e1 : (((⟨k.toNat, by omega⟩ : Fin 9).val : Nat) : Int) = k := by show ((k.toNat : Nat) : Int) = k; omega
  have e2 : (((⟨x.toNat, by omega⟩ : Fin 512).val : Nat) : Int) = x := by show ((x.toNat : Nat) : Int) = x; omega
  have e3 : (((⟨n.toNat, by omega⟩ : Fin 10).val : Nat) : Int) = n := by show ((n.toNat : Nat) : Int) = n; omega
  rw [e1, e2, e3] at this
  exact this x1 h
end
