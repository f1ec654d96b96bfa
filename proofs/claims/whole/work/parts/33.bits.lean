section
/-! bits of numbers, bytes -/
theorem fa_and (a b : Nat) : nI a &&& nI b = nI (a &&& b) := by
  apply Int32.toBitVec_inj.1
  show BitVec.ofNat 32 a &&& BitVec.ofNat 32 b = BitVec.ofNat 32 (a &&& b)
  apply BitVec.eq_of_getLsbD_eq
  intro i hi
  simp [hi]
theorem fa_or (a b : Nat) : nI a ||| nI b = nI (a ||| b) := by
  apply Int32.toBitVec_inj.1
  show BitVec.ofNat 32 a ||| BitVec.ofNat 32 b = BitVec.ofNat 32 (a ||| b)
  apply BitVec.eq_of_getLsbD_eq
  intro i hi
  simp [hi]
theorem bp_b (x : Int32) : x.toInt8.toInt32 &&& 255 = x &&& 255 := by
  apply Int32.toBitVec_inj.mp
  rw [Int32.toBitVec_and, Int32.toBitVec_and, Int8.toBitVec_toInt32, Int32.toBitVec_toInt8]
  apply BitVec.eq_of_getLsbD_eq
  intro i hi
  rw [BitVec.getLsbD_and, BitVec.getLsbD_and]
  have hm : ∀ i < 32, 8 ≤ i → (255 : Int32).toBitVec.getLsbD i = false := by decide
  rcases Nat.lt_or_ge i 8 with z | z
  · rw [BitVec.getLsbD_signExtend, BitVec.getLsbD_signExtend, if_pos z, if_pos hi]
    simp only [z, hi, decide_true, Bool.true_and]
  · rw [hm i hi z]; simp
theorem s_l : ∀ n, n < 32 → ((nI n &&& 31).toBitVec.smod 32).toNat = n := by decide +kernel
theorem iI_nat (n : Nat) : iI (n : Int) = nI n := Int32.ofInt_eq_ofNat ..
theorem bnd_nat {a b : Nat} (h : a < 2147483648 ∨ b < 2147483648) : bnd a b = ((a &&& b : Nat) : Int) := by
  have h1 : a &&& b ≤ a := Nat.and_le_left
  have h2 : a &&& b ≤ b := Nat.and_le_right
  unfold bnd
  rw [iI_nat, iI_nat, fa_and, nI_toInt (by omega)]
theorem bor_nat {a b k : Nat} (ha : a < 2 ^ k) (hb : b < 2 ^ k) (hk : k ≤ 31) : bor a b = ((a ||| b : Nat) : Int) := by
  have h1 := Nat.or_lt_two_pow ha hb
  have h2 : 2 ^ k ≤ 2 ^ 31 := Nat.pow_le_pow_right (by decide) hk
  unfold bor
  rw [iI_nat, iI_nat, fa_or, nI_toInt (by omega)]
theorem shr_nat {a k : Nat} (ha : a < 2147483648) (hk : k < 32) : shr a k = ((a / 2 ^ k : Nat) : Int) := by
  unfold shr
  rw [iI_nat, iI_nat, pk_shrN (by omega) (nI k &&& 31) k (s_l k hk), nI_toInt (by have : a / 2 ^ k ≤ a := Nat.div_le_self _ _; omega)]
theorem shl_nat {a k : Nat} (hk : k < 32) (h : a * 2 ^ k < 2147483648) : shl a k = ((a * 2 ^ k : Nat) : Int) := by
  unfold shl
  rw [iI_nat, iI_nat, pk_shlN (nI k &&& 31) k (s_l k hk) (by omega), nI_toInt (by omega)]
/-- a byte as the tape of the class holds it, and as it is read -/
theorem bnd_255 (x : Int) : 0 ≤ bnd x 255 ∧ bnd x 255 ≤ 255 := by
  have e : iI x = nI (iI x).toBitVec.toNat := by
    apply Int32.toBitVec_inj.1
    show (iI x).toBitVec = BitVec.ofNat 32 (iI x).toBitVec.toNat
    rw [BitVec.ofNat_toNat, BitVec.setWidth_eq]
  have h2 : (iI x).toBitVec.toNat &&& 255 ≤ 255 := Nat.and_le_right
  unfold bnd
  rw [e, show iI 255 = nI 255 from iI_nat 255, fa_and, nI_toInt (by omega)]
  omega
theorem byte_eq (y : Int) : bnd (i2b (l2i y)) 255 = l2i (lnd y 255) := by
  unfold bnd i2b l2i lnd
  rw [iI_ti, iI_ti, jJ_ti]
  rw [show iI 255 = 255 from rfl, bp_b, Int64.toInt32_and]
  rfl
end
