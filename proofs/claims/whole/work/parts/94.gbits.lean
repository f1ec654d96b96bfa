section
/-! GRAVES: sets and persons as bits -/
theorem fa_xor (a b : Nat) : nI a ^^^ nI b = nI (a ^^^ b) := by
  apply Int32.toBitVec_inj.1
  show BitVec.ofNat 32 a ^^^ BitVec.ofNat 32 b = BitVec.ofNat 32 (a ^^^ b)
  apply BitVec.eq_of_getLsbD_eq
  intro i hi
  simp [hi]
theorem tb_div (x k : Nat) : x.testBit k = true ↔ x / 2 ^ k % 2 = 1 := by
  rw [Nat.testBit_eq_decide_div_mod_eq, decide_eq_true_eq]
theorem bit_ok {x k : Int} (x0 : 0 ≤ x) (x1 : x < 2147483648) (k0 : 0 ≤ k) (k1 : k < 32) : bnd (shr x k) 1 = if x.toNat.testBit k.toNat = true then 1 else 0 := by
  have h := bt_nat (x := x.toNat) (k := k.toNat) (by omega) (by omega)
  rw [show ((x.toNat : Nat) : Int) = x by omega, show ((k.toNat : Nat) : Int) = k by omega] at h
  rw [h]
  by_cases c : x.toNat.testBit k.toNat = true
  · rw [if_pos c, (tb_div _ _).mp c]; rfl
  · rw [if_neg c]
    have : ¬ x.toNat / 2 ^ k.toNat % 2 = 1 := fun q => c ((tb_div _ _).mpr q)
    omega
theorem shl1_ok {k : Int} (k0 : 0 ≤ k) (k1 : k < 31) : shl 1 k = ((2 ^ k.toNat : Nat) : Int) := by
  have h := shl_nat (a := 1) (k := k.toNat) (by omega) (by
    have : 2 ^ k.toNat < 2 ^ 31 := Nat.pow_lt_pow_right (by decide) (by omega)
    omega)
  rw [show ((k.toNat : Nat) : Int) = k by omega, Nat.one_mul] at h
  exact h
theorem bor1_ok {x k : Int} (x0 : 0 ≤ x) (x1 : x < 1024) (k0 : 0 ≤ k) (k1 : k < 10) : (0 ≤ bor x (shl 1 k) ∧ bor x (shl 1 k) < 1024) ∧ (bor x (shl 1 k)).toNat = x.toNat ||| 2 ^ k.toNat ∧ (bor x (shl 1 k)).toNat.testBit = wth x.toNat.testBit k.toNat := by
  have hp : 2 ^ k.toNat < 2 ^ 10 := Nat.pow_lt_pow_right (by decide) (by omega)
  have h := bor_nat (a := x.toNat) (b := 2 ^ k.toNat) (k := 10) (by omega) hp (by decide)
  rw [show ((x.toNat : Nat) : Int) = x by omega, ← shl1_ok k0 (by omega)] at h
  have hl : x.toNat ||| 2 ^ k.toNat < 2 ^ 10 := Nat.or_lt_two_pow (by omega) hp
  rw [h]
  refine ⟨⟨by omega, by omega⟩, by omega, ?_⟩
  rw [show (((x.toNat ||| 2 ^ k.toNat : Nat) : Int)).toNat = x.toNat ||| 2 ^ k.toNat by omega]
  funext j
  unfold wth
  rw [Nat.testBit_or, Nat.testBit_two_pow]
  congr 1
  rw [Bool.eq_iff_iff, decide_eq_true_eq, decide_eq_true_eq]
  exact eq_comm
theorem not_ok {x y : Int} (x0 : 0 ≤ x) (x1 : x < 2147483648) (y0 : 0 ≤ y) (y1 : y < 2147483648) : bnd x (bxr y (-1)) = ((x.toNat &&& (y.toNat ^^^ 4294967295) : Nat) : Int) := by
  have em : iI (-1) = nI 4294967295 := by decide +kernel
  have le : x.toNat &&& (y.toNat ^^^ 4294967295) ≤ x.toNat := Nat.and_le_left
  unfold bnd bxr
  rw [iI_ti, em]
  have ex : iI x = nI x.toNat := by rw [← iI_nat, show ((x.toNat : Nat) : Int) = x by omega]
  have ey : iI y = nI y.toNat := by rw [← iI_nat, show ((y.toNat : Nat) : Int) = y by omega]
  rw [ex, ey, fa_xor, fa_and, nI_toInt (by omega)]
theorem tb_hi {x j : Nat} (hx : x < 2147483648) (hj : 31 ≤ j) : x.testBit j = false := by
  refine Nat.testBit_lt_two_pow ?_
  have : 2 ^ 31 ≤ 2 ^ j := Nat.pow_le_pow_right (by decide) hj
  omega
theorem not_tb {x y : Int} (x0 : 0 ≤ x) (x1 : x < 2147483648) (y0 : 0 ≤ y) (y1 : y < 2147483648) (j : Nat) : (bnd x (bxr y (-1))).toNat.testBit j = (x.toNat.testBit j && !y.toNat.testBit j) := by
  rw [not_ok x0 x1 y0 y1, show (((x.toNat &&& (y.toNat ^^^ 4294967295) : Nat) : Int)).toNat = x.toNat &&& (y.toNat ^^^ 4294967295) by omega, Nat.testBit_and, Nat.testBit_xor]
  by_cases c : j < 31
  · rw [show (4294967295 : Nat) = 2 ^ 32 - 1 from rfl, Nat.testBit_two_pow_sub_one, decide_eq_true (by omega)]
    cases x.toNat.testBit j <;> cases y.toNat.testBit j <;> rfl
  · rw [tb_hi (by omega) (show 31 ≤ j by omega), Bool.false_and, Bool.false_and]
theorem not_b {x y : Int} (x0 : 0 ≤ x) (x1 : x < 2147483648) (y0 : 0 ≤ y) (y1 : y < 2147483648) : 0 ≤ bnd x (bxr y (-1)) ∧ bnd x (bxr y (-1)) ≤ x := by
  rw [not_ok x0 x1 y0 y1]
  have le : x.toNat &&& (y.toNat ^^^ 4294967295) ≤ x.toNat := Nat.and_le_left
  omega
/-- all bits of x are of y -/
theorem sub_ok {x y : Int} (x0 : 0 ≤ x) (x1 : x < 2147483648) (y0 : 0 ≤ y) (y1 : y < 2147483648) : bnd x (bxr y (-1)) = 0 ↔ ∀ j : Nat, x.toNat.testBit j = true → y.toNat.testBit j = true := by
  have hb := not_b x0 x1 y0 y1
  constructor
  · intro h j hj
    have := not_tb x0 x1 y0 y1 j
    rw [h, hj, show (0 : Int).toNat = 0 from rfl, Nat.zero_testBit, Bool.true_and] at this
    cases e : y.toNat.testBit j
    · rw [e] at this; exact absurd this (by decide)
    · rfl
  · intro h
    have : (bnd x (bxr y (-1))).toNat = 0 := by
      apply Nat.eq_of_testBit_eq
      intro j
      rw [not_tb x0 x1 y0 y1 j, Nat.zero_testBit]
      cases e : x.toNat.testBit j
      · rfl
      · rw [h j e]; rfl
    omega
theorem bnd1_ok {x k : Int} (x0 : 0 ≤ x) (x1 : x < 1024) (k0 : 0 ≤ k) (k1 : k < 10) : (0 ≤ bnd x (shl 1 k) ∧ bnd x (shl 1 k) < 1024) ∧ (bnd x (shl 1 k) = 0 ↔ x.toNat.testBit k.toNat = false) := by
  have h := bnd_nat (a := x.toNat) (b := 2 ^ k.toNat) (Or.inl (by omega))
  rw [show ((x.toNat : Nat) : Int) = x by omega, ← shl1_ok k0 (by omega)] at h
  have le : x.toNat &&& 2 ^ k.toNat ≤ x.toNat := Nat.and_le_left
  rw [h]
  refine ⟨⟨by omega, by omega⟩, ?_⟩
  constructor
  · intro e
    have e : x.toNat &&& 2 ^ k.toNat = 0 := by omega
    have := congrArg (fun z => Nat.testBit z k.toNat) e
    simp only [Nat.testBit_and, Nat.testBit_two_pow_self, Bool.and_true, Nat.zero_testBit] at this
    exact this
  · intro e
    have : x.toNat &&& 2 ^ k.toNat = 0 := by
      apply Nat.eq_of_testBit_eq
      intro j
      rw [Nat.testBit_and, Nat.zero_testBit, Nat.testBit_two_pow]
      by_cases c : k.toNat = j
      · rw [← c, e]; rfl
      · rw [decide_eq_false c, Bool.and_false]
    omega
/-- without one -/
theorem but_ok {x k : Int} (x0 : 0 ≤ x) (x1 : x < 2147483648) (k0 : 0 ≤ k) (k1 : k < 31) : (0 ≤ bnd x (bxr (shl 1 k) (-1)) ∧ bnd x (bxr (shl 1 k) (-1)) ≤ x) ∧ (bnd x (bxr (shl 1 k) (-1))).toNat.testBit = but x.toNat.testBit k.toNat := by
  have hp : 2 ^ k.toNat < 2 ^ 31 := Nat.pow_lt_pow_right (by decide) (by omega)
  have e := shl1_ok k0 k1
  have hy : 0 ≤ shl 1 k ∧ shl 1 k < 2147483648 := by
    rw [e]
    generalize 2 ^ k.toNat = z at hp
    omega
  refine ⟨not_b x0 x1 hy.1 hy.2, ?_⟩
  funext j
  rw [not_tb x0 x1 hy.1 hy.2, e, show (((2 ^ k.toNat : Nat) : Int)).toNat = 2 ^ k.toNat by omega, Nat.testBit_two_pow]
  unfold but
  congr 2
  rw [Bool.eq_iff_iff, decide_eq_true_eq, decide_eq_true_eq]
  exact eq_comm
theorem sb_cnB (x : Nat) : ∀ k : Nat, sb x k = cnB x.testBit k := by
  intro k
  induction k with
  | zero => rfl
  | succ k ih =>
    rw [sb_s, cnB_s, ih]
    by_cases c : x.testBit k = true
    · rw [if_pos c, (tb_div _ _).mp c]
    · rw [if_neg c]
      have : ¬ x / 2 ^ k % 2 = 1 := fun q => c ((tb_div _ _).mpr q)
      omega
theorem cnB_cut {p : Nat → Bool} {n : Nat} : ∀ m : Nat, n ≤ m → (∀ i, n ≤ i → p i = false) → cnB p m = cnB p n := by
  intro m
  induction m with
  | zero => intro h _; rw [show n = 0 by omega]
  | succ m ih =>
    intro h q
    by_cases e : n = m + 1
    · rw [e]
    · rw [cnB_s, ih (by omega) q, if_neg (by rw [q m (by omega)]; decide)]; omega
theorem pop_cnB {x n : Nat} (hx : x < 2 ^ n) (hn : n ≤ 31) : popN x = cnB x.testBit n := by
  have h31 : (2 : Nat) ^ n ≤ 2 ^ 31 := Nat.pow_le_pow_right (by decide) hn
  rw [← sb_pop (by omega), sb_cnB]
  refine cnB_cut 31 hn (fun i hi => Nat.testBit_lt_two_pow ?_)
  have : (2 : Nat) ^ n ≤ 2 ^ i := Nat.pow_le_pow_right (by decide) hi
  omega
theorem areSets_ok {x n : Int} (x0 : 0 ≤ x) (x1 : x < 2147483648) (n0 : 0 ≤ n) (n1 : n ≤ 8) : (0 ≤ shr x n ∧ shr x n ≤ x) ∧ (shr x n = 0 ↔ x.toNat < 2 ^ n.toNat) := by
  have h := shr_nat (a := x.toNat) (k := n.toNat) (by omega) (by omega)
  rw [show ((x.toNat : Nat) : Int) = x by omega, show ((n.toNat : Nat) : Int) = n by omega] at h
  have le : x.toNat / 2 ^ n.toNat ≤ x.toNat := Nat.div_le_self _ _
  rw [h]
  refine ⟨by generalize x.toNat / 2 ^ n.toNat = z at le; omega, ?_⟩
  constructor
  · intro e
    have e : x.toNat / 2 ^ n.toNat = 0 := by generalize x.toNat / 2 ^ n.toNat = z at e; omega
    exact Nat.lt_of_div_eq_zero (Nat.two_pow_pos _) e
  · intro e
    rw [Nat.div_eq_of_lt e]
    rfl
theorem p2n {n : Int} (n0 : 0 ≤ n) (n1 : n ≤ 8) : 1 ≤ 2 ^ n.toNat ∧ 2 ^ n.toNat ≤ 256 ∧ shl 1 n = ((2 ^ n.toNat : Nat) : Int) := by
  have h1 := Nat.two_pow_pos n.toNat
  have h2 : 2 ^ n.toNat ≤ 2 ^ 8 := Nat.pow_le_pow_right (by decide) (by omega)
  exact ⟨by omega, by omega, shl1_ok n0 (by omega)⟩
theorem tb_lt {x i n : Nat} (hx : x < 2 ^ n) (hi : n ≤ i) : x.testBit i = false := by
  refine Nat.testBit_lt_two_pow ?_
  have : (2 : Nat) ^ n ≤ 2 ^ i := Nat.pow_le_pow_right (by decide) hi
  omega
/-- a mask that has just these bits -/
theorem mask {p : Nat → Bool} : ∀ n : Nat, ∃ x : Nat, x < 2 ^ n ∧ ∀ i, i < n → x.testBit i = p i := by
  intro n
  induction n with
  | zero => exact ⟨0, by decide, fun i h => by omega⟩
  | succ n ih =>
    obtain ⟨x, h1, h2⟩ := ih
    have h3 : (2 : Nat) ^ (n + 1) = 2 ^ n * 2 := Nat.pow_succ ..
    cases hp : p n
    · refine ⟨x, by omega, fun i hi => ?_⟩
      by_cases e : i = n
      · rw [e, tb_lt h1 (Nat.le_refl _), hp]
      · exact h2 i (by omega)
    · refine ⟨x ||| 2 ^ n, Nat.or_lt_two_pow (by omega) (by omega), fun i hi => ?_⟩
      rw [Nat.testBit_or, Nat.testBit_two_pow]
      by_cases e : i = n
      · rw [e, decide_eq_true rfl, Bool.or_true, hp]
      · rw [decide_eq_false (fun q => e q.symm), Bool.or_false]
        exact h2 i (by omega)
end
