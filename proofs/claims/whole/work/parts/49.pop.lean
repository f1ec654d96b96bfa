section
/-! bits that are set: both counts -/
theorem us_l : ∀ n, n < 32 → (((nI n).toUInt32 &&& Int32.toUInt32 31).toBitVec % 32#32).toNat = n := by decide +kernel
theorem ush_nat {a k : Nat} (ha : a < 2147483648) (hk : k < 32) : ush a k = ((a / 2 ^ k : Nat) : Int) := by
  unfold ush
  rw [iI_nat, iI_nat]
  have e : ((nI a).toUInt32 >>> ((nI k).toUInt32 &&& Int32.toUInt32 31)).toInt32 = nI (a / 2 ^ k) := by
    apply Int32.toBitVec_inj.1
    show (nI a).toBitVec >>> (((nI k).toUInt32 &&& Int32.toUInt32 31).toBitVec % 32#32) = (nI (a / 2 ^ k)).toBitVec
    apply BitVec.eq_of_toNat_eq
    rw [BitVec.ushiftRight_eq', BitVec.toNat_ushiftRight, us_l k hk, Nat.shiftRight_eq_div_pow]
    show (BitVec.ofNat 32 a).toNat / 2 ^ k = (BitVec.ofNat 32 (a / 2 ^ k)).toNat
    have : a / 2 ^ k ≤ a := Nat.div_le_self _ _
    rw [BitVec.toNat_ofNat, BitVec.toNat_ofNat, Nat.mod_eq_of_lt (by omega), Nat.mod_eq_of_lt (by omega)]
  rw [e, nI_toInt (by have : a / 2 ^ k ≤ a := Nat.div_le_self _ _; omega)]
theorem and_spl (x y : Nat) : x &&& y = (x % 256 &&& y % 256) + 256 * (x / 256 &&& y / 256) := by
  have h1 : (x &&& y) % 256 = x % 256 &&& y % 256 := Nat.and_mod_two_pow (n := 8)
  have h2 : (x &&& y) / 256 = x / 256 &&& y / 256 := Nat.and_div_two_pow (n := 8)
  rw [← h1, ← h2]
  omega
/-- a mask of four bytes that are alike -/
theorem and_four {x m : Nat} (hx : x < 4294967296) (hm : m < 256) : x &&& (m + 256 * m + 65536 * m + 16777216 * m) = (x % 256 &&& m) + 256 * (x / 256 % 256 &&& m) + 65536 * (x / 65536 % 256 &&& m) + 16777216 * (x / 16777216 &&& m) := by
  rw [and_spl x, show (m + 256 * m + 65536 * m + 16777216 * m) % 256 = m by omega, show (m + 256 * m + 65536 * m + 16777216 * m) / 256 = m + 256 * m + 65536 * m by omega]
  rw [and_spl (x / 256), show (m + 256 * m + 65536 * m) % 256 = m by omega, show (m + 256 * m + 65536 * m) / 256 = m + 256 * m by omega, show x / 256 / 256 = x / 65536 by omega]
  rw [and_spl (x / 65536), show (m + 256 * m) % 256 = m by omega, show (m + 256 * m) / 256 = m by omega, show x / 65536 / 256 = x / 16777216 by omega]
  omega
def pb1 (b : Nat) : Nat := b - (b / 2 &&& 85)
def pb2 (b : Nat) : Nat := (pb1 b &&& 51) + (pb1 b / 4 &&& 51)
def pb3 (b : Nat) : Nat := (pb2 b + pb2 b / 16) &&& 15
theorem ps1 : ∀ b, b < 256 → ∀ c, c < 2 → (b / 2 + 128 * c) &&& 85 = b / 2 &&& 85 := by decide +kernel
theorem ps1b : ∀ b, b < 256 → (b / 2 &&& 85) ≤ b := by decide +kernel
theorem ps2 : ∀ b, b < 256 → ∀ c, c < 4 → (pb1 b / 4 + 64 * c) &&& 51 = pb1 b / 4 &&& 51 := by decide +kernel
theorem ps2b : ∀ b, b < 256 → pb1 b < 256 ∧ pb2 b ≤ 68 := by decide +kernel
theorem ps2d : ∀ b, b < 256 → pb2 b % 16 ≤ 4 := by decide +kernel
theorem ps3 : ∀ b, b < 256 → ∀ c, c < 16 → (pb2 b + pb2 b / 16 + 16 * c) &&& 15 = pb3 b := by decide +kernel
theorem ps3b : ∀ b, b < 256 → pb3 b ≤ 8 := by decide +kernel
theorem ps2c : ∀ b, b < 128 → pb2 b ≤ 67 := by decide +kernel
theorem ps4 : ∀ b, b < 256 → pb3 b = b % 2 + b / 2 % 2 + b / 4 % 2 + b / 8 % 2 + b / 16 % 2 + b / 32 % 2 + b / 64 % 2 + b / 128 % 2 := by decide +kernel
theorem nib (z0 z1 z2 z3 : Nat) (h0 : z0 ≤ 68) (h1 : z1 ≤ 68) (h2 : z2 ≤ 68) (h3 : z3 ≤ 68) (g1 : z1 % 16 ≤ 4) (g2 : z2 % 16 ≤ 4) (g3 : z3 % 16 ≤ 4) : ∃ t0 t1 t2 t3 : Nat, t0 < 256 ∧ t1 < 256 ∧ t2 < 256 ∧ t3 < 256 ∧ t0 = z0 + z0 / 16 + 16 * (z1 % 16) ∧ t1 = z1 + z1 / 16 + 16 * (z2 % 16) ∧ t2 = z2 + z2 / 16 + 16 * (z3 % 16) ∧ t3 = z3 + z3 / 16 + 16 * 0 ∧ (z0 + 256 * z1 + 65536 * z2 + 16777216 * z3) + (z0 + 256 * z1 + 65536 * z2 + 16777216 * z3) / 16 = t0 + 256 * t1 + 65536 * t2 + 16777216 * t3 := by
  refine ⟨_, _, _, _, ?_, ?_, ?_, ?_, rfl, rfl, rfl, rfl, ?_⟩
  · omega
  · omega
  · omega
  · omega
  · have : (z0 + 256 * z1 + 65536 * z2 + 16777216 * z3) / 16 = z0 / 16 + 16 * z1 + 4096 * z2 + 1048576 * z3 := by omega
    rw [this]
    omega
theorem dig (t0 t1 t2 t3 : Nat) (h0 : t0 < 256) (h1 : t1 < 256) (h2 : t2 < 256) (h3 : t3 < 256) : (t0 + 256 * t1 + 65536 * t2 + 16777216 * t3) % 256 = t0 ∧ (t0 + 256 * t1 + 65536 * t2 + 16777216 * t3) / 256 % 256 = t1 ∧ (t0 + 256 * t1 + 65536 * t2 + 16777216 * t3) / 65536 % 256 = t2 ∧ (t0 + 256 * t1 + 65536 * t2 + 16777216 * t3) / 16777216 = t3 := by omega
theorem low64 (w0 w1 w2 w3 : Nat) (h0 : w0 ≤ 8) (h1 : w1 ≤ 8) (h2 : w2 ≤ 8) (h3 : w3 ≤ 8) : ((w0 + 256 * w1 + 65536 * w2 + 16777216 * w3) + (w0 + 256 * w1 + 65536 * w2 + 16777216 * w3) / 256 + ((w0 + 256 * w1 + 65536 * w2 + 16777216 * w3) + (w0 + 256 * w1 + 65536 * w2 + 16777216 * w3) / 256) / 65536) % 64 = w0 + w1 + w2 + w3 := by
  have e1 : (w0 + 256 * w1 + 65536 * w2 + 16777216 * w3) / 256 = w1 + 256 * w2 + 65536 * w3 := by omega
  rw [e1]
  have e2 : (w0 + 256 * w1 + 65536 * w2 + 16777216 * w3 + (w1 + 256 * w2 + 65536 * w3)) / 65536 = w2 + w3 + 256 * w3 := by omega
  rw [e2]
  omega
def popN (n : Nat) : Nat := pb3 (n % 256) + pb3 (n / 256 % 256) + pb3 (n / 65536 % 256) + pb3 (n / 16777216)
theorem popN_le {n : Nat} (h : n < 2147483648) : popN n ≤ 32 := by
  have h0 := ps3b (n % 256) (by omega)
  have h1 := ps3b (n / 256 % 256) (by omega)
  have h2 := ps3b (n / 65536 % 256) (by omega)
  have h3 := ps3b (n / 16777216) (by omega)
  unfold popN
  omega
theorem Jl_bitCount_ok {x : Int} {s : SS} {Q : Int → SS → Prop} (h0 : 0 ≤ x) (h1 : x < 2147483648) (hk : Q (popN x.toNat : Int) s) : Sp_Jl_bitCount x s Q := by
  obtain ⟨n, rfl⟩ : ∃ n : Nat, x = n := ⟨x.toNat, by omega⟩
  rw [Int.toNat_natCast] at hk
  have hn : n < 2147483648 := by omega
  unfold Sp_Jl_bitCount
  -- first
  have k1 : ((1431655765 : Nat) : Int) = 1431655765 := rfl
  have k2 : ((858993459 : Nat) : Int) = 858993459 := rfl
  have k3 : ((252645135 : Nat) : Int) = 252645135 := rfl
  have u1 : ush n 1 = ((n / 2 : Nat) : Int) := ush_nat (k := 1) hn (by decide)
  rw [u1, ← k1, bnd_nat (Or.inl (by omega))]
  obtain ⟨b0, hb0⟩ : ∃ b, b = n % 256 := ⟨_, rfl⟩
  obtain ⟨b1, hb1⟩ : ∃ b, b = n / 256 % 256 := ⟨_, rfl⟩
  obtain ⟨b2, hb2⟩ : ∃ b, b = n / 65536 % 256 := ⟨_, rfl⟩
  obtain ⟨b3, hb3⟩ : ∃ b, b = n / 16777216 := ⟨_, rfl⟩
  have en : n = b0 + 256 * b1 + 65536 * b2 + 16777216 * b3 := by omega
  have a1 : n / 2 &&& 1431655765 = (b0 / 2 &&& 85) + 256 * (b1 / 2 &&& 85) + 65536 * (b2 / 2 &&& 85) + 16777216 * (b3 / 2 &&& 85) := by
    have := and_four (x := n / 2) (m := 85) (by omega) (by decide)
    rw [show n / 2 % 256 = b0 / 2 + 128 * (b1 % 2) by omega, show n / 2 / 256 % 256 = b1 / 2 + 128 * (b2 % 2) by omega, show n / 2 / 65536 % 256 = b2 / 2 + 128 * (b3 % 2) by omega, show n / 2 / 16777216 = b3 / 2 by omega, ps1 b0 (by omega) _ (by omega), ps1 b1 (by omega) _ (by omega), ps1 b2 (by omega) _ (by omega)] at this
    exact this
  have l0 := ps1b b0 (by omega)
  have l1 := ps1b b1 (by omega)
  have l2 := ps1b b2 (by omega)
  have l3 := ps1b b3 (by omega)
  have e1 : (n : Int) - ((n / 2 &&& 1431655765 : Nat) : Int) = ((pb1 b0 + 256 * pb1 b1 + 65536 * pb1 b2 + 16777216 * pb1 b3 : Nat) : Int) := by
    rw [a1]
    unfold pb1
    omega
  rw [e1]
  obtain ⟨y0, hy0⟩ : ∃ b, b = pb1 b0 := ⟨_, rfl⟩
  obtain ⟨y1, hy1⟩ : ∃ b, b = pb1 b1 := ⟨_, rfl⟩
  obtain ⟨y2, hy2⟩ : ∃ b, b = pb1 b2 := ⟨_, rfl⟩
  obtain ⟨y3, hy3⟩ : ∃ b, b = pb1 b3 := ⟨_, rfl⟩
  have m0 := ps2b b0 (by omega)
  have m1 := ps2b b1 (by omega)
  have m2 := ps2b b2 (by omega)
  have m3 := ps2b b3 (by omega)
  have y3b : y3 ≤ b3 := by rw [hy3]; unfold pb1; omega
  have z3c := ps2c b3 (by omega)
  rw [← hy0, ← hy1, ← hy2, ← hy3]
  obtain ⟨Y, hY⟩ : ∃ Y, Y = y0 + 256 * y1 + 65536 * y2 + 16777216 * y3 := ⟨_, rfl⟩
  rw [← hY]
  have hYb : Y < 2147483648 := by omega
  have u2 : ush Y 2 = ((Y / 4 : Nat) : Int) := ush_nat (k := 2) hYb (by decide)
  rw [u2, ← k2, bnd_nat (Or.inl hYb), bnd_nat (Or.inl (by omega))]
  have a2 : Y &&& 858993459 = (y0 &&& 51) + 256 * (y1 &&& 51) + 65536 * (y2 &&& 51) + 16777216 * (y3 &&& 51) := by
    have := and_four (x := Y) (m := 51) (by omega) (by decide)
    rw [show Y % 256 = y0 by omega, show Y / 256 % 256 = y1 by omega, show Y / 65536 % 256 = y2 by omega, show Y / 16777216 = y3 by omega] at this
    exact this
  have a3 : Y / 4 &&& 858993459 = (y0 / 4 &&& 51) + 256 * (y1 / 4 &&& 51) + 65536 * (y2 / 4 &&& 51) + 16777216 * (y3 / 4 &&& 51) := by
    have := and_four (x := Y / 4) (m := 51) (by omega) (by decide)
    rw [show Y / 4 % 256 = y0 / 4 + 64 * (y1 % 4) by omega, show Y / 4 / 256 % 256 = y1 / 4 + 64 * (y2 % 4) by omega, show Y / 4 / 65536 % 256 = y2 / 4 + 64 * (y3 % 4) by omega, show Y / 4 / 16777216 = y3 / 4 by omega, hy0, hy1, hy2, ps2 b0 (by omega) _ (by omega), ps2 b1 (by omega) _ (by omega), ps2 b2 (by omega) _ (by omega)] at this
    rw [hy0, hy1, hy2]
    exact this
  have e2 : ((Y &&& 858993459 : Nat) : Int) + ((Y / 4 &&& 858993459 : Nat) : Int) = ((pb2 b0 + 256 * pb2 b1 + 65536 * pb2 b2 + 16777216 * pb2 b3 : Nat) : Int) := by
    rw [a2, a3]
    unfold pb2
    rw [← hy0, ← hy1, ← hy2, ← hy3]
    omega
  rw [e2]
  obtain ⟨z0, hz0⟩ : ∃ b, b = pb2 b0 := ⟨_, rfl⟩
  obtain ⟨z1, hz1⟩ : ∃ b, b = pb2 b1 := ⟨_, rfl⟩
  obtain ⟨z2, hz2⟩ : ∃ b, b = pb2 b2 := ⟨_, rfl⟩
  obtain ⟨z3, hz3⟩ : ∃ b, b = pb2 b3 := ⟨_, rfl⟩
  rw [← hz0, ← hz1, ← hz2, ← hz3]
  obtain ⟨Z, hZ⟩ : ∃ Z, Z = z0 + 256 * z1 + 65536 * z2 + 16777216 * z3 := ⟨_, rfl⟩
  rw [← hZ]
  have hZb : Z < 2147483648 := by omega
  have u3 : ush Z 4 = ((Z / 16 : Nat) : Int) := ush_nat (k := 4) hZb (by decide)
  rw [u3, ← Int.natCast_add, ← k3]
  have hSb : Z + Z / 16 < 2147483648 := by
    clear hYb u2 a1 a2 a3 e1 e2 en
    omega
  rw [bnd_nat (Or.inl hSb)]
  have a4 : Z + Z / 16 &&& 252645135 = pb3 b0 + 256 * pb3 b1 + 65536 * pb3 b2 + 16777216 * pb3 b3 := by
    have := and_four (x := Z + Z / 16) (m := 15) (by omega) (by decide)
    obtain ⟨t0, t1, t2, t3, q0, q1, q2, q3, r0, r1, r2, r3, rr⟩ := nib z0 z1 z2 z3 (by rw [hz0]; exact m0.2) (by rw [hz1]; exact m1.2) (by rw [hz2]; exact m2.2) (by rw [hz3]; exact m3.2) (by rw [hz1]; exact ps2d b1 (by omega)) (by rw [hz2]; exact ps2d b2 (by omega)) (by rw [hz3]; exact ps2d b3 (by omega))
    rw [← hZ] at rr
    obtain ⟨d0, d1, d2, d3⟩ := dig t0 t1 t2 t3 q0 q1 q2 q3
    rw [rr, d0, d1, d2, d3, r0, r1, r2, r3, hz0, hz1, hz2, hz3, ps3 b0 (by omega) _ (Nat.mod_lt _ (by decide)), ps3 b1 (by omega) _ (Nat.mod_lt _ (by decide)), ps3 b2 (by omega) _ (Nat.mod_lt _ (by decide)), ps3 b3 (by omega) _ (by decide)] at this
    rw [rr, r0, r1, r2, r3, hz0, hz1, hz2, hz3]
    exact this
  rw [a4]
  have w0 := ps3b b0 (by omega)
  have w1 := ps3b b1 (by omega)
  have w2 := ps3b b2 (by omega)
  have w3 := ps3b b3 (by omega)
  have hpop : popN n = pb3 b0 + pb3 b1 + pb3 b2 + pb3 b3 := by unfold popN; rw [← hb0, ← hb1, ← hb2, ← hb3]
  obtain ⟨W, hW⟩ : ∃ Y, Y = pb3 b0 + 256 * pb3 b1 + 65536 * pb3 b2 + 16777216 * pb3 b3 := ⟨_, rfl⟩
  rw [← hW]
  have u4 : ush W 8 = ((W / 256 : Nat) : Int) := ush_nat (k := 8) (by omega) (by decide)
  rw [u4, ← Int.natCast_add]
  have u5 : ush (W + W / 256 : Nat) 16 = (((W + W / 256) / 65536 : Nat) : Int) := ush_nat (k := 16) (by omega) (by decide)
  rw [u5, ← Int.natCast_add, show (63 : Int) = ((63 : Nat) : Int) from rfl, bnd_nat (Or.inr (by decide))]
  have a5 : W + W / 256 + (W + W / 256) / 65536 &&& 63 = popN n := by
    have : ∀ q : Nat, q &&& 63 = q % 64 := fun q => Nat.and_two_pow_sub_one_eq_mod q 6
    rw [this, hpop, hW]
    exact low64 _ _ _ _ w0 w1 w2 w3
  rw [a5]
  exact hk
end
