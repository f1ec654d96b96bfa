section
/-! the model's count of bits -/
def sb (n : Nat) : Nat → Nat
  | 0 => 0
  | k + 1 => sb n k + n / 2 ^ k % 2
theorem sb_s (n k : Nat) : sb n (k + 1) = sb n k + n / 2 ^ k % 2 := rfl
theorem sb_8 (n k : Nat) : sb n (k + 8) = sb n k + pb3 (n / 2 ^ k % 256) := by
  rw [ps4 _ (Nat.mod_lt _ (by decide))]
  rw [show k + 8 = k + 7 + 1 from rfl, sb_s, show k + 7 = k + 6 + 1 from rfl, sb_s, show k + 6 = k + 5 + 1 from rfl, sb_s, show k + 5 = k + 4 + 1 from rfl, sb_s, show k + 4 = k + 3 + 1 from rfl, sb_s, show k + 3 = k + 2 + 1 from rfl, sb_s, show k + 2 = k + 1 + 1 from rfl, sb_s, sb_s]
  have d : ∀ i, n / 2 ^ (k + i) = n / 2 ^ k / 2 ^ i := fun i => by rw [Nat.pow_add, Nat.div_div_eq_div_mul]
  rw [show k + 1 + 1 = k + 2 from rfl, show k + 2 + 1 = k + 3 from rfl, show k + 3 + 1 = k + 4 from rfl, show k + 4 + 1 = k + 5 from rfl, show k + 5 + 1 = k + 6 from rfl, show k + 6 + 1 = k + 7 from rfl, d 1, d 2, d 3, d 4, d 5, d 6, d 7]
  generalize n / 2 ^ k = m
  omega
theorem sb_pop {n : Nat} (h : n < 2147483648) : sb n 31 = popN n := by
  have h32 : sb n 32 = sb n 31 + n / 2 ^ 31 % 2 := rfl
  have h8 : sb n 8 = sb n 0 + pb3 (n / 2 ^ 0 % 256) := sb_8 n 0
  have h16 : sb n 16 = sb n 8 + pb3 (n / 2 ^ 8 % 256) := sb_8 n 8
  have h24 : sb n 24 = sb n 16 + pb3 (n / 2 ^ 16 % 256) := sb_8 n 16
  have h32' : sb n 32 = sb n 24 + pb3 (n / 2 ^ 24 % 256) := sb_8 n 24
  have h0 : sb n 0 = 0 := rfl
  rw [show n / 2 ^ 0 % 256 = n % 256 by omega] at h8
  rw [show n / 2 ^ 8 % 256 = n / 256 % 256 by omega] at h16
  rw [show n / 2 ^ 16 % 256 = n / 65536 % 256 by omega] at h24
  rw [show n / 2 ^ 24 % 256 = n / 16777216 by omega] at h32'
  have z : n / 2 ^ 31 % 2 = 0 := by omega
  unfold popN
  omega
theorem Md_bits_ok {x : Int} {s : SS} {Q : Int → SS → Prop} (h0 : 0 ≤ x) (h1 : x < 2147483648) (hk : Q (popN x.toNat : Int) s) : Sp_Md_bits x s Q := by
  obtain ⟨n, rfl⟩ : ∃ n : Nat, x = n := ⟨x.toNat, by omega⟩
  rw [Int.toNat_natCast] at hk
  have hn : n < 2147483648 := by omega
  intro X4 h4
  have loop : ∀ (t k : Nat), k ≤ 31 → 31 - k < t → X4 n (sb n k : Nat) k s := by
    intro t
    induction t with
    | zero => intro k a b; omega
    | succ t ih =>
      intro k k1 ht
      refine h4 _ _ _ _ ⟨⟨by omega, by omega⟩, fun d => ?_, fun d => ?_⟩
      · rw [show k = 31 by omega, sb_pop hn]; exact hk
      · rw [shr_nat hn (by omega), show (1 : Int) = ((1 : Nat) : Int) from rfl, bnd_nat (Or.inr (by decide)), Nat.and_one_is_mod, ← Int.natCast_add, ← sb_s]
        exact ih (k + 1) (by omega) (by omega)
  exact loop 100 0 (by omega) (by omega)
end
