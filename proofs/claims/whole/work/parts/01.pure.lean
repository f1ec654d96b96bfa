/-! the pure side: a state is the whole numbers of the fields, and the arrays -/
abbrev SS : Type := (Nat → Int) × (Nat → Int → Int)
def sF (s : SS) (k : Nat) (v : Int) : SS := (fun j => if j = k then v else s.1 j, s.2)
def sA (s : SS) (k : Nat) (i v : Int) : SS := (s.1, fun j x => if j = k ∧ x = i then v else s.2 j x)
abbrev iI (x : Int) : Int32 := Int32.ofInt x
abbrev jJ (x : Int) : Int64 := Int64.ofInt x
abbrev rng (x : Int) : Prop := -2147483648 ≤ x ∧ x ≤ 2147483647
abbrev rnL (x : Int) : Prop := -9223372036854775808 ≤ x ∧ x ≤ 9223372036854775807
abbrev vI (x : Int) : Value := .int (iI x)
abbrev vJ (x : Int) : Value := .long (jJ x)
def bnd (a b : Int) : Int := (iI a &&& iI b).toInt
def bor (a b : Int) : Int := (iI a ||| iI b).toInt
def bxr (a b : Int) : Int := (iI a ^^^ iI b).toInt
def shl (a b : Int) : Int := (iI a <<< (iI b &&& 31)).toInt
def shr (a b : Int) : Int := (iI a >>> (iI b &&& 31)).toInt
def ush (a b : Int) : Int := ((iI a).toUInt32 >>> ((iI b).toUInt32 &&& Int32.toUInt32 31)).toInt32.toInt
def i2b (a : Int) : Int := (iI a).toInt8.toInt32.toInt
def l2i (a : Int) : Int := (jJ a).toInt32.toInt
def lnd (a b : Int) : Int := (jJ a &&& jJ b).toInt
def lor_ (a b : Int) : Int := (jJ a ||| jJ b).toInt
def lsr (a b : Int) : Int := (jJ a >>> ((iI b).toInt64 &&& 63)).toInt
def lsl (a b : Int) : Int := (jJ a <<< ((iI b).toInt64 &&& 63)).toInt
theorem iI_ti (x : Int32) : iI x.toInt = x := Int32.ofInt_toInt x
theorem jJ_ti (x : Int64) : jJ x.toInt = x := Int64.ofInt_toInt x
theorem ti_iI {x : Int} (h : rng x) : (iI x).toInt = x := Int32.toInt_ofInt_of_le (by have := h.1; omega) (by have := h.2; omega)
theorem ti_jJ {x : Int} (h : rnL x) : (jJ x).toInt = x := Int64.toInt_ofInt_of_le (by have := h.1; omega) (by have := h.2; omega)
theorem iI_le {x y : Int} (hx : rng x) (hy : rng y) : iI x ≤ iI y ↔ x ≤ y := by rw [Int32.le_iff_toInt_le, ti_iI hx, ti_iI hy]
theorem iI_lt {x y : Int} (hx : rng x) (hy : rng y) : iI x < iI y ↔ x < y := by rw [Int32.lt_iff_toInt_lt, ti_iI hx, ti_iI hy]
theorem iI_eq {x y : Int} (hx : rng x) (hy : rng y) : iI x = iI y ↔ x = y := ⟨fun h => by have := congrArg Int32.toInt h; rwa [ti_iI hx, ti_iI hy] at this, fun h => by rw [h]⟩
theorem jJ_lt {x y : Int} (hx : rnL x) (hy : rnL y) : jJ x < jJ y ↔ x < y := by rw [Int64.lt_iff_toInt_lt, ti_jJ hx, ti_jJ hy]
theorem jJ_eq {x y : Int} (hx : rnL x) (hy : rnL y) : jJ x = jJ y ↔ x = y := ⟨fun h => by have := congrArg Int64.toInt h; rwa [ti_jJ hx, ti_jJ hy] at this, fun h => by rw [h]⟩
theorem rng0 : rng 0 := by decide
theorem iI_0 : iI 0 = 0 := rfl
theorem iI_add (x y : Int) : iI x + iI y = iI (x + y) := (Int32.ofInt_add x y).symm
theorem iI_sub (x y : Int) : iI x - iI y = iI (x - y) := (Int32.ofInt_sub x y).symm
theorem iI_mul (x y : Int) : iI x * iI y = iI (x * y) := (Int32.ofInt_mul x y).symm
theorem iI_neg (x : Int) : -iI x = iI (-x) := (Int32.ofInt_neg x).symm
theorem iI_in {x : Int} {n : Nat} (h0 : 0 ≤ x) (h : x < n) (hn : n ≤ 1000000) : vp_in (iI x) n := by
  have hr : rng x := ⟨by omega, by omega⟩
  exact vp_in_iff.mpr (by rw [ti_iI hr]; exact ⟨h0, h⟩)
theorem iI_cl {x : Int} {n : Nat} (h0 : 0 ≤ x) (h : x < n) (hn : n ≤ 1000000) : (((iI x).toNatClampNeg : Nat) : Int) = x := by
  have hr : rng x := ⟨by omega, by omega⟩
  show ((iI x).toInt.toNat : Int) = x
  rw [ti_iI hr]; omega
theorem iI_ediv {x : Int} (d : Int) (h0 : 0 ≤ x) (h : x ≤ 2147483647) (hd : 0 < d) (hd2 : d ≤ 1000000) : iI x / iI d = iI (x / d) := by
  have hr : rng x := ⟨by omega, h⟩
  have hrd : rng d := ⟨by omega, by omega⟩
  have e : (iI x / iI d).toInt = x / d := by
    rw [Int32.toInt_div, ti_iI hr, ti_iI hrd, Int.tdiv_eq_ediv_of_nonneg h0]
    have h1 : x / d ≤ x := Int.ediv_le_self _ h0
    have h2 : 0 ≤ x / d := Int.ediv_nonneg h0 (by omega)
    rw [Int.bmod_eq_of_le (by omega) (by omega)]
  rw [← e, iI_ti]
theorem iI_emod {x : Int} (d : Int) (h0 : 0 ≤ x) (h : x ≤ 2147483647) (hd : 0 < d) (hd2 : d ≤ 1000000) : iI x - iI x / iI d * iI d = iI (x % d) := by
  rw [iI_ediv d h0 h hd hd2, iI_mul, iI_sub]
  congr 1
  have := Int.mul_ediv_add_emod x d
  rw [Int.mul_comm] at this
  omega
theorem sF_1 (s : SS) (k j : Nat) (v : Int) : (sF s k v).1 j = if j = k then v else s.1 j := rfl
theorem sF_2 (s : SS) (k : Nat) (v : Int) : (sF s k v).2 = s.2 := rfl
theorem sA_1 (s : SS) (k : Nat) (i v : Int) : (sA s k i v).1 = s.1 := rfl
theorem sA_2 (s : SS) (k j : Nat) (i x v : Int) : (sA s k i v).2 j x = if j = k ∧ x = i then v else s.2 j x := rfl
