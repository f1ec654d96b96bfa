section
/-! HEARING: the class -/
theorem rtB_no {q : Int → Bool} {ro : Int → Int} {k : Nat} {r : Int} (h : ∀ w, 0 ≤ w → w < (k : Int) → ro w ≤ w) (hr : (k : Int) ≤ r) : ¬ rtB q ro k r = true := by
  intro z
  obtain ⟨w, a, b, c, d⟩ := (rtB_iff k).mp z
  have := h w a b
  omega
theorem He_readWords_ok {s : SS} {Q : SS → Prop} {q : Int → Bool} (h7 : 0 ≤ s.1 7 ∧ s.1 7 ≤ 40) (rp : rng (s.1 16)) (hv : ∀ w, 0 ≤ w → w < s.1 7 → (s.2 27 w = 0 ∨ s.2 27 w = 1) ∧ (0 ≤ s.2 19 w ∧ s.2 19 w < 20) ∧ (¬ s.2 27 w = 0 → rng (s.2 14 (s.2 19 w))) ∧ (0 ≤ s.2 24 w ∧ s.2 24 w ≤ w) ∧ rng (s.2 23 w) ∧ (q w = true ↔ (¬ s.2 27 w = 0 ∧ s.2 14 (s.2 19 w) = s.1 16))) (hk : ∀ s', frm [10] [33, 34] s s' → (∀ r, 0 ≤ r → r < s.1 7 → (s'.2 33 r = if rtB q (s.2 24) (s.1 7).toNat r = true then 1 else 0) ∧ (s'.2 34 r = if rtB q (s.2 24) (s.1 7).toNat r = true ∨ q r = true then 1 else 0)) → s'.1 10 = cntP (fun w => q w && decide (0 ≤ s.2 23 w)) (s.1 7).toNat → Q s') : Sp_He_readWords s Q := by
  intro X7 hX7
  have key : ∀ (t : Nat) (k : Nat) (s1 : SS), (k : Int) ≤ s.1 7 → s.1 7 - k < t → frm [10] [33, 34] s s1 → (∀ r, 0 ≤ r → r < (k : Int) → (s1.2 33 r = if rtB q (s.2 24) k r = true then 1 else 0) ∧ (s1.2 34 r = if rtB q (s.2 24) k r = true ∨ q r = true then 1 else 0)) → s1.1 10 = cntP (fun w => q w && decide (0 ≤ s.2 23 w)) k → X7 k s1 := by
    intro t
    induction t with
    | zero => intro k s1 a b; omega
    | succ t ih =>
      intro k s1 k1 ht hf hI h10
      have e7 : s1.1 7 = s.1 7 := hf.1 7 rfl
      refine hX7 _ _ ⟨⟨by omega, by omega⟩, by rw [e7]; exact ⟨by omega, by omega⟩, fun d => ?_, fun d => ⟨by omega, fun s4 h4 => ⟨by omega, fun s5 h5 => ?_⟩⟩⟩
      · rw [e7] at d
        rw [show k = (s.1 7).toNat by omega] at hI h10
        exact hk s1 hf (fun r r0 r1 => hI r r0 (by omega)) h10
      · rw [e7] at d
        obtain ⟨v1, v2, v3, v4, v5, v6⟩ := hv k (by omega) d
        have hro : ∀ w, 0 ≤ w → w < (k : Int) → s.2 24 w ≤ w := fun w w0 w1 => (hv w w0 (by omega)).2.2.2.1.2
        have f5 : frm [10] [33, 34] s s5 := by
          rw [h5, h4]
          exact frm_tr hf (frm_tr (frm_A _ _ _ (by decide)) (frm_A _ _ _ (by decide)))
        have p33 : s5.2 33 = updF (s1.2 33) k 0 := by rw [h5, sA_n _ _ _ (by decide), h4, sA_u]
        have p34 : s5.2 34 = updF (s1.2 34) k 0 := by rw [h5, sA_u, h4, sA_n _ _ _ (by decide)]
        have p10 : s5.1 10 = s1.1 10 := by rw [h5, sA_1, h4, sA_1]
        have e27 : s5.2 27 = s.2 27 := f5.2 27 rfl
        have e19 : s5.2 19 = s.2 19 := f5.2 19 rfl
        have e14 : s5.2 14 = s.2 14 := f5.2 14 rfl
        have e16 : s5.1 16 = s.1 16 := f5.1 16 rfl
        have e24 : s5.2 24 = s.2 24 := f5.2 24 rfl
        have rtk := rtB_no (q := q) hro (Int.le_refl (k : Int))
        have no : ¬ q k = true → X7 ((k : Int) + 1) s5 := by
          intro hq
          refine ih (k + 1) s5 (by omega) (by omega) f5 (fun r r0 r1 => ?_) ?_
          · have eq : rtB q (s.2 24) (k + 1) r = true ↔ rtB q (s.2 24) k r = true := by
              rw [rtB_s, Bool.or_eq_true, Bool.and_eq_true]
              exact ⟨fun z => z.elim id (fun y => absurd y.1 hq), Or.inl⟩
            rw [p33, p34]
            by_cases e : r = k
            · rw [e, updF_s, updF_s]
              rw [e] at eq
              rw [if_neg (fun z => rtk (eq.mp z)), if_neg (fun z => z.elim (fun y => rtk (eq.mp y)) hq)]
              exact ⟨rfl, rfl⟩
            · rw [updF_n _ _ e, updF_n _ _ e, (hI r r0 (by omega)).1, (hI r r0 (by omega)).2]
              exact ⟨if_cg eq.symm rfl rfl, if_cg ⟨fun z => z.imp eq.mpr id, fun z => z.imp eq.mp id⟩ rfl rfl⟩
          · rw [p10, h10, cntP_s, if_neg (fun z => hq (by rw [Bool.and_eq_true] at z; exact z.1)), Int.add_zero]
        refine ⟨by omega, by rw [e27]; exact v1, by rw [e27]; rcases v1 with z | z <;> rw [z] <;> decide, fun z => no (fun y => (v6.mp y).1 (by rw [← e27]; exact z)), fun z => ⟨by omega, ?_⟩⟩
        rw [e19]
        refine ⟨by omega, ?_⟩
        rw [e14]
        refine ⟨v3 (by rw [← e27]; exact z), by rw [e16]; exact rp, fun y => ⟨by omega, ?_⟩, fun y => no (fun x => y (by rw [e16]; exact (v6.mp x).2))⟩
        have hq : q k = true := v6.mpr ⟨by rw [← e27]; exact z, by rw [← e16]; exact y⟩
        rw [e24]
        refine ⟨by omega, fun s14 h14 => ⟨by omega, fun s15 h15 => ⟨by omega, fun s16 h16 => ⟨by omega, ?_⟩⟩⟩⟩
        have f16 : frm [10] [33, 34] s s16 := by
          rw [h16, h15, h14]
          exact frm_tr f5 (frm_tr (frm_tr (frm_A _ _ _ (by decide)) (frm_A _ _ _ (by decide))) (frm_A _ _ _ (by decide)))
        have g33 : s16.2 33 = updF (updF (s1.2 33) k 0) (s.2 24 k) 1 := by rw [h16, sA_n _ _ _ (by decide), h15, sA_n _ _ _ (by decide), h14, sA_u, p33]
        have g34 : s16.2 34 = updF (updF (updF (s1.2 34) k 0) (s.2 24 k) 1) k 1 := by rw [h16, sA_u, h15, sA_u, h14, sA_n _ _ _ (by decide), p34]
        have g10 : s16.1 10 = s1.1 10 := by rw [h16, sA_1, h15, sA_1, h14, sA_1, p10]
        have e23 : s16.2 23 = s.2 23 := f16.2 23 rfl
        have nxt : ∀ s17 : SS, frm [10] [33, 34] s s17 → s17.2 = s16.2 → s17.1 10 = cntP (fun w => q w && decide (0 ≤ s.2 23 w)) (k + 1) → X7 ((k : Int) + 1) s17 := by
          intro s17 f17 e17 h17
          refine ih (k + 1) s17 (by omega) (by omega) f17 (fun r r0 r1 => ?_) h17
          have eq : rtB q (s.2 24) (k + 1) r = true ↔ (rtB q (s.2 24) k r = true ∨ s.2 24 k = r) := by
            rw [rtB_s, Bool.or_eq_true, Bool.and_eq_true, decide_eq_true_eq]
            exact ⟨fun z => z.imp id (fun y => y.2), fun z => z.imp id (fun y => ⟨hq, y⟩)⟩
          rw [e17, g33, g34]
          by_cases e : r = s.2 24 k
          · have t1 : rtB q (s.2 24) (k + 1) r = true := eq.mpr (Or.inr e.symm)
            rw [if_pos t1, if_pos (Or.inl t1)]
            refine ⟨by rw [e, updF_s], ?_⟩
            by_cases e2 : r = k
            · rw [e2, updF_s]
            · rw [updF_n _ _ e2, e, updF_s]
          · have eq2 : rtB q (s.2 24) (k + 1) r = true ↔ rtB q (s.2 24) k r = true := eq.trans ⟨fun z => z.elim id (fun y => absurd y.symm e), Or.inl⟩
            by_cases e2 : r = k
            · rw [updF_n _ _ e, e2, updF_s, updF_s, if_pos (Or.inr hq)]
              rw [e2] at eq2
              rw [if_neg (fun z => rtk (eq2.mp z))]
              exact ⟨rfl, rfl⟩
            · rw [updF_n _ _ e, updF_n _ _ e2, updF_n _ _ e2, updF_n _ _ e, updF_n _ _ e2, (hI r r0 (by omega)).1, (hI r r0 (by omega)).2]
              exact ⟨if_cg eq2.symm rfl rfl, if_cg ⟨fun z => z.imp eq2.mpr id, fun z => z.imp eq2.mp id⟩ rfl rfl⟩
        rw [e23]
        refine ⟨v5, fun c => ⟨by decide, fun _ => nxt s16 f16 rfl ?_, fun z => absurd rfl z⟩, fun c => ⟨by decide, fun z => absurd z (by decide), fun _ => fun s19 h19 => nxt s19 ?_ ?_ ?_⟩⟩
        · rw [g10, h10, cntP_s, if_neg (fun z => ?_), Int.add_zero]
          rw [Bool.and_eq_true, decide_eq_true_eq] at z
          omega
        · rw [h19]; exact frm_tr f16 (frm_F _ _ (by decide))
        · rw [h19]; rfl
        · rw [h19, sF_s, g10, h10, cntP_s, if_pos (by rw [Bool.and_eq_true, decide_eq_true_eq]; exact ⟨hq, c⟩)]
  intro s1 h1
  exact key 100 0 s1 (by omega) (by omega) (by rw [h1]; exact frm_F _ _ (by decide)) (fun r a b => by omega) (by rw [h1, sF_s]; rfl)
/-- the witnesses' bits -/
def seenW (rt : Int → Bool) (wi : Int → Int) : Nat → Nat
  | 0 => 0
  | k + 1 => if rt k = true then seenW rt wi k ||| 2 ^ (wi k).toNat else seenW rt wi k
theorem seenW_s (rt : Int → Bool) (wi : Int → Int) (k : Nat) : seenW rt wi (k + 1) = if rt k = true then seenW rt wi k ||| 2 ^ (wi k).toNat else seenW rt wi k := rfl
theorem seenW_lt {rt : Int → Bool} {wi : Int → Int} : ∀ k : Nat, (∀ w, 0 ≤ w → w < (k : Int) → 0 ≤ wi w ∧ wi w ≤ 29) → seenW rt wi k < 2 ^ 30 := by
  intro k
  induction k with
  | zero => intro _; exact Nat.two_pow_pos 30
  | succ k ih =>
    intro h
    have i := ih (fun w a b => h w a (by omega))
    have w := h k (by omega) (by omega)
    rw [seenW_s]
    split
    · exact Nat.or_lt_two_pow i (Nat.pow_lt_pow_right (by decide) (by omega))
    · exact i
theorem bor_bit {b : Nat} {w : Int} (hb : b < 2 ^ 30) (w0 : 0 ≤ w) (w1 : w ≤ 29) : bor b (shl 1 w) = ((b ||| 2 ^ w.toNat : Nat) : Int) := by
  have hp : 2 ^ w.toNat < 2 ^ 30 := Nat.pow_lt_pow_right (by decide) (by omega)
  have e : shl 1 w = ((2 ^ w.toNat : Nat) : Int) := by
    have := shl_nat (a := 1) (k := w.toNat) (by omega) (by omega)
    rw [show ((w.toNat : Nat) : Int) = w by omega, Nat.one_mul] at this
    exact this
  rw [e]
  exact bor_nat hb hp (by decide)
theorem He_readRoots_ok {s : SS} {Q : SS → Prop} {rt : Int → Bool} (h7 : 0 ≤ s.1 7 ∧ s.1 7 ≤ 40) (h33 : ∀ r, 0 ≤ r → r < s.1 7 → s.2 33 r = if rt r = true then 1 else 0) (h18 : ∀ r, 0 ≤ r → r < s.1 7 → 0 ≤ s.2 18 r ∧ s.2 18 r ≤ 29) (hk : ∀ s', frm [9, 11] [35] s s' → enumP rt (s.1 7) (s'.1 9) (s'.2 35) → s'.1 11 = (popN (seenW rt (s.2 18) (s.1 7).toNat) : Int) → Q s') : Sp_He_readRoots s Q := by
  intro X9 h9
  have key : ∀ (t : Nat) (k : Nat) (s1 : SS), (k : Int) ≤ s.1 7 → s.1 7 - k < t → frm [9, 11] [35] s s1 → enumP rt k (s1.1 9) (s1.2 35) → X9 (seenW rt (s.2 18) k : Nat) k s1 := by
    intro t
    induction t with
    | zero => intro k s1 a b; omega
    | succ t ih =>
      intro k s1 k1 ht hf hE
      have e7 : s1.1 7 = s.1 7 := hf.1 7 rfl
      have lt := seenW_lt (rt := rt) (wi := s.2 18) k (fun w a b => h18 w a (by omega))
      refine h9 _ _ _ ⟨⟨by omega, by omega⟩, by rw [e7]; exact ⟨by omega, by omega⟩, fun d => ?_, fun d => ?_⟩
      · rw [e7] at d
        refine Jl_bitCount_ok (by omega) (by omega) (fun s6 h6 => hk s6 (by rw [h6]; exact frm_tr hf (frm_F _ _ (by decide))) ?_ ?_)
        · rw [h6, sF_n _ _ (by decide), sF_2, show s.1 7 = k by omega]; exact hE
        · rw [h6, sF_s, Int.toNat_natCast, show (s.1 7).toNat = k by omega]
      · rw [e7] at d
        have g33 : s1.2 33 k = if rt k = true then 1 else 0 := by rw [hf.2 33 rfl]; exact h33 k (by omega) d
        have cb := cntP_b rt k
        have c9 := hE.1
        rw [Int.toNat_natCast] at c9
        rw [g33]
        refine ⟨by omega, by split <;> decide, fun z => ?_, fun z => ?_⟩
        · have hr : rt k = true := by
            by_cases y : rt k = true
            · exact y
            · rw [if_neg y] at z; exact absurd rfl z
          refine ⟨by omega, fun s2 h2 s3 h3 => ⟨by omega, ?_⟩⟩
          have w := h18 k (by omega) d
          have e18 : s3.2 18 = s.2 18 := by rw [h3, sF_2, h2, sA_n _ _ _ (by decide)]; exact hf.2 18 rfl
          rw [e18]
          show X9 (bor ((seenW rt (s.2 18) k : Nat) : Int) (shl 1 (s.2 18 k))) ((k : Int) + 1) s3
          rw [bor_bit lt w.1 w.2]
          have nx := ih (k + 1) s3 (by omega) (by omega) (by rw [h3, h2]; exact frm_tr hf (frm_tr (frm_A _ _ _ (by decide)) (frm_F _ _ (by decide)))) (by rw [h3, sF_s, sF_2, h2, sA_1, sA_u]; exact enumP_s hE (by omega) hr)
          rw [seenW_s, if_pos hr] at nx
          exact nx
        · have hr : ¬ rt k = true := fun y => by rw [if_pos y] at z; exact absurd z (by decide)
          have nx := ih (k + 1) s1 (by omega) (by omega) hf (enumP_o hE (by omega) hr)
          rw [seenW_s, if_neg hr] at nx
          exact nx
  intro s1 h1
  refine key 100 0 s1 (by omega) (by omega) (by rw [h1]; exact frm_F _ _ (by decide)) ⟨by rw [h1, sF_s]; rfl, fun j j0 j1 => ?_⟩
  rw [h1, sF_s] at j1
  omega
end
