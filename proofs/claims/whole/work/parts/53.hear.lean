section
/-! HEARING: LAST, the open hearing; what the model asks of the roots -/
def lastR (la a : Int → Int) : Nat → Int
  | 0 => -1
  | k + 1 => if lastR la a k < 0 ∨ la (lastR la a k) < la (a k) then a k else lastR la a k
theorem lastR_s (la a : Int → Int) (k : Nat) : lastR la a (k + 1) = if lastR la a k < 0 ∨ la (lastR la a k) < la (a k) then a k else lastR la a k := rfl
theorem lastR_ok {la a : Int → Int} : ∀ k : Nat, (∀ j, 0 ≤ j → j < (k : Int) → 0 ≤ a j) → (lastR la a k = -1 ∧ k = 0) ∨ (0 ≤ lastR la a k ∧ ∃ j, 0 ≤ j ∧ j < (k : Int) ∧ a j = lastR la a k) := by
  intro k
  induction k with
  | zero => intro _; exact Or.inl ⟨rfl, rfl⟩
  | succ k ih =>
    intro h
    have hk := h k (by omega) (by omega)
    rw [lastR_s]
    rcases ih (fun j a b => h j a (by omega)) with ⟨z, -⟩ | ⟨z, j, j0, j1, j2⟩
    · rw [if_pos (Or.inl (by omega))]
      exact Or.inr ⟨hk, k, by omega, by omega, rfl⟩
    · by_cases c : la (lastR la a k) < la (a k)
      · rw [if_pos (Or.inr c)]
        exact Or.inr ⟨hk, k, by omega, by omega, rfl⟩
      · rw [if_neg (show ¬ (lastR la a k < 0 ∨ la (lastR la a k) < la (a k)) from fun y => y.elim (fun q => by omega) c)]
        exact Or.inr ⟨z, j, j0, by omega, j2⟩
theorem lastR_c {la a b : Int → Int} : ∀ k : Nat, (∀ j, 0 ≤ j → j < (k : Int) → a j = b j) → lastR la a k = lastR la b k := by
  intro k
  induction k with
  | zero => intro _; rfl
  | succ k ih =>
    intro h
    rw [lastR_s, lastR_s, ih (fun j a b => h j a (by omega)), h k (by omega) (by omega)]
theorem He_readLatest_ok {m : Int} {s : SS} {Q : SS → Prop} (h9 : s.1 9 = m) (m0 : 0 ≤ m ∧ m ≤ 40) (hv : ∀ j, 0 ≤ j → j < m → (0 ≤ s.2 35 j ∧ s.2 35 j < 40) ∧ rng (s.2 22 (s.2 35 j)) ∧ (0 ≤ s.2 20 (s.2 35 j) ∧ s.2 20 (s.2 35 j) ≤ 1023)) (hk : ∀ s', frm [13, 14, 15] [] s s' → s'.1 13 = lastR (s.2 22) (s.2 35) m.toNat → ((0 ≤ s'.1 13 → s'.1 14 = s.2 22 (s'.1 13) ∧ s'.1 15 = (popN (s.2 20 (s'.1 13)).toNat : Int)) ∧ (s'.1 13 < 0 → s'.1 14 = 0 ∧ s'.1 15 = 0)) → Q s') : Sp_He_readLatest s Q := by
  intro X17 X57 h17 h57
  have key : ∀ (t : Nat) (k : Nat) (s1 : SS), (k : Int) ≤ m → m - k < t → frm [13, 14, 15] [] s s1 → s1.1 13 = lastR (s.2 22) (s.2 35) k → ((0 ≤ s1.1 13 → s1.1 14 = s.2 22 (s1.1 13) ∧ s1.1 15 = (popN (s.2 20 (s1.1 13)).toNat : Int)) ∧ (s1.1 13 < 0 → s1.1 14 = 0 ∧ s1.1 15 = 0)) → X17 k s1 := by
    intro t
    induction t with
    | zero => intro k s1 a b; omega
    | succ t ih =>
      intro k s1 k1 ht hf h13 hp
      have e9 : s1.1 9 = m := by rw [hf.1 9 rfl, h9]
      have e35 : s1.2 35 = s.2 35 := hf.2 35 rfl
      have e22 : s1.2 22 = s.2 22 := hf.2 22 rfl
      refine h17 _ _ ⟨⟨by omega, by omega⟩, by rw [e9]; exact ⟨by omega, by omega⟩, fun d => ?_, fun d => ⟨by omega, ?_⟩⟩
      · rw [e9] at d
        rw [show k = m.toNat by omega] at h13
        exact hk s1 hf h13 hp
      · rw [e9] at d
        obtain ⟨v1, v2, v3⟩ := hv k (by omega) d
        have lo := lastR_ok (la := s.2 22) (a := s.2 35) k (fun j a b => (hv j a (by omega)).1.1)
        have lv : lastR (s.2 22) (s.2 35) k = -1 ∨ (0 ≤ lastR (s.2 22) (s.2 35) k ∧ lastR (s.2 22) (s.2 35) k < 40 ∧ rng (s.2 22 (lastR (s.2 22) (s.2 35) k))) := by
          rcases lo with z | ⟨z, j, j0, j1, j2⟩
          · exact Or.inl z.1
          · have := hv j j0 (by omega)
            rw [j2] at this
            exact Or.inr ⟨z, this.1.2, this.2.1⟩
        rw [e35]
        refine ⟨by omega, ?_⟩
        rw [e22]
        have take : (lastR (s.2 22) (s.2 35) k < 0 ∨ s.2 22 (lastR (s.2 22) (s.2 35) k) < s.2 22 (s.2 35 k)) → X57 k (s.2 22 (s.2 35 k)) s1 := by
          intro hc
          refine h57 _ _ _ ⟨by omega, fun s6 h6 s7 h7 => ?_⟩
          have g13 : s7.1 13 = s.2 35 k := by rw [h7, sF_n _ _ (by decide), h6, sF_s, e35]
          have g20 : s7.2 20 = s.2 20 := by rw [h7, sF_2, h6, sF_2]; exact hf.2 20 rfl
          rw [g13]
          refine ⟨by omega, ?_⟩
          rw [g20]
          refine Jl_bitCount_ok v3.1 (by omega) (fun s12 h12 => ?_)
          have p13 : s12.1 13 = s.2 35 k := by rw [h12, sF_n _ _ (by decide), g13]
          refine ih (k + 1) s12 (by omega) (by omega) ?_ (by rw [p13, lastR_s, if_pos hc]) ⟨fun _ => ⟨?_, ?_⟩, fun c => by omega⟩
          · rw [h12, h7, h6]
            exact frm_tr hf (frm_tr (frm_tr (frm_F _ _ (by decide)) (frm_F _ _ (by decide))) (frm_F _ _ (by decide)))
          · rw [p13, h12, sF_n _ _ (by decide), h7, sF_s]
          · rw [p13, h12, sF_s]
        refine ⟨by rw [h13]; rcases lv with z | z; (rw [z]; decide); exact ⟨by omega, by omega⟩, fun c => take (Or.inl (by rw [← h13]; exact c)), fun c => ⟨v2, ?_, fun g => take (Or.inr (by rw [← h13, ← (hp.1 c).1]; exact g)), fun g => ?_⟩⟩
        · rw [(hp.1 c).1, h13]
          rw [h13] at c
          rcases lv with z | z
          · omega
          · exact z.2.2
        · refine ih (k + 1) s1 (by omega) (by omega) hf ?_ hp
          rw [h13, lastR_s, if_neg]
          intro z
          rw [(hp.1 c).1] at g
          rw [h13] at g c
          omega
  intro s1 h1 s2 h2 s3 h3
  have p13 : s3.1 13 = -1 := by rw [h3, sF_n _ _ (by decide), h2, sF_n _ _ (by decide), h1, sF_s]
  refine key 100 0 s3 (by omega) (by omega) (by rw [h3, h2, h1]; exact frm_tr (frm_tr (frm_F _ _ (by decide)) (frm_F _ _ (by decide))) (frm_F _ _ (by decide))) p13 ⟨fun c => by omega, fun _ => ⟨by rw [h3, sF_n _ _ (by decide), h2, sF_s], by rw [h3, sF_s]⟩⟩
theorem Na_namesOf_ok {p : Int} {s : SS} {Q : Int → SS → Prop} (h6 : 0 ≤ s.1 6 ∧ s.1 6 ≤ 20) (rp : rng p) (hv : ∀ x, 0 ≤ x → x < s.1 6 → rng (s.2 14 x)) (hk : Q (cntP (fun x => decide (s.2 14 x = p)) (s.1 6).toNat) s) : Sp_Na_namesOf p s Q := by
  intro X4 h4
  have loop : ∀ (t : Nat) (k : Nat), (k : Int) ≤ s.1 6 → s.1 6 - k < t → X4 p (cntP (fun x => decide (s.2 14 x = p)) k) k s := by
    intro t
    induction t with
    | zero => intro k a b; omega
    | succ t ih =>
      intro k k1 ht
      refine h4 _ _ _ _ ⟨⟨by omega, by omega⟩, ⟨by omega, by omega⟩, fun d => ?_, fun d => ⟨by omega, hv k (by omega) d, rp, fun f => ?_, fun f => ?_⟩⟩
      · rw [show k = (s.1 6).toNat by omega]; exact hk
      · have nx := ih (k + 1) (by omega) (by omega)
        rw [cntP_s, if_neg (by rw [decide_eq_true_eq]; exact f), Int.add_zero] at nx
        exact nx
      · have nx := ih (k + 1) (by omega) (by omega)
        rw [cntP_s, if_pos (decide_eq_true f)] at nx
        exact nx
  exact loop 100 0 (by omega) (by omega)
/-- seen by the roots in their list -/
def seenL (wi a : Int → Int) : Nat → Nat
  | 0 => 0
  | k + 1 => seenL wi a k ||| 2 ^ (wi (a k)).toNat
theorem seenL_s (wi a : Int → Int) (k : Nat) : seenL wi a (k + 1) = seenL wi a k ||| 2 ^ (wi (a k)).toNat := rfl
theorem seenL_lt {wi a : Int → Int} : ∀ k : Nat, (∀ j, 0 ≤ j → j < (k : Int) → 0 ≤ wi (a j) ∧ wi (a j) ≤ 29) → seenL wi a k < 2 ^ 30 := by
  intro k
  induction k with
  | zero => intro _; exact Nat.two_pow_pos 30
  | succ k ih =>
    intro h
    have i := ih (fun w a b => h w a (by omega))
    have w := h k (by omega) (by omega)
    rw [seenL_s]
    exact Nat.or_lt_two_pow i (Nat.pow_lt_pow_right (by decide) (by omega))
theorem seenL_W {rt : Int → Bool} {wi a : Int → Int} {n m : Int} (h : enumP rt n m a) : ∀ k : Nat, (k : Int) ≤ n → seenL wi a (cntP rt k).toNat = seenW rt wi k := by
  intro k
  induction k with
  | zero => intro _; rfl
  | succ k ih =>
    intro hk
    have i := ih (by omega)
    have cb := cntP_b rt k
    rw [cntP_s, seenW_s]
    by_cases z : rt k = true
    · have ak : a (cntP rt k) = k := by
        have lt : cntP rt k < m := by
          have := cntP_lt (n := n.toNat) (m := k) (by omega) z
          rw [h.1] at this
          exact this
        obtain ⟨q1, q2, q3, q4⟩ := h.2 (cntP rt k) cb.1 lt
        have := cntP_inj (p := rt) (m := (a (cntP rt k)).toNat) (n := k) (by rw [show (((a (cntP rt k)).toNat : Nat) : Int) = a (cntP rt k) by omega]; exact q3) z q4
        omega
      rw [if_pos z, if_pos z, show (cntP rt k + 1).toNat = (cntP rt k).toNat + 1 by omega, seenL_s, i, show (((cntP rt k).toNat : Nat) : Int) = cntP rt k by omega, ak]
    · rw [if_neg z, if_neg z, Int.add_zero, i]
theorem Md_eyesOf_ok {m : Int} {s : SS} {Q : Int → SS → Prop} (h37 : s.1 37 = m) (m0 : 0 ≤ m ∧ m ≤ 40) (hv : ∀ j, 0 ≤ j → j < m → (0 ≤ s.2 82 j ∧ s.2 82 j < 40) ∧ (0 ≤ s.2 75 (s.2 82 j) ∧ s.2 75 (s.2 82 j) ≤ 29)) (hk : Q (popN (seenL (s.2 75) (s.2 82) m.toNat) : Int) s) : Sp_Md_eyesOf s Q := by
  intro X4 h4
  have loop : ∀ (t : Nat) (k : Nat), (k : Int) ≤ m → m - k < t → X4 (seenL (s.2 75) (s.2 82) k : Nat) k s := by
    intro t
    induction t with
    | zero => intro k a b; omega
    | succ t ih =>
      intro k k1 ht
      have lt := seenL_lt (wi := s.2 75) (a := s.2 82) k (fun j a b => (hv j a (by omega)).2)
      refine h4 _ _ _ ⟨⟨by omega, by omega⟩, by rw [h37]; exact ⟨by omega, by omega⟩, fun d => ?_, fun d => ?_⟩
      · rw [h37] at d
        refine Md_bits_ok (by omega) (by omega) ?_
        rw [Int.toNat_natCast, show k = m.toNat by omega]
        exact hk
      · rw [h37] at d
        obtain ⟨v1, v2⟩ := hv k (by omega) d
        refine ⟨by omega, v1, ?_⟩
        rw [bor_bit lt v2.1 v2.2, ← seenL_s]
        exact ih (k + 1) (by omega) (by omega)
  exact loop 100 0 (by omega) (by omega)
theorem Md_lastRoot_ok {m : Int} {s : SS} {Q : Int → SS → Prop} (h37 : s.1 37 = m) (m0 : 0 ≤ m ∧ m ≤ 40) (hv : ∀ j, 0 ≤ j → j < m → (0 ≤ s.2 82 j ∧ s.2 82 j < 40) ∧ rng (s.2 79 (s.2 82 j))) (hk : Q (lastR (s.2 79) (s.2 82) m.toNat) s) : Sp_Md_lastRoot s Q := by
  intro X4 h4
  have loop : ∀ (t : Nat) (k : Nat), (k : Int) ≤ m → m - k < t → X4 (lastR (s.2 79) (s.2 82) k) k s := by
    intro t
    induction t with
    | zero => intro k a b; omega
    | succ t ih =>
      intro k k1 ht
      have lo := lastR_ok (la := s.2 79) (a := s.2 82) k (fun j a b => (hv j a (by omega)).1.1)
      have lv : lastR (s.2 79) (s.2 82) k = -1 ∨ (0 ≤ lastR (s.2 79) (s.2 82) k ∧ lastR (s.2 79) (s.2 82) k < 40 ∧ rng (s.2 79 (lastR (s.2 79) (s.2 82) k))) := by
        rcases lo with z | ⟨z, j, j0, j1, j2⟩
        · exact Or.inl z.1
        · have := hv j j0 (by omega)
          rw [j2] at this
          exact Or.inr ⟨z, this.1.2, this.2⟩
      refine h4 _ _ _ ⟨⟨by omega, by omega⟩, by rw [h37]; exact ⟨by omega, by omega⟩, fun d => ?_, fun d => ?_⟩
      · rw [h37] at d
        rw [show k = m.toNat by omega]
        exact hk
      · rw [h37] at d
        obtain ⟨v1, v2⟩ := hv k (by omega) d
        have nx := ih (k + 1) (by omega) (by omega)
        rw [lastR_s] at nx
        refine ⟨by rcases lv with z | z; (rw [z]; decide); exact ⟨by omega, by omega⟩, fun c => ⟨by omega, ?_⟩, fun c => ?_⟩
        · rw [if_pos (Or.inl c)] at nx; exact nx
        · have lz : lastR (s.2 79) (s.2 82) k < 40 ∧ rng (s.2 79 (lastR (s.2 79) (s.2 82) k)) := by
            rcases lv with z | z
            · omega
            · exact z.2
          refine ⟨by omega, v1, ⟨c, lz.1⟩, v2, lz.2, fun g => ?_, fun g => ⟨by omega, ?_⟩⟩
          · rw [if_neg (by omega)] at nx; exact nx
          · rw [if_pos (Or.inr g)] at nx; exact nx
  exact loop 100 0 (by omega) (by omega)
end
