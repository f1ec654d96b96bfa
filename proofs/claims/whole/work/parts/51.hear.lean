section
/-! HEARING: lists of those that are marked -/
theorem cntP_mono (p : Int → Bool) {m n : Nat} (h : m ≤ n) : cntP p m ≤ cntP p n := by
  induction n with
  | zero => rw [show m = 0 by omega]; exact Int.le_refl _
  | succ n ih =>
    by_cases e : m = n + 1
    · rw [e]; exact Int.le_refl _
    · have := ih (by omega)
      rw [cntP_s]
      split <;> omega
theorem cntP_lt {p : Int → Bool} {m n : Nat} (h : m < n) (hm : p m = true) : cntP p m < cntP p n := by
  have := cntP_mono p (show m + 1 ≤ n by omega)
  rw [cntP_s, if_pos hm] at this
  omega
theorem cntP_inj {p : Int → Bool} {m n : Nat} (hm : p m = true) (hn : p n = true) (h : cntP p m = cntP p n) : m = n := by
  rcases Nat.lt_trichotomy m n with q | q | q
  · have := cntP_lt q hm; omega
  · exact q
  · have := cntP_lt q hn; omega
/-- the marked ones below n, m of them, in their order -/
def enumP (p : Int → Bool) (n m : Int) (a : Int → Int) : Prop := cntP p n.toNat = m ∧ ∀ j, 0 ≤ j → j < m → 0 ≤ a j ∧ a j < n ∧ p (a j) = true ∧ cntP p (a j).toNat = j
theorem enumP_s {p : Int → Bool} {k m : Int} {a : Int → Int} (h : enumP p k m a) (k0 : 0 ≤ k) (hp : p k = true) : enumP p (k + 1) (m + 1) (updF a m k) := by
  have ek : ((k.toNat : Nat) : Int) = k := by omega
  refine ⟨by rw [show (k + 1).toNat = k.toNat + 1 by omega, cntP_s, ek, if_pos hp, h.1], fun j j0 j1 => ?_⟩
  by_cases e : j = m
  · rw [e, updF_s]
    exact ⟨k0, by omega, hp, h.1⟩
  · rw [updF_n _ _ e]
    obtain ⟨q1, q2, q3, q4⟩ := h.2 j j0 (by omega)
    exact ⟨q1, by omega, q3, q4⟩
theorem enumP_o {p : Int → Bool} {k m : Int} {a : Int → Int} (h : enumP p k m a) (k0 : 0 ≤ k) (hp : ¬ p k = true) : enumP p (k + 1) m a := by
  have ek : ((k.toNat : Nat) : Int) = k := by omega
  refine ⟨by rw [show (k + 1).toNat = k.toNat + 1 by omega, cntP_s, ek, if_neg hp, h.1, Int.add_zero], fun j j0 j1 => ?_⟩
  obtain ⟨q1, q2, q3, q4⟩ := h.2 j j0 j1
  exact ⟨q1, by omega, q3, q4⟩
theorem enumP_u {p : Int → Bool} {n m m' : Int} {a b : Int → Int} (h : enumP p n m a) (g : enumP p n m' b) : m = m' ∧ ∀ j, 0 ≤ j → j < m → a j = b j := by
  have em : m = m' := h.1.symm.trans g.1
  refine ⟨em, fun j j0 j1 => ?_⟩
  obtain ⟨q1, q2, q3, q4⟩ := h.2 j j0 j1
  obtain ⟨r1, r2, r3, r4⟩ := g.2 j j0 (by omega)
  have := cntP_inj (p := p) (m := (a j).toNat) (n := (b j).toNat) (by rw [show (((a j).toNat : Nat) : Int) = a j by omega]; exact q3) (by rw [show (((b j).toNat : Nat) : Int) = b j by omega]; exact r3) (by omega)
  omega
theorem enumP_c {p q : Int → Bool} {c n m : Int} {a : Int → Int} (h : enumP p c m a) (c0 : 0 ≤ c) (hc : c ≤ n) (h1 : ∀ x, 0 ≤ x → x < c → p x = q x) (h2 : ∀ x, c ≤ x → x < n → ¬ q x = true) : enumP q n m a := by
  have e1 : ∀ k : Nat, (k : Int) ≤ c → cntP q k = cntP p k := fun k hk => cntP_c k (fun x x0 x1 => (h1 x x0 (by omega)).symm)
  have e2 : ∀ k : Nat, ((c.toNat + k : Nat) : Int) ≤ n → cntP q (c.toNat + k) = cntP q c.toNat := by
    intro k
    induction k with
    | zero => intro _; rfl
    | succ k ih =>
      intro hk
      rw [show c.toNat + (k + 1) = c.toNat + k + 1 by omega, cntP_s, if_neg (h2 _ (by omega) (by omega)), ih (by omega), Int.add_zero]
  refine ⟨?_, fun j j0 j1 => ?_⟩
  · have cn : c.toNat + (n.toNat - c.toNat) = n.toNat := by omega
    have := e2 (n.toNat - c.toNat) (by omega)
    rw [cn, e1 c.toNat (by omega), h.1] at this
    exact this
  · obtain ⟨q1, q2, q3, q4⟩ := h.2 j j0 j1
    exact ⟨q1, by omega, by rw [← h1 _ q1 q2]; exact q3, by rw [e1 _ (by omega)]; exact q4⟩
def rtB (q : Int → Bool) (ro : Int → Int) : Nat → Int → Bool
  | 0, _ => false
  | k + 1, r => rtB q ro k r || (q k && decide (ro k = r))
theorem rtB_s (q : Int → Bool) (ro : Int → Int) (k : Nat) (r : Int) : rtB q ro (k + 1) r = (rtB q ro k r || (q k && decide (ro k = r))) := rfl
theorem rtB_iff {q : Int → Bool} {ro : Int → Int} {r : Int} : ∀ k : Nat, rtB q ro k r = true ↔ ∃ w, 0 ≤ w ∧ w < (k : Int) ∧ q w = true ∧ ro w = r := by
  intro k
  induction k with
  | zero =>
    constructor
    · intro h
      cases h
    · rintro ⟨w, a, b, -⟩
      omega
  | succ k ih =>
    rw [rtB_s, Bool.or_eq_true, ih, Bool.and_eq_true, decide_eq_true_eq]
    constructor
    · rintro (⟨w, a, b, c⟩ | ⟨a, b⟩)
      · exact ⟨w, a, by omega, c⟩
      · exact ⟨k, by omega, by omega, a, b⟩
    · rintro ⟨w, a, b, c, d⟩
      by_cases e : w = k
      · rw [e] at c d; exact Or.inr ⟨c, d⟩
      · exact Or.inl ⟨w, a, by omega, c, d⟩
/-! the model -/
theorem Md_findRoots_ok {p c : Int} {s : SS} {Q : SS → Prop} {q : Int → Bool} (rp : rng p) (h34 : s.1 34 = c) (c0 : 0 ≤ c) (c1 : c ≤ 40) (hv : ∀ w, 0 ≤ w → w < c → rng (s.2 70 w) ∧ rng (s.2 81 w) ∧ (0 ≤ s.2 76 w ∧ s.2 76 w < 20) ∧ rng (s.2 72 (s.2 76 w)) ∧ (q w = true ↔ (¬ s.2 70 w = 0 ∧ s.2 72 (s.2 76 w) = p))) (hk : ∀ s', frm [37] [82] s s' → enumP (rtB q (s.2 81) c.toNat) c (s'.1 37) (s'.2 82) → Q s') : Sp_Md_findRoots p s Q := by
  intro X7 X20 h7 h20
  have key : ∀ (t : Nat) (r w f : Int) (s1 : SS), 0 ≤ r → r ≤ c → 0 ≤ w → w ≤ c → (f = 0 ∨ f = 1) → (c - r) * 100 + (c - w) < t → frm [37] [82] s s1 → enumP (rtB q (s.2 81) c.toNat) r (s1.1 37) (s1.2 82) → (r < c → (f = 1 ↔ rtB q (s.2 81) w.toNat r = true) → X20 p r f w s1) ∧ (w = 0 → f = 0 → X7 p r s1) := by
    intro t
    induction t with
    | zero => intro r w f s1 a b c d e g; omega
    | succ t ih =>
      intro r w f s1 r0 r1 w0 w1 hf01 ht hf hE
      have e34 : s1.1 34 = c := by rw [hf.1 34 rfl, h34]
      have e70 : s1.2 70 = s.2 70 := hf.2 70 rfl
      have e81 : s1.2 81 = s.2 81 := hf.2 81 rfl
      have e76 : s1.2 76 = s.2 76 := hf.2 76 rfl
      have e72 : s1.2 72 = s.2 72 := hf.2 72 rfl
      have cb := cntP_b (rtB q (s.2 81) c.toNat) r.toNat
      have k20 : r < c → (f = 1 ↔ rtB q (s.2 81) w.toNat r = true) → X20 p r f w s1 := by
        intro rc hfr
        refine h20 _ _ _ _ _ ⟨⟨by omega, by omega⟩, by rw [e34]; exact ⟨by omega, by omega⟩, fun d => ?_, fun d => ?_⟩
        · rw [e34] at d
          have ew : w = c := by omega
          rw [ew] at hfr
          have e1 := hE.1
          refine ⟨by rcases hf01 with z | z <;> rw [z] <;> decide, fun n0 => ⟨by omega, fun s2 h2 s3 h3 => ?_⟩, fun z0 => ?_⟩
          · refine (ih (r + 1) 0 0 s3 (by omega) (by omega) (by omega) (by omega) (Or.inl rfl) (by omega) (by rw [h3, h2]; exact frm_tr hf (frm_tr (frm_A _ _ _ (by decide)) (frm_F _ _ (by decide)))) ?_).2 rfl rfl
            have p37 : s3.1 37 = s1.1 37 + 1 := by rw [h3, sF_s, h2, sA_1]
            have p82 : s3.2 82 = updF (s1.2 82) (s1.1 37) r := by rw [h3, sF_2, h2, sA_u]
            rw [p37, p82]
            exact enumP_s hE r0 (hfr.mp (by omega))
          · refine (ih (r + 1) 0 0 s1 (by omega) (by omega) (by omega) (by omega) (Or.inl rfl) (by omega) hf ?_).2 rfl rfl
            exact enumP_o hE r0 (fun z => by have := hfr.mpr z; omega)
        · rw [e34] at d
          obtain ⟨v1, v2, v3, v4, v5⟩ := hv w w0 d
          have ew : (w + 1).toNat = w.toNat + 1 := by omega
          have ec : ((w.toNat : Nat) : Int) = w := by omega
          have no : ¬ (q w = true ∧ s.2 81 w = r) → ¬ f = 1 → X20 p r 0 (w + 1) s1 := by
            intro hn hf0
            refine (ih r (w + 1) 0 s1 r0 r1 (by omega) (by omega) (Or.inl rfl) (by omega) hf hE).1 rc ⟨fun z => absurd z (by decide), fun z => ?_⟩
            rw [ew, rtB_s, ec, Bool.or_eq_true, Bool.and_eq_true, decide_eq_true_eq] at z
            rcases z with z | z
            · exact absurd (hfr.mpr z) hf0
            · exact absurd z hn
          refine ⟨by rcases hf01 with z | z <;> rw [z] <;> decide, fun n0 => ?_, fun z0 => ⟨by omega, by rw [e70]; exact v1, fun g => no (fun z => ?_) (by omega), fun g => ⟨by omega, by rw [e81]; exact v2, ⟨by omega, by omega⟩, fun k => no (fun z => ?_) (by omega), fun k => ⟨by omega, by rw [e76]; exact v3, by rw [e72, e76]; exact v4, rp, fun l => no (fun z => ?_) (by omega), fun l => ?_⟩⟩⟩⟩
          · refine (ih r (w + 1) 1 s1 r0 r1 (by omega) (by omega) (Or.inr rfl) (by omega) hf hE).1 rc ⟨fun _ => ?_, fun _ => rfl⟩
            rw [ew, rtB_s, hfr.mp (by omega), Bool.true_or]
          · rw [e70] at g; exact (v5.mp z.1).1 g
          · rw [e81] at k; exact k z.2
          · rw [e72, e76] at l; exact l (v5.mp z.1).2
          · rw [e70] at g
            rw [e81] at k
            rw [e72, e76] at l
            refine (ih r (w + 1) 1 s1 r0 r1 (by omega) (by omega) (Or.inr rfl) (by omega) hf hE).1 rc ⟨fun _ => ?_, fun _ => rfl⟩
            rw [ew, rtB_s, ec, v5.mpr ⟨g, l⟩, decide_eq_true k]
            exact Bool.or_true _
      refine ⟨k20, fun hw hf0 => ?_⟩
      refine h7 _ _ _ ⟨⟨by omega, by omega⟩, by rw [e34]; exact ⟨by omega, by omega⟩, fun d => ?_, fun d => ?_⟩
      · rw [e34] at d
        rw [show r = c by omega] at hE
        exact hk s1 hf hE
      · rw [e34] at d
        have := k20 d ⟨fun z => absurd z (by omega), fun z => by rw [hw] at z; exact absurd z (by intro y; cases y)⟩
        rw [hw, hf0] at this
        exact this
  intro s1 h1
  refine (key 100000 0 0 0 s1 (by omega) c0 (by omega) c0 (Or.inl rfl) (by omega) (by rw [h1]; exact frm_F _ _ (by decide)) ⟨by rw [h1, sF_s]; rfl, fun j j0 j1 => ?_⟩).2 rfl rfl
  rw [h1, sF_s] at j1
  omega
end
