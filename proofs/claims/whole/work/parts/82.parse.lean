section
/-! RULES, the model's reading of an operand -/
def rep (S : Int → Int) : Int → List Int → Prop
  | n, [] => n = 0
  | n, o :: r => S (n - 1) = o ∧ (0 ≤ o ∧ o ≤ 9) ∧ rep S (n - 1) r
theorem rep_len {S : Int → Int} {l : List Int} : ∀ {n : Int}, rep S n l → n = l.length := by
  induction l with
  | nil => intro n h; exact h
  | cons o r ih => intro n h; have := ih h.2.2; rw [List.length_cons]; omega
theorem rep_up {S S' : Int → Int} {l : List Int} : ∀ {n : Int}, rep S n l → (∀ x, 0 ≤ x → x < n → S' x = S x) → rep S' n l := by
  induction l with
  | nil => intro n h _; exact h
  | cons o r ih =>
    intro n h q
    have hl := rep_len h
    rw [List.length_cons] at hl
    exact ⟨by rw [q _ (by omega) (by omega)]; exact h.1, h.2.1, ih h.2.2 (fun x x0 x1 => q x x0 (by omega))⟩
def cd (s : SS) (j : Int) : Int := s.2 87 (600 * s.1 39 + j)
theorem Md_writes_ok {v : Int} {s : SS} {Q : SS → Prop} (h : 0 ≤ s.1 39 ∧ s.1 39 < 20) (hw : 0 ≤ s.1 41 ∧ s.1 41 < 600) (hk : ∀ s', frm [41] [87] s s' → s'.1 41 = s.1 41 + 1 → s'.2 87 = updF (s.2 87) (600 * s.1 39 + s.1 41) v → Q s') : Sp_Md_writes v s Q := by
  refine ⟨⟨by omega, by omega⟩, fun s1 h1 s2 h2 => hk s2 ?_ ?_ ?_⟩
  · rw [h2, h1]; exact frm_tr (frm_A _ _ _ (by decide)) (frm_F _ _ (by decide))
  · rw [h2, sF_s, h1, sA_1]
  · rw [h2, sF_2, h1, sA_u]
theorem Md_unstacks_ok {m : Int} {ops : List Int} {s : SS} {Q : SS → Prop} (hm : rng m) (h : 0 ≤ s.1 39 ∧ s.1 39 < 20) (hr : rep (s.2 92) (s.1 43) ops) (hw : 0 ≤ s.1 41 ∧ s.1 41 + s.1 43 ≤ 200) (hk : ∀ s', frm [41, 43] [87] s s' → s'.1 41 = s.1 41 + (una m ops).1.length → s'.1 43 = s.1 43 - (una m ops).1.length → rep (s.2 92) (s'.1 43) (una m ops).2 → wr (cd s') (s.1 41) (una m ops).1 → (∀ x, x < 600 * s.1 39 + s.1 41 → s'.2 87 x = s.2 87 x) → Q s') : Sp_Md_unstacks m s Q := by
  intro X0 h0
  have key : ∀ (ops : List Int) (s1 : SS), 0 ≤ s1.1 39 ∧ s1.1 39 < 20 → rep (s1.2 92) (s1.1 43) ops → 0 ≤ s1.1 41 ∧ s1.1 41 + s1.1 43 ≤ 200 → (∀ s', frm [41, 43] [87] s1 s' → s'.1 41 = s1.1 41 + (una m ops).1.length → s'.1 43 = s1.1 43 - (una m ops).1.length → rep (s1.2 92) (s'.1 43) (una m ops).2 → wr (cd s') (s1.1 41) (una m ops).1 → (∀ x, x < 600 * s1.1 39 + s1.1 41 → s'.2 87 x = s1.2 87 x) → Q s') → X0 m s1 := by
    intro ops
    induction ops with
    | nil =>
      intro s1 g1 g2 g3 hq
      have e : s1.1 43 = 0 := g2
      refine h0 _ _ ⟨⟨by omega, by omega⟩, fun _ => hq s1 (frm_rf _ _ _) (by simp [una]) (by simp [una]) g2 trivial (fun _ _ => rfl), fun c => by omega⟩
    | cons o r ih =>
      intro s1 g1 g2 g3 hq
      have hl := rep_len g2
      rw [List.length_cons] at hl
      obtain ⟨r1, r2, r3⟩ := g2
      have room : s1.1 43 ≤ 200 := by omega
      refine h0 _ _ ⟨⟨by omega, by omega⟩, fun c => by omega, fun _ => ⟨⟨by omega, by omega⟩, by rw [r1]; exact ⟨by omega, by omega⟩, hm, fun c => ?_, fun c s2 h2 => ?_⟩⟩
      · rw [r1] at c
        have eu : una m (o :: r) = ([], o :: r) := una_n (by omega)
        rw [eu] at hq
        exact hq s1 (frm_rf _ _ _) (by simp) (by simp) ⟨r1, r2, r3⟩ trivial (fun _ _ => rfl)
      · rw [r1] at c
        have eu : una m (o :: r) = (o :: (una m r).1, (una m r).2) := una_y c
        rw [eu] at hq
        have f43 : s2.1 43 = s1.1 43 - 1 := by rw [h2, sF_s]
        have f39 : s2.1 39 = s1.1 39 := by rw [h2, sF_n _ _ (by decide)]
        have f41 : s2.1 41 = s1.1 41 := by rw [h2, sF_n _ _ (by decide)]
        have f92 : s2.2 = s1.2 := by rw [h2]; rfl
        refine ⟨⟨by omega, by omega⟩, Md_writes_ok (by omega) (by omega) (fun s3 hf w41 w87 => ?_)⟩
        rw [f41] at w41
        rw [f39, f41, f92, f43, r1] at w87
        have k39 : s3.1 39 = s1.1 39 := by rw [hf.1 39 rfl, f39]
        have k43 : s3.1 43 = s1.1 43 - 1 := by rw [hf.1 43 rfl, f43]
        have k92 : s3.2 92 = s1.2 92 := by rw [hf.2 92 rfl, f92]
        refine ih s3 (by omega) (by rw [k43, k92]; exact r3) (by omega) (fun s' hf' v41 v43 v92 v87 vx => ?_)
        rw [w41] at v41 v87 vx
        rw [k43] at v43
        rw [k92] at v92
        rw [k39] at vx
        have lc : ((o :: (una m r).1).length : Int) = (una m r).1.length + 1 := by rw [List.length_cons]; omega
        refine hq s' ?_ (by rw [lc]; omega) (by rw [lc]; omega) v92 ⟨?_, v87⟩ (fun x hx => ?_)
        · refine frm_tr ?_ (frm_tr (frm_mono hf (by decide) (by decide)) hf')
          rw [h2]; exact frm_F _ _ (by decide)
        · show s'.2 87 (600 * s'.1 39 + s1.1 41) = o
          rw [hf'.1 39 rfl, k39, vx _ (by omega), w87, updF_s]
        · rw [vx x (by omega), w87, updF_n _ _ (by omega)]
  exact key ops s h hr hw hk
theorem Md_isField_B {c : Int} (h : rng c) (s : SS) : isB (lt7 c) s (Sp_Md_isField c s) := by
  intro K h1 h0
  unfold Sp_Md_isField
  (repeat' first | apply And.intro | intro _) <;> first | exact h.1 | exact h.2 | exact h1 (by omega) | exact h0 (by omega)
theorem Md_isDigit_B {c : Int} (h : rng c) (s : SS) : isB (dg10 c) s (Sp_Md_isDigit c s) := by
  intro K h1 h0
  have := h.1
  unfold Sp_Md_isDigit
  (repeat' first | apply And.intro | intro _) <;> first | exact h.1 | exact h.2 | exact h1 (by omega) | exact h0 (by omega)
/-- the text that is read, and where the model stands in it -/
def txO (s0 : SS) : Prop := (0 ≤ s0.1 30 ∧ s0.1 30 ≤ 200) ∧ (0 ≤ s0.1 39 ∧ s0.1 39 < 20) ∧ ∀ i, -1 ≤ tpx s0 i ∧ tpx s0 i ≤ 255
def pI (s0 s : SS) : Prop := frm [40, 41, 42, 43] [87, 88, 89, 90, 91, 92] s0 s ∧ (0 ≤ s.1 40 ∧ s.1 40 ≤ s0.1 30) ∧ 0 ≤ s.1 41 ∧ 0 ≤ s.1 42 ∧ 0 ≤ s.1 43 ∧ s.1 41 + s.1 43 ≤ s.1 40
/-- between the clauses -/
def pJ (s0 s : SS) : Prop := frm [40, 41, 42, 43] [87, 88, 89, 90, 91, 92] s0 s ∧ (0 ≤ s.1 40 ∧ s.1 40 ≤ s0.1 30) ∧ 0 ≤ s.1 41 ∧ s.1 41 ≤ s.1 40
theorem pI_J {s0 s : SS} (h : pI s0 s) : pJ s0 s := ⟨h.1, h.2.1, h.2.2.1, by obtain ⟨_, _, _, _, _, _⟩ := h; omega⟩
def rA (p : Int × Int) (s0 s : SS) : Cf := run p (tpx s0) (s.1 40).toNat
def pBad (p : Int × Int) (s0 s : SS) : Prop := (rA p s0 s).st ≠ -1 ∧ ((s.1 40 < s0.1 30 ∧ (aft (rA p s0 s) (tpx s0 (s.1 40))).st = -1) ∨ (s.1 40 = s0.1 30 ∧ (rA p s0 s).st ≠ 14))
abbrev pF (s0 s : SS) : Prop := frm [40, 41, 42, 43] [87, 88, 89, 90, 91, 92] s0 s
theorem sg_ok {s0 s : SS} {Q : Int → SS → Prop} (h0 : txO s0) (h1 : pF s0 s) (h2 : 0 ≤ s.1 40 ∧ s.1 40 ≤ s0.1 30) (hk : Q (tpx s0 (s.1 40)) s) : Sp_Md_sign s Q := by
  obtain ⟨q1, q2, q3⟩ := h0
  have e30 : s.1 30 = s0.1 30 := h1.1 30 rfl
  have e63 : s.2 63 = s0.2 63 := h1.2 63 rfl
  unfold tpx at hk
  refine ⟨⟨by omega, by omega⟩, ⟨by omega, by omega⟩, fun c => ?_, fun c => ⟨⟨by omega, by omega⟩, ?_⟩⟩
  · rw [if_neg (by omega)] at hk; exact hk
  · rw [if_pos (by omega)] at hk; rw [e63]; exact hk
theorem rA_s {p : Int × Int} {s0 s s' : SS} (h : 0 ≤ s.1 40) (e : s'.1 40 = s.1 40 + 1) : rA p s0 s' = aft (rA p s0 s) (tpx s0 (s.1 40)) := by
  unfold rA
  rw [e, show (s.1 40 + 1).toNat = (s.1 40).toNat + 1 by omega]
  show aft _ (tpx s0 ((s.1 40).toNat : Int)) = _
  rw [show (((s.1 40).toNat : Nat) : Int) = s.1 40 by omega]
theorem tp_in {s0 : SS} {i : Int} (h : tpx s0 i ≠ -1) : 0 ≤ i ∧ i < s0.1 30 := by
  unfold tpx at h
  by_cases c : 0 ≤ i ∧ i < s0.1 30
  · exact c
  · rw [if_neg c] at h; exact absurd rfl h
theorem bad_of {p : Int × Int} {s0 s : SS} (h : 0 ≤ s.1 40 ∧ s.1 40 ≤ s0.1 30) (h1 : (rA p s0 s).st ≠ -1) (h2 : (rA p s0 s).st ≠ 14) (h3 : (aft (rA p s0 s) (tpx s0 (s.1 40))).st = -1) : pBad p s0 s := by
  refine ⟨h1, ?_⟩
  by_cases c : s.1 40 < s0.1 30
  · exact Or.inl ⟨c, h3⟩
  · exact Or.inr ⟨by omega, h2⟩
/-- before an operand; behind one -/
def rE (p : Int × Int) (N : Int) (s0 s : SS) : Prop := (rA p s0 s).dp = s.1 42 ∧ (rA p s0 s).cl = N ∧ ((rA p s0 s).st = 1 ∨ ((rA p s0 s).st = 0 ∧ N < 8 ∧ ¬ (tpx s0 (s.1 40) = 101 ∧ tpx s0 (s.1 40 + 1) = 108)))
def rD (p : Int × Int) (N : Int) (s0 s : SS) : Prop := (rA p s0 s).dp = s.1 42 ∧ (rA p s0 s).cl = N ∧ ((rA p s0 s).st = 5 ∨ (rA p s0 s).st = 6) ∧ aft (rA p s0 s) (tpx s0 (s.1 40)) = cfF (rA p s0 s) (tpx s0 (s.1 40))
theorem rE_st {p : Int × Int} {N : Int} {s0 s : SS} (h : rE p N s0 s) : (rA p s0 s).st ≠ -1 ∧ (rA p s0 s).st ≠ 14 := by
  obtain ⟨_, _, h | h⟩ := h <;> omega
/-- what comes of a sign before an operand -/
theorem rE_a {p : Int × Int} {N : Int} {s0 s : SS} (h : rE p N s0 s) (hc : ¬ lt7 (tpx s0 (s.1 40))) : aft (rA p s0 s) (tpx s0 (s.1 40)) = cfO (rA p s0 s) (tpx s0 (s.1 40)) := by
  obtain ⟨h1, h2, h3⟩ := h
  unfold aft
  rcases h3 with h3 | ⟨h3, h4, h5⟩
  · rw [if_neg (by omega), if_pos h3]
  · rw [if_pos h3]
    unfold cf0
    rw [if_neg (by omega), if_pos (by omega)]
/-- a letter, then no sign -/
theorem rE_l {p : Int × Int} {N : Int} {s0 s : SS} (h : rE p N s0 s) (hc : lt7 (tpx s0 (s.1 40))) : (aft (rA p s0 s) (tpx s0 (s.1 40))).dp = s.1 42 ∧ (aft (rA p s0 s) (tpx s0 (s.1 40))).cl = N ∧ ((aft (rA p s0 s) (tpx s0 (s.1 40))).st = 2 ∨ ((aft (rA p s0 s) (tpx s0 (s.1 40))).st = 3 ∧ tpx s0 (s.1 40 + 1) ≠ 108)) := by
  obtain ⟨h1, h2, h3⟩ := h
  have hO : cfO (rA p s0 s) (tpx s0 (s.1 40)) = (Cf.of 2 (rA p s0 s).dp (rA p s0 s).cl (rA p s0 s).dg (rA p s0 s).sz) := by
    unfold cfO
    rw [if_neg (by omega), if_neg (by omega), if_pos hc]
  unfold aft
  rcases h3 with h3 | ⟨h3, h4, h5⟩
  · rw [if_neg (by omega), if_pos h3, hO]
    exact ⟨h1, h2, Or.inl rfl⟩
  · rw [if_pos h3]
    unfold cf0
    by_cases c : tpx s0 (s.1 40) = 101
    · rw [if_pos c, if_pos (by omega)]
      exact ⟨h1, h2, Or.inr ⟨rfl, fun q => h5 ⟨c, q⟩⟩⟩
    · rw [if_neg c, if_pos (by omega), hO]
      exact ⟨h1, h2, Or.inl rfl⟩
end
