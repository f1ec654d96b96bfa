section
/-! RULES, which texts are rules: the machine of states -/
abbrev Cf := Int × Int × Int × Int × Int
abbrev Cf.st (g : Cf) : Int := g.1
abbrev Cf.dp (g : Cf) : Int := g.2.1
abbrev Cf.cl (g : Cf) : Int := g.2.2.1
abbrev Cf.dg (g : Cf) : Int := g.2.2.2.1
abbrev Cf.sz (g : Cf) : Int := g.2.2.2.2
abbrev Cf.of (a b c d e : Int) : Cf := (a, b, c, d, e)
theorem Cf_st (a b c d e : Int) : (Cf.of a b c d e).st = a := rfl
theorem Cf_dp (a b c d e : Int) : (Cf.of a b c d e).dp = b := rfl
theorem Cf_cl (a b c d e : Int) : (Cf.of a b c d e).cl = c := rfl
theorem Cf_dg (a b c d e : Int) : (Cf.of a b c d e).dg = d := rfl
theorem Cf_sz (a b c d e : Int) : (Cf.of a b c d e).sz = e := rfl
def cfO (g : Cf) (c : Int) : Cf := if c = 33 then (Cf.of 1 g.dp g.cl g.dg g.sz) else if c = 40 then (Cf.of 1 (g.dp + 1) g.cl g.dg g.sz) else if lt7 c then (Cf.of 2 g.dp g.cl g.dg g.sz) else (Cf.of (-1) g.dp g.cl g.dg g.sz)
def cfF (g : Cf) (c : Int) : Cf := if c = 38 ∨ c = 124 then (Cf.of 1 g.dp g.cl g.dg g.sz) else if c = 41 ∧ 0 < g.dp then (Cf.of 6 (g.dp - 1) g.cl g.dg g.sz) else if c = 62 ∧ g.dp = 0 then (Cf.of 7 g.dp g.cl g.dg g.sz) else (Cf.of (-1) g.dp g.cl g.dg g.sz)
def cf0 (g : Cf) (c : Int) : Cf := if c = 101 then (if g.cl < 8 then (Cf.of 3 g.dp g.cl g.dg g.sz) else (Cf.of 9 g.dp g.cl g.dg g.sz)) else if g.cl < 8 then cfO g c else (Cf.of (-1) g.dp g.cl g.dg g.sz)
def cf5 (g : Cf) (c : Int) : Cf := if dg10 c then (if 3 ≤ g.dg ∨ ¬ g.sz = 0 then (Cf.of (-1) g.dp g.cl g.dg g.sz) else (Cf.of 5 g.dp g.cl (g.dg + 1) g.sz)) else cfF g c
def aft (g : Cf) (c : Int) : Cf :=
  if g.st = 0 then cf0 g c
  else if g.st = 1 then cfO g c
  else if g.st = 2 then (if sg3 c then (Cf.of 4 g.dp g.cl g.dg g.sz) else (Cf.of (-1) g.dp g.cl g.dg g.sz))
  else if g.st = 3 then (if c = 108 then (Cf.of 10 g.dp g.cl g.dg g.sz) else if sg3 c then (Cf.of 4 g.dp g.cl g.dg g.sz) else (Cf.of (-1) g.dp g.cl g.dg g.sz))
  else if g.st = 4 then (if dg10 c then (Cf.of 5 g.dp g.cl 1 (if c = 48 then 1 else 0)) else (Cf.of (-1) g.dp g.cl g.dg g.sz))
  else if g.st = 5 then cf5 g c
  else if g.st = 6 then cfF g c
  else if g.st = 7 then (if dg10 c then (Cf.of 8 g.dp g.cl g.dg g.sz) else (Cf.of (-1) g.dp g.cl g.dg g.sz))
  else if g.st = 8 then (if c = 59 then (Cf.of 0 g.dp (g.cl + 1) g.dg g.sz) else (Cf.of (-1) g.dp g.cl g.dg g.sz))
  else if g.st = 9 then (if c = 108 then (Cf.of 10 g.dp g.cl g.dg g.sz) else (Cf.of (-1) g.dp g.cl g.dg g.sz))
  else if g.st = 10 then (if c = 115 then (Cf.of 11 g.dp g.cl g.dg g.sz) else (Cf.of (-1) g.dp g.cl g.dg g.sz))
  else if g.st = 11 then (if c = 101 then (Cf.of 12 g.dp g.cl g.dg g.sz) else (Cf.of (-1) g.dp g.cl g.dg g.sz))
  else if g.st = 12 then (if c = 62 then (Cf.of 13 g.dp g.cl g.dg g.sz) else (Cf.of (-1) g.dp g.cl g.dg g.sz))
  else if g.st = 13 then (if dg10 c then (Cf.of 14 g.dp g.cl g.dg g.sz) else (Cf.of (-1) g.dp g.cl g.dg g.sz))
  else (Cf.of (-1) g.dp g.cl g.dg g.sz)
def run (p : Int × Int) (tx : Int → Int) : Nat → Cf
  | 0 => Cf.of 0 0 0 p.1 p.2
  | k + 1 => aft (run p tx k) (tx k)
def cfB (g : Cf) (k : Int) : Prop := (-1 ≤ g.st ∧ g.st ≤ 14) ∧ (0 ≤ g.dp ∧ g.dp ≤ k) ∧ (0 ≤ g.cl ∧ g.cl ≤ 8 ∧ (g.cl = 8 → g.st = -1 ∨ g.st = 0 ∨ 9 ≤ g.st)) ∧ (g.st = 5 → 1 ≤ g.dg ∧ g.dg ≤ 3 ∧ (g.sz = 0 ∨ g.sz = 1))
theorem cfO_b {g : Cf} {k c : Int} (h : cfB g k) (hc : g.cl < 8) : cfB (cfO g c) (k + 1) := by
  unfold cfB at *
  unfold cfO
  repeat' split
  all_goals (simp only [Cf_st, Cf_dp, Cf_cl, Cf_dg, Cf_sz]; omega)
theorem cfF_b {g : Cf} {k c : Int} (h : cfB g k) (hc : g.cl < 8) : cfB (cfF g c) (k + 1) := by
  unfold cfB at *
  unfold cfF
  repeat' split
  all_goals (simp only [Cf_st, Cf_dp, Cf_cl, Cf_dg, Cf_sz]; omega)
theorem ite_P {P : Cf → Prop} {c : Prop} [Decidable c] {a b : Cf} (h1 : c → P a) (h2 : ¬ c → P b) : P (if c then a else b) := by
  by_cases e : c
  · rw [if_pos e]; exact h1 e
  · rw [if_neg e]; exact h2 e
theorem aft_b {g : Cf} {k c : Int} (h : cfB g k) : cfB (aft g c) (k + 1) := by
  have hO : g.cl < 8 → cfB (cfO g c) (k + 1) := cfO_b h
  have hF : g.cl < 8 → cfB (cfF g c) (k + 1) := cfF_b h
  unfold aft cf0 cf5
  unfold cfB at h
  repeat' (refine ite_P (P := fun x => cfB x (k + 1)) (fun _ => ?_) (fun _ => ?_))
  all_goals first
    | exact hO (by omega)
    | exact hF (by omega)
    | (unfold cfB; refine ⟨⟨?_, ?_⟩, ⟨?_, ?_⟩, ⟨?_, ?_, fun q => ?_⟩, fun q => ?_⟩ <;> (try simp only [Cf_st, Cf_dp, Cf_cl, Cf_dg, Cf_sz] at q) <;> (try simp only [Cf_st, Cf_dp, Cf_cl, Cf_dg, Cf_sz]) <;> first | omega | decide | exact Or.inl trivial | exact Or.inr (Or.inl trivial) | (split <;> omega))
theorem run_b (p : Int × Int) (tx : Int → Int) (n : Nat) : cfB (run p tx n) n := by
  induction n with
  | zero => exact ⟨(by decide : (-1 : Int) ≤ 0 ∧ (0 : Int) ≤ 14), (by decide : (0 : Int) ≤ 0 ∧ (0 : Int) ≤ 0), (by decide : (0 : Int) ≤ 0 ∧ (0 : Int) ≤ 8 ∧ ((0 : Int) = 8 → (0 : Int) = -1 ∨ (0 : Int) = 0 ∨ (9 : Int) ≤ 0)), fun q => absurd (show (0 : Int) = 5 from q) (by decide)⟩
  | succ n ih =>
    have := aft_b (c := tx n) ih
    rw [show ((n + 1 : Nat) : Int) = (n : Int) + 1 by omega]
    exact this
theorem aft_stk {g : Cf} {c : Int} (h : g.st = -1 ∨ 14 ≤ g.st) : (aft g c).st = -1 := by
  unfold aft
  repeat (rw [if_neg (by omega)])
theorem run_stk (p : Int × Int) (tx : Int → Int) {i j : Nat} (h : i ≤ j) (q : (run p tx i).st = -1) : (run p tx j).st = -1 := by
  induction j with
  | zero => rw [show i = 0 by omega] at q; exact q
  | succ j ih =>
    by_cases e : i = j + 1
    · rw [← e]; exact q
    · exact aft_stk (Or.inl (ih (by omega)))
/-- what the class answers to a text of n signs -/
def chkR (p : Int × Int) (tx : Int → Int) (n : Nat) (r : Int) : Prop :=
  (∃ i : Nat, i < n ∧ (run p tx i).st ≠ -1 ∧ (run p tx (i + 1)).st = -1 ∧ r = -10 - (i : Int)) ∨
  ((run p tx n).st ≠ -1 ∧ ((run p tx n).st = 14 → r = (run p tx n).cl + 1) ∧ ((run p tx n).st ≠ 14 → r = -10 - (n : Int)))
theorem chk_bad {p : Int × Int} {tx : Int → Int} {n : Nat} {r : Int} (h : chkR p tx n r) {k : Nat} (hk : k ≤ n) (g : (run p tx k).st ≠ -1) (hb : (k < n ∧ (run p tx (k + 1)).st = -1) ∨ (k = n ∧ (run p tx n).st ≠ 14)) : r = -10 - (k : Int) := by
  rcases h with ⟨i, h1, h2, h3, h4⟩ | ⟨h1, h2, h3⟩
  · rcases hb with ⟨b1, b2⟩ | ⟨b1, b2⟩
    · have : i = k := by
        rcases Nat.lt_trichotomy i k with q | q | q
        · exact absurd (run_stk p tx (show i + 1 ≤ k by omega) h3) g
        · exact q
        · exact absurd (run_stk p tx (show k + 1 ≤ i by omega) b2) h2
      rw [h4, this]
    · subst b1
      exact absurd (run_stk p tx (show i + 1 ≤ k by omega) h3) g
  · rcases hb with ⟨b1, b2⟩ | ⟨b1, b2⟩
    · exact absurd (run_stk p tx (show k + 1 ≤ n by omega) b2) h1
    · subst b1; exact h3 b2
theorem chk_good {p : Int × Int} {tx : Int → Int} {n : Nat} {r : Int} (h : chkR p tx n r) (g : (run p tx n).st = 14) : r = (run p tx n).cl + 1 := by
  rcases h with ⟨i, h1, h2, h3, h4⟩ | ⟨h1, h2, h3⟩
  · have := run_stk p tx (show i + 1 ≤ n by omega) h3
    omega
  · exact h2 g
/-! the class's machine -/
def cfS (st : Int) (s : SS) : Cf := Cf.of st (s.1 19) (s.1 20) (s.1 21) (s.1 22)
theorem Ru_isLetter_B {c : Int} (h : rng c) (s : SS) : isB (lt7 c) s (Sp_Ru_isLetter c s) := by
  intro K h1 h0
  unfold Sp_Ru_isLetter
  (repeat' first | apply And.intro | intro _) <;> first | exact h.1 | exact h.2 | exact h1 (by omega) | exact h0 (by omega)
theorem Ru_isSign_B {c : Int} (h : rng c) (s : SS) : isB (sg3 c) s (Sp_Ru_isSign c s) := by
  intro K h1 h0
  unfold Sp_Ru_isSign
  (repeat' first | apply And.intro | intro _) <;> first | exact h.1 | exact h.2 | exact h1 (by omega) | exact h0 (by omega)
theorem Ru_isDigit_B {c : Int} (h : rng c) (s : SS) : isB (dg10 c) s (Sp_Ru_isDigit c s) := by
  intro K h1 h0
  have := h.1
  unfold Sp_Ru_isDigit
  (repeat' first | apply And.intro | intro _) <;> first | exact h.1 | exact h.2 | exact h1 (by omega) | exact h0 (by omega)
theorem Ru_afterOpening_ok {st c : Int} {s : SS} {Q : Int → SS → Prop} (h : rng c) (hk : ∀ v s', frm [19, 20, 21, 22] [] s s' → cfO (cfS st s) c = cfS v s' → Q v s') : Sp_Ru_afterOpening c s Q := by
  refine ⟨h, fun a => ⟨h, fun b => isB_a (Ru_isLetter_B h s) (fun d => ?_) (fun d => ?_), fun b s3 h3 => ?_⟩, fun a => ?_⟩
  · refine hk _ s (frm_rf _ _ s) ?_
    unfold cfO
    rw [if_neg a, if_neg b, if_neg d]
    rfl
  · refine hk _ s (frm_rf _ _ s) ?_
    unfold cfO
    rw [if_neg a, if_neg b, if_pos d]
    rfl
  · refine hk _ s3 (by rw [h3]; exact frm_F _ _ (by decide)) ?_
    unfold cfO
    rw [if_neg a, if_pos b, h3]
    rfl
  · refine hk _ s (frm_rf _ _ s) ?_
    unfold cfO
    rw [if_pos a]
    rfl
theorem Ru_afterFact_ok {st c : Int} {s : SS} {Q : Int → SS → Prop} (h : rng c) (hd : rng (s.1 19)) (h0 : 0 ≤ s.1 19) (hk : ∀ v s', frm [19, 20, 21, 22] [] s s' → cfF (cfS st s) c = cfS v s' → Q v s') : Sp_Ru_afterFact c s Q := by
  have no : ¬ (c = 38 ∨ c = 124) → ¬ (c = 41 ∧ 0 < s.1 19) → ¬ (c = 62 ∧ s.1 19 = 0) → Q (-1) s := fun a b d => hk _ s (frm_rf _ _ s) (by
    unfold cfF
    rw [if_neg a, if_neg (show ¬ (c = 41 ∧ 0 < (cfS st s).dp) from b), if_neg (show ¬ (c = 62 ∧ (cfS st s).dp = 0) from d)]
    rfl)
  have yes : (c = 38 ∨ c = 124) → Q 1 s := fun a => hk _ s (frm_rf _ _ s) (by
    unfold cfF
    rw [if_pos a]
    rfl)
  refine ⟨h, fun a => yes (Or.inl a), fun a => ⟨h, fun b => ⟨h, fun d => ⟨h, fun e => no (by omega) (by omega) (by omega), fun e => ⟨hd, fun f => no (by omega) (by omega) (by omega), fun f => ?_⟩⟩, fun d => ⟨hd, fun e => ⟨h, fun f => no (by omega) (by omega) (by omega), fun f => ⟨hd, fun g => no (by omega) (by omega) (by omega), fun g => by omega⟩⟩, fun e s1 h1 => ?_⟩⟩, fun b => yes (Or.inr b)⟩⟩
  · refine hk _ s (frm_rf _ _ s) ?_
    unfold cfF
    rw [if_neg (by omega), if_neg (by omega), if_pos (show c = 62 ∧ (cfS st s).dp = 0 from ⟨e, f⟩)]
    rfl
  · refine hk _ s1 (by rw [h1]; exact frm_F _ _ (by decide)) ?_
    unfold cfF
    rw [if_neg (by omega), if_pos (show c = 41 ∧ 0 < (cfS st s).dp from ⟨d, e⟩), h1]
    rfl
theorem Ru_afterStart_ok {st c : Int} {s : SS} {Q : Int → SS → Prop} (h : rng c) (hd : rng (s.1 20)) (hk : ∀ v s', frm [19, 20, 21, 22] [] s s' → cf0 (cfS st s) c = cfS v s' → Q v s') : Sp_Ru_afterStart c s Q := by
  intro X14 h14
  refine ⟨hd, fun a => h14 _ _ _ ⟨h, fun b => ⟨by decide, fun _ => hk _ s (frm_rf _ _ s) ?_, fun q => absurd rfl q⟩, fun b => ⟨by decide, fun _ => hk _ s (frm_rf _ _ s) ?_, fun q => absurd rfl q⟩⟩, fun a => h14 _ _ _ ⟨h, fun b => ⟨by decide, fun q => absurd q (by decide), fun _ => Ru_afterOpening_ok (st := st) h (fun v s' hf e => hk v s' hf ?_)⟩, fun b => ⟨by decide, fun q => absurd q (by decide), fun _ => hk _ s (frm_rf _ _ s) ?_⟩⟩⟩
  · unfold cf0
    rw [if_neg b, if_neg (show ¬ (cfS st s).cl < 8 by show ¬ s.1 20 < 8; omega)]
    rfl
  · unfold cf0
    rw [if_pos b, if_neg (show ¬ (cfS st s).cl < 8 by show ¬ s.1 20 < 8; omega)]
    rfl
  · unfold cf0
    rw [if_neg b, if_pos (show (cfS st s).cl < 8 from a)]
    exact e
  · unfold cf0
    rw [if_pos b, if_pos (show (cfS st s).cl < 8 from a)]
    rfl
theorem Ru_after_ok {st c : Int} {s : SS} {Q : Int → SS → Prop} (h : rng c) (hst : rng st) (hd : rng (s.1 19)) (h0 : 0 ≤ s.1 19) (hc : rng (s.1 20)) (hgz : st = 5 → rng (s.1 21) ∧ rng (s.1 22)) (hk : ∀ v s', frm [19, 20, 21, 22] [] s s' → aft (cfS st s) c = cfS v s' → Q v s') : Sp_Ru_after st c s Q := by
  have stay : ∀ v, aft (cfS st s) c = cfS v s → Q v s := fun v e => hk v s (frm_rf _ _ s) e
  have e0 : st = 0 → aft (cfS st s) c = cf0 (cfS st s) c := by intro e; subst e; rfl
  have e1 : st = 1 → aft (cfS st s) c = cfO (cfS st s) c := by intro e; subst e; rfl
  have e6 : st = 6 → aft (cfS st s) c = cfF (cfS st s) c := by intro e; subst e; rfl
  have e5 : st = 5 → aft (cfS st s) c = cf5 (cfS st s) c := by intro e; subst e; rfl
  refine ⟨hst, fun e => Ru_afterStart_ok (st := st) h hc (fun v s' hf q => hk v s' hf (by rw [e0 e]; exact q)), fun e => Ru_afterOpening_ok (st := st) h (fun v s' hf q => hk v s' hf (by rw [e1 e]; exact q)), fun e => ?_, fun e => ?_, fun e => ?_, fun e => ?_, fun e => Ru_afterFact_ok (st := st) h hd h0 (fun v s' hf q => hk v s' hf (by rw [e6 e]; exact q)), fun e => ?_, fun e => ?_, fun e => ?_, fun e => ?_, fun e => ?_, fun e => ?_, fun e => ?_, fun a0 a1 a2 a3 a4 a5 a6 a7 a8 a9 a10 a11 a12 a13 => ?_⟩
  · subst e
    refine isB_a (Ru_isSign_B h s) (fun d => stay _ ?_) (fun d => stay _ ?_)
    · show (if sg3 c then _ else _) = _
      rw [if_neg d]; rfl
    · show (if sg3 c then _ else _) = _
      rw [if_pos d]; rfl
  · subst e
    refine ⟨h, fun b => isB_a (Ru_isSign_B h s) (fun d => stay _ ?_) (fun d => stay _ ?_), fun b => stay _ ?_⟩
    · show (if c = 108 then _ else if sg3 c then _ else _) = _
      rw [if_neg b, if_neg d]; rfl
    · show (if c = 108 then _ else if sg3 c then _ else _) = _
      rw [if_neg b, if_pos d]; rfl
    · show (if c = 108 then _ else if sg3 c then _ else _) = _
      rw [if_pos b]; rfl
  · subst e
    refine isB_b (Ru_isDigit_B h s) (fun d => stay _ ?_) (fun d s3 h3 => ⟨h, fun b s4 h4 => hk _ s4 ?_ ?_, fun b s4 h4 => hk _ s4 ?_ ?_⟩)
    · show (if dg10 c then _ else _) = _
      rw [if_neg d]; rfl
    · rw [h4, h3]; exact frm_tr (frm_F _ _ (by decide)) (frm_F _ _ (by decide))
    · show (if dg10 c then Cf.of 5 (s.1 19) (s.1 20) 1 (if c = 48 then 1 else 0) else _) = _
      rw [if_pos d, if_neg b, h4, h3]; rfl
    · rw [h4, h3]; exact frm_tr (frm_F _ _ (by decide)) (frm_F _ _ (by decide))
    · show (if dg10 c then Cf.of 5 (s.1 19) (s.1 20) 1 (if c = 48 then 1 else 0) else _) = _
      rw [if_pos d, if_pos b, h4, h3]; rfl
  · refine isB_a (Ru_isDigit_B h s) (fun d => Ru_afterFact_ok (st := st) h hd h0 (fun v s' hf q => hk v s' hf ?_)) (fun d => ⟨(hgz e).1, fun b => stay _ ?_, fun b => ⟨(hgz e).2, fun f s1 h1 => hk _ s1 ?_ ?_, fun f => stay _ ?_⟩⟩)
    · rw [e5 e]
      unfold cf5
      rw [if_neg d]; exact q
    · rw [e5 e]
      unfold cf5
      rw [if_pos d, if_pos (show 3 ≤ (cfS st s).dg ∨ _ from Or.inl b)]; rfl
    · rw [h1]; exact frm_F _ _ (by decide)
    · rw [e5 e]
      unfold cf5
      rw [if_pos d, if_neg (show ¬ (3 ≤ (cfS st s).dg ∨ ¬ (cfS st s).sz = 0) from fun q => q.elim (fun q => absurd (show 3 ≤ s.1 21 from q) (by omega)) (fun q => q f)), h1]; rfl
    · rw [e5 e]
      unfold cf5
      rw [if_pos d, if_pos (show 3 ≤ (cfS st s).dg ∨ ¬ (cfS st s).sz = 0 from Or.inr f)]; rfl
  · subst e
    refine isB_a (Ru_isDigit_B h s) (fun d => stay _ ?_) (fun d => stay _ ?_)
    · show (if dg10 c then _ else _) = _
      rw [if_neg d]; rfl
    · show (if dg10 c then _ else _) = _
      rw [if_pos d]; rfl
  · subst e
    refine ⟨h, fun b s1 h1 => hk _ s1 (by rw [h1]; exact frm_F _ _ (by decide)) ?_, fun b => stay _ ?_⟩
    · show (if c = 59 then Cf.of 0 (s.1 19) (s.1 20 + 1) (s.1 21) (s.1 22) else _) = _
      rw [if_pos b, h1]; rfl
    · show (if c = 59 then _ else _) = _
      rw [if_neg b]; rfl
  · subst e
    refine ⟨h, fun b => stay _ ?_, fun b => stay _ ?_⟩
    · show (if c = 108 then _ else _) = _
      rw [if_neg b]; rfl
    · show (if c = 108 then _ else _) = _
      rw [if_pos b]; rfl
  · subst e
    refine ⟨h, fun b => stay _ ?_, fun b => stay _ ?_⟩
    · show (if c = 115 then _ else _) = _
      rw [if_neg b]; rfl
    · show (if c = 115 then _ else _) = _
      rw [if_pos b]; rfl
  · subst e
    refine ⟨h, fun b => stay _ ?_, fun b => stay _ ?_⟩
    · show (if c = 101 then _ else _) = _
      rw [if_neg b]; rfl
    · show (if c = 101 then _ else _) = _
      rw [if_pos b]; rfl
  · subst e
    refine ⟨h, fun b => stay _ ?_, fun b => stay _ ?_⟩
    · show (if c = 62 then _ else _) = _
      rw [if_neg b]; rfl
    · show (if c = 62 then _ else _) = _
      rw [if_pos b]; rfl
  · subst e
    refine isB_a (Ru_isDigit_B h s) (fun d => stay _ ?_) (fun d => stay _ ?_)
    · show (if dg10 c then _ else _) = _
      rw [if_neg d]; rfl
    · show (if dg10 c then _ else _) = _
      rw [if_pos d]; rfl
  · refine stay _ ?_
    unfold aft
    repeat (rw [if_neg (by assumption)])
    rfl
/-- the text on the tape -/
def tpx (s : SS) (i : Int) : Int := if 0 ≤ i ∧ i < s.1 30 then s.2 63 i else -1
theorem Ru_check_ok {s : SS} {Q : Int → SS → Prop} (ht : iTape s) (hk : ∀ r s', rng r → frm [19, 20, 21, 22] [] s s' → chkR (s.1 21, s.1 22) (tpx s) (s.1 30).toNat r → Q r s') : Sp_Ru_check s Q := by
  obtain ⟨t1, t2, t3⟩ := ht
  intro X14 h14 s1 h1 s2 h2
  have key : ∀ (t : Nat) (k : Nat) (st : Int) (s3 : SS), (k : Int) ≤ s.1 3 → s.1 3 - k < t → frm [19, 20, 21, 22] [] s s3 → run (s.1 21, s.1 22) (tpx s) k = cfS st s3 → st ≠ -1 → X14 st k s3 := by
    intro t
    induction t with
    | zero => intro k st s3 a b; omega
    | succ t ih =>
      intro k st s3 k1 kt hf he hns
      have hb := run_b (s.1 21, s.1 22) (tpx s) k
      rw [he] at hb
      obtain ⟨⟨b1, b2⟩, ⟨b3, b4⟩, ⟨b5, b6, b7⟩, b8⟩ := hb
      have b1 : -1 ≤ st := b1
      have b2 : st ≤ 14 := b2
      have b3 : 0 ≤ s3.1 19 := b3
      have b4 : s3.1 19 ≤ k := b4
      have b5 : 0 ≤ s3.1 20 := b5
      have b6 : s3.1 20 ≤ 8 := b6
      have b8 : st = 5 → 1 ≤ s3.1 21 ∧ s3.1 21 ≤ 3 ∧ (s3.1 22 = 0 ∨ s3.1 22 = 1) := b8
      have e3 : s3.1 3 = s.1 3 := hf.1 3 rfl
      refine h14 _ _ _ ?_
      unfold B_Ru_check_14 Sp_Ta_size
      rw [e3]
      have q0 : rng (k : Int) := ⟨by omega, by omega⟩
      have q1 : rng (s.1 3) := ⟨by omega, by omega⟩
      have q2 : rng st := ⟨by omega, by omega⟩
      refine ⟨q0, q1, fun c => ⟨q2, fun e => ?_, fun e => ?_⟩, fun c => ?_⟩
      · rw [e3]
        refine hk _ s3 ⟨by omega, by omega⟩ hf ?_
        rw [show (s.1 30).toNat = k by omega]
        refine Or.inr ⟨by rw [he]; exact hns, fun q => ?_, fun _ => by omega⟩
        rw [he] at q
        exact absurd q e
      · refine hk _ s3 ⟨by omega, by omega⟩ hf ?_
        rw [show (s.1 30).toNat = k by omega]
        refine Or.inr ⟨by rw [he]; exact hns, fun _ => by rw [he]; rfl, fun q => ?_⟩
        rw [he] at q
        exact absurd e q
      · refine ⟨q0, fun d => by omega, fun _ => ⟨q0, by rw [e3]; exact q1, fun _ => ⟨⟨by omega, by omega⟩, ?_⟩, fun d => by rw [e3] at d; omega⟩⟩
        obtain ⟨u1, u2, u3⟩ := t3 k (by omega) c
        have e5 : s3.2 5 = s.2 5 := hf.2 5 rfl
        have et : tpx s k = bnd (s.2 5 k) 255 := by
          unfold tpx
          rw [if_pos ⟨by omega, by omega⟩, u1]
        rw [e5]
        refine Ru_after_ok (by rw [← u1]; exact ⟨by omega, by omega⟩) q2 ⟨by omega, by omega⟩ b3 ⟨by omega, by omega⟩ (fun e => ?_) (fun v s4 hf4 e4 => ?_)
        · have := b8 e
          exact ⟨⟨by omega, by omega⟩, by omega, by omega⟩
        · have er : run (s.1 21, s.1 22) (tpx s) (k + 1) = cfS v s4 := by
            show aft (run (s.1 21, s.1 22) (tpx s) k) (tpx s k) = _
            rw [he, et]
            exact e4
          have hb4 := (run_b (s.1 21, s.1 22) (tpx s) (k + 1)).1
          rw [er] at hb4
          have hv : -1 ≤ v ∧ v ≤ 14 := hb4
          refine ⟨⟨by omega, by omega⟩, fun d => ?_, fun d => ?_⟩
          · exact ih (k + 1) v s4 (by omega) (by omega) (frm_tr hf hf4) er d
          · refine hk _ s4 ⟨by omega, by omega⟩ (frm_tr hf hf4) (Or.inl ⟨k, by omega, by rw [he]; exact hns, by rw [er]; exact d, rfl⟩)
  exact key (s.1 3 + 1).toNat 0 0 s2 (by omega) (by omega) (by rw [h2, h1]; exact frm_tr (frm_F _ _ (by decide)) (frm_F _ _ (by decide))) (by rw [h2, h1]; rfl) (by decide)
end
