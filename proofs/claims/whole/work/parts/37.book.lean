section
/-! THE BOOK: the entries of the model, and when the class's rows came -/
def cntE (f : Int → Int) (t : Int) : Nat → Int
  | 0 => 0
  | n + 1 => cntE f t n + if f n = t then 1 else 0
theorem cntE_s (f : Int → Int) (t : Int) (n : Nat) : cntE f t (n + 1) = cntE f t n + if f n = t then 1 else 0 := rfl
theorem cntE_mono (f : Int → Int) (t : Int) {m n : Nat} (h : m ≤ n) : cntE f t m ≤ cntE f t n := by
  induction n with
  | zero => rw [show m = 0 by omega]; exact Int.le_refl _
  | succ n ih =>
    by_cases e : m = n + 1
    · rw [e]; exact Int.le_refl _
    · have := ih (by omega)
      rw [cntE_s]
      split <;> omega
theorem cntE_b (f : Int → Int) (t : Int) (n : Nat) : 0 ≤ cntE f t n ∧ cntE f t n ≤ n := by
  induction n with
  | zero => exact ⟨Int.le_refl _, Int.le_refl _⟩
  | succ n ih => rw [cntE_s]; split <;> omega
theorem cntE_up (f : Int → Int) (t u : Int) (E : Int) : ∀ n : Nat, (n : Int) ≤ E → cntE (updF f E u) t n = cntE f t n := by
  intro n
  induction n with
  | zero => intro _; rfl
  | succ n ih =>
    intro h
    rw [cntE_s, cntE_s, ih (by omega)]
    unfold updF
    rw [if_neg (show ¬ (n : Int) = E by omega)]
theorem cntE_upE (f : Int → Int) (t u : Int) {E : Int} (h : 0 ≤ E) : cntE (updF f E u) t (E + 1).toNat = cntE f t E.toNat + if u = t then 1 else 0 := by
  rw [show (E + 1).toNat = E.toNat + 1 by omega, cntE_s, cntE_up f t u E _ (by omega)]
  unfold updF
  rw [if_pos (show ((E.toNat : Nat) : Int) = E by omega)]
/-- n rows came, the k-th by an entry of the kind t at k -/
def bkN (f : Int → Int) (E : Int) (a : Int → Int) (n t : Int) : Prop := cntE f t E.toNat = n ∧ ∀ k, 0 ≤ k → k < n → 0 ≤ a k ∧ a k < E ∧ f (a k) = t ∧ cntE f t (a k).toNat = k
theorem updF_s (f : Int → Int) (p v : Int) : updF f p v p = v := if_pos rfl
theorem updF_n (f : Int → Int) {p x : Int} (v : Int) (h : x ≠ p) : updF f p v x = f x := if_neg h
theorem bkN_o {f a : Int → Int} {E n t u : Int} (h : bkN f E a n t) (hE : 0 ≤ E) (hu : u ≠ t) : bkN (updF f E u) (E + 1) a n t := by
  refine ⟨by rw [cntE_upE f t u hE, if_neg hu, h.1, Int.add_zero], fun k h0 h1 => ?_⟩
  obtain ⟨q1, q2, q3, q4⟩ := h.2 k h0 h1
  refine ⟨q1, by omega, by rw [updF_n _ _ (by omega)]; exact q3, by rw [cntE_up f t u E _ (by omega)]; exact q4⟩
theorem bkN_s {f a : Int → Int} {E n t : Int} (h : bkN f E a n t) (hE : 0 ≤ E) : bkN (updF f E t) (E + 1) (updF a n E) (n + 1) t := by
  have hn : 0 ≤ n := by rw [← h.1]; exact (cntE_b f t _).1
  refine ⟨by rw [cntE_upE f t t hE, if_pos rfl, h.1], fun k h0 h1 => ?_⟩
  by_cases e : k = n
  · subst e
    rw [updF_s]
    exact ⟨hE, by omega, updF_s .., by rw [cntE_up f t t E _ (by omega)]; exact h.1⟩
  · rw [updF_n _ _ e]
    obtain ⟨q1, q2, q3, q4⟩ := h.2 k h0 (by omega)
    refine ⟨q1, by omega, by rw [updF_n _ _ (by omega)]; exact q3, by rw [cntE_up f t t E _ (by omega)]; exact q4⟩
/-- by e there were c rows: the k-th is there iff k < c -/
theorem bkN_by {f a : Int → Int} {E n t : Int} (h : bkN f E a n t) {e k : Int} (e0 : 0 ≤ e) (e1 : e ≤ E) (h0 : 0 ≤ k) (h1 : k < n) : a k < e ↔ k < cntE f t e.toNat := by
  obtain ⟨q1, q2, q3, q4⟩ := h.2 k h0 h1
  constructor
  · intro hlt
    have := cntE_mono f t (show (a k).toNat + 1 ≤ e.toNat by omega)
    rw [cntE_s, if_pos (by rw [show (((a k).toNat : Nat) : Int) = a k by omega]; exact q3), q4] at this
    omega
  · intro hlt
    rcases Int.lt_or_le (a k) e with q | q
    · exact q
    · have := cntE_mono f t (show e.toNat ≤ (a k).toNat by omega)
      omega
theorem bkN_cnt {f a : Int → Int} {E n t : Int} (h : bkN f E a n t) {e : Int} (e0 : 0 ≤ e) (e1 : e ≤ E) : 0 ≤ cntE f t e.toNat ∧ cntE f t e.toNat ≤ n := by
  refine ⟨(cntE_b f t _).1, ?_⟩
  rw [← h.1]
  exact cntE_mono f t (by omega)
/-- joinings and partings -/
def cntD (f : Int → Int) (n : Nat) : Int := cntE f 2 n + cntE f 3 n
def bkD (f a b : Int → Int) (E : Int) (dA dB dK dT : Int → Int) (D : Int) (nm : Int → Int) (N : Int) : Prop := cntD f E.toNat = D ∧ ∀ i, 0 ≤ i → i < D → (0 ≤ dT i ∧ dT i < E) ∧ ((f (dT i) = 2 ∧ dK i = 1) ∨ (f (dT i) = 3 ∧ dK i = 2)) ∧ a (dT i) = dA i ∧ b (dT i) = dB i ∧ cntD f (dT i).toNat = i ∧ (0 ≤ dA i ∧ dA i < N ∧ 0 ≤ dB i ∧ dB i < N ∧ dA i ≠ dB i) ∧ nm (dA i) < dT i ∧ nm (dB i) < dT i
/-- withdrawals -/
def bkW (f a : Int → Int) (E : Int) (dr wt : Int → Int) (W : Int) : Prop := (∀ w, 0 ≤ w → w < W → dr w = 201 ∨ (0 ≤ dr w ∧ dr w < E ∧ f (dr w) = 5 ∧ a (dr w) = w ∧ wt w < dr w)) ∧ ∀ e, 0 ≤ e → e < E → f e = 5 → 0 ≤ a e ∧ a e < W ∧ dr (a e) = e
def bkR (f a : Int → Int) (E : Int) (rt : Int → Int) (R : Int) : Prop := ∀ e, 0 ≤ e → e < E → f e = 6 → 0 ≤ a e ∧ a e < R ∧ rt (a e) = e
/-- the words' own rows -/
def bkO (wi na pl fi la he ro wt : Int → Int) (W : Int) (nm : Int → Int) (N : Int) : Prop := ∀ w, 0 ≤ w → w < W → (0 ≤ wi w ∧ wi w ≤ 29) ∧ (0 ≤ na w ∧ na w < N ∧ nm (na w) < wt w) ∧ (1 ≤ pl w ∧ pl w ≤ 1023) ∧ (0 ≤ fi w ∧ fi w ≤ la w ∧ la w ≤ 999) ∧ (-1 ≤ he w ∧ he w < w) ∧ (0 ≤ ro w ∧ ro w ≤ w ∧ (he w < 0 → ro w = w) ∧ (0 ≤ he w → ro w = ro (he w)))
def iBook (s : SS) : Prop :=
  (s.1 1 = s.1 29 ∧ 0 ≤ s.1 1 ∧ s.1 1 ≤ 200) ∧ (s.1 4 = s.1 31 ∧ 0 ≤ s.1 4 ∧ s.1 4 ≤ 20) ∧ (s.1 7 = s.1 36 ∧ 0 ≤ s.1 7 ∧ s.1 7 ≤ 40) ∧ (s.1 18 = s.1 39 ∧ 0 ≤ s.1 18 ∧ s.1 18 ≤ 20) ∧ (0 ≤ s.1 5 ∧ s.1 5 ≤ s.1 1) ∧
  bkN (s.2 60) (s.1 1) (s.2 8) (s.1 4) 1 ∧ bkN (s.2 60) (s.1 1) (s.2 25) (s.1 7) 4 ∧ bkN (s.2 60) (s.1 1) (s.2 39) (s.1 18) 6 ∧ bkD (s.2 60) (s.2 61) (s.2 62) (s.1 1) (s.2 9) (s.2 10) (s.2 11) (s.2 12) (s.1 5) (s.2 8) (s.1 4) ∧ bkW (s.2 60) (s.2 61) (s.1 1) (s.2 26) (s.2 25) (s.1 7) ∧ bkR (s.2 60) (s.2 61) (s.1 1) (s.2 39) (s.1 18) ∧
  (∀ e, 0 ≤ e → e < s.1 1 → 1 ≤ s.2 60 e ∧ s.2 60 e ≤ 6) ∧
  bkO (s.2 18) (s.2 19) (s.2 20) (s.2 21) (s.2 22) (s.2 23) (s.2 24) (s.2 25) (s.1 7) (s.2 8) (s.1 4) ∧
  (s.2 18 = s.2 75 ∧ s.2 19 = s.2 76 ∧ s.2 20 = s.2 77 ∧ s.2 21 = s.2 78 ∧ s.2 22 = s.2 79 ∧ s.2 23 = s.2 80 ∧ s.2 24 = s.2 81)
def bkSc : List Nat := [1, 29, 4, 31, 7, 36, 18, 39, 5]
def bkAr : List Nat := [60, 61, 62, 8, 25, 39, 9, 10, 11, 12, 26, 18, 19, 20, 21, 22, 23, 24, 75, 76, 77, 78, 79, 80, 81]
theorem iBook_agr {s t : SS} (h : agr bkSc bkAr s t) (q : iBook s) : iBook t := by
  unfold iBook
  rw [h.1 1 (by decide), h.1 29 (by decide), h.1 4 (by decide), h.1 31 (by decide), h.1 7 (by decide), h.1 36 (by decide), h.1 18 (by decide), h.1 39 (by decide), h.1 5 (by decide)]
  rw [h.2 60 (by decide), h.2 61 (by decide), h.2 62 (by decide), h.2 8 (by decide), h.2 25 (by decide), h.2 39 (by decide), h.2 9 (by decide), h.2 10 (by decide), h.2 11 (by decide), h.2 12 (by decide), h.2 26 (by decide), h.2 18 (by decide), h.2 19 (by decide), h.2 20 (by decide), h.2 21 (by decide), h.2 22 (by decide), h.2 23 (by decide), h.2 24 (by decide), h.2 75 (by decide), h.2 76 (by decide), h.2 77 (by decide), h.2 78 (by decide), h.2 79 (by decide), h.2 80 (by decide), h.2 81 (by decide)]
  exact q
/-! one entry more -/
theorem cntD_up (f : Int → Int) (u : Int) (E : Int) (n : Nat) (h : (n : Int) ≤ E) : cntD (updF f E u) n = cntD f n := by unfold cntD; rw [cntE_up f 2 u E n h, cntE_up f 3 u E n h]
theorem bkD_o {f a b dA dB dK dT nm nm' : Int → Int} {E D N N' u x y : Int} (h : bkD f a b E dA dB dK dT D nm N) (hE : 0 ≤ E) (hu : u ≠ 2 ∧ u ≠ 3) (hN : N ≤ N') (hnm : ∀ k, 0 ≤ k → k < N → nm' k = nm k) : bkD (updF f E u) (updF a E x) (updF b E y) (E + 1) dA dB dK dT D nm' N' := by
  refine ⟨?_, fun i h0 h1 => ?_⟩
  · have := h.1
    unfold cntD at this ⊢
    rw [cntE_upE f 2 u hE, cntE_upE f 3 u hE, if_neg hu.1, if_neg hu.2]
    omega
  · obtain ⟨q1, q2, q3, q4, q5, q6, q7, q8⟩ := h.2 i h0 h1
    refine ⟨⟨q1.1, by omega⟩, ?_, ?_, ?_, ?_, ⟨q6.1, by omega, q6.2.2.1, by omega, q6.2.2.2.2⟩, ?_, ?_⟩
    · rw [updF_n _ _ (by omega)]; exact q2
    · rw [updF_n _ _ (by omega)]; exact q3
    · rw [updF_n _ _ (by omega)]; exact q4
    · rw [cntD_up _ _ _ _ (by omega)]; exact q5
    · rw [hnm _ q6.1 q6.2.1]; exact q7
    · rw [hnm _ q6.2.2.1 q6.2.2.2.1]; exact q8
theorem bkD_s {f a b dA dB dK dT nm : Int → Int} {E D N u x y k : Int} (h : bkD f a b E dA dB dK dT D nm N) (hE : 0 ≤ E) (hu : (u = 2 ∧ k = 1) ∨ (u = 3 ∧ k = 2)) (hxy : 0 ≤ x ∧ x < N ∧ 0 ≤ y ∧ y < N ∧ x ≠ y) (hx : nm x < E) (hy : nm y < E) : bkD (updF f E u) (updF a E x) (updF b E y) (E + 1) (updF dA D x) (updF dB D y) (updF dK D k) (updF dT D E) (D + 1) nm N := by
  refine ⟨?_, fun i h0 h1 => ?_⟩
  · have := h.1
    unfold cntD at this ⊢
    rw [cntE_upE f 2 u hE, cntE_upE f 3 u hE]
    rcases hu with ⟨rfl, -⟩ | ⟨rfl, -⟩
    · rw [if_pos rfl, if_neg (by decide)]; omega
    · rw [if_neg (by decide), if_pos rfl]; omega
  · by_cases e : i = D
    · subst e
      rw [updF_s, updF_s, updF_s, updF_s, updF_s, updF_s, updF_s]
      exact ⟨⟨hE, by omega⟩, hu, rfl, rfl, by rw [cntD_up _ _ _ _ (by omega)]; exact h.1, hxy, hx, hy⟩
    · rw [updF_n _ _ e, updF_n _ _ e, updF_n _ _ e, updF_n _ _ e]
      obtain ⟨q1, q2, q3, q4, q5, q6, q7, q8⟩ := h.2 i h0 (by omega)
      refine ⟨⟨q1.1, by omega⟩, ?_, ?_, ?_, ?_, q6, q7, q8⟩
      · rw [updF_n _ _ (by omega)]; exact q2
      · rw [updF_n _ _ (by omega)]; exact q3
      · rw [updF_n _ _ (by omega)]; exact q4
      · rw [cntD_up _ _ _ _ (by omega)]; exact q5
theorem bkW_o {f a dr wt dr' wt' : Int → Int} {E W W' u x : Int} (h : bkW f a E dr wt W) (hu : u ≠ 5) (hW : W ≤ W') (hd : ∀ w, 0 ≤ w → w < W → dr' w = dr w ∧ wt' w = wt w) (hd2 : ∀ w, W ≤ w → w < W' → dr' w = 201) : bkW (updF f E u) (updF a E x) (E + 1) dr' wt' W' := by
  refine ⟨fun w h0 h1 => ?_, fun e h0 h1 h2 => ?_⟩
  · by_cases hw : w < W
    · rw [(hd w h0 hw).1, (hd w h0 hw).2]
      rcases h.1 w h0 hw with q | ⟨q1, q2, q3, q4, q5⟩
      · exact Or.inl q
      · exact Or.inr ⟨q1, by omega, by rw [updF_n _ _ (by omega)]; exact q3, by rw [updF_n _ _ (by omega)]; exact q4, q5⟩
    · exact Or.inl (hd2 w (by omega) h1)
  · by_cases e1 : e = E
    · subst e1
      rw [updF_s] at h2
      exact absurd h2 hu
    · rw [updF_n _ _ e1] at h2
      obtain ⟨q1, q2, q3⟩ := h.2 e h0 (by omega) h2
      rw [updF_n _ _ e1]
      exact ⟨q1, by omega, by rw [(hd _ q1 q2).1]; exact q3⟩
theorem bkW_s {f a dr wt : Int → Int} {E W x : Int} (h : bkW f a E dr wt W) (hE : 0 ≤ E) (hx : 0 ≤ x ∧ x < W) (hwx : wt x < E) (hn : dr x = 201) (hE2 : E < 200) : bkW (updF f E 5) (updF a E x) (E + 1) (updF dr x E) wt W := by
  refine ⟨fun w h0 h1 => ?_, fun e h0 h1 h2 => ?_⟩
  · by_cases hw : w = x
    · subst hw
      rw [updF_s]
      exact Or.inr ⟨hE, by omega, updF_s .., updF_s .., hwx⟩
    · rw [updF_n _ _ hw]
      rcases h.1 w h0 h1 with q | ⟨q1, q2, q3, q4, q5⟩
      · exact Or.inl q
      · exact Or.inr ⟨q1, by omega, by rw [updF_n _ _ (by omega)]; exact q3, by rw [updF_n _ _ (by omega)]; exact q4, q5⟩
  · by_cases e1 : e = E
    · subst e1
      rw [updF_s, updF_s]
      exact ⟨hx.1, hx.2, rfl⟩
    · rw [updF_n _ _ e1] at h2 ⊢
      obtain ⟨q1, q2, q3⟩ := h.2 e h0 (by omega) h2
      refine ⟨q1, q2, ?_⟩
      rw [updF_n _ _ (fun q => by rw [q, hn] at q3; omega)]
      exact q3
theorem bkR_o {f a rt : Int → Int} {E R u x : Int} (h : bkR f a E rt R) (hu : u ≠ 6) : bkR (updF f E u) (updF a E x) (E + 1) rt R := by
  intro e h0 h1 h2
  by_cases e1 : e = E
  · subst e1
    rw [updF_s] at h2
    exact absurd h2 hu
  · rw [updF_n _ _ e1] at h2 ⊢
    exact h e h0 (by omega) h2
theorem bkR_s {f a rt : Int → Int} {E R : Int} (h : bkR f a E rt R) (hR : 0 ≤ R) : bkR (updF f E 6) (updF a E R) (E + 1) (updF rt R E) (R + 1) := by
  intro e h0 h1 h2
  by_cases e1 : e = E
  · subst e1
    rw [updF_s, updF_s]
    exact ⟨hR, by omega, rfl⟩
  · rw [updF_n _ _ e1] at h2 ⊢
    obtain ⟨q1, q2, q3⟩ := h e h0 (by omega) h2
    refine ⟨q1, by omega, ?_⟩
    rw [updF_n _ _ (by omega)]
    exact q3
theorem typ_o {f : Int → Int} {E u : Int} (h : ∀ e, 0 ≤ e → e < E → 1 ≤ f e ∧ f e ≤ 6) (hu : 1 ≤ u ∧ u ≤ 6) : ∀ e, 0 ≤ e → e < E + 1 → 1 ≤ updF f E u e ∧ updF f E u e ≤ 6 := by
  intro e h0 h1
  by_cases e1 : e = E
  · subst e1; rw [updF_s]; exact hu
  · rw [updF_n _ _ e1]; exact h e h0 (by omega)
theorem bkO_nm {wi na pl fi la he ro wt nm nm' : Int → Int} {W N N' : Int} (h : bkO wi na pl fi la he ro wt W nm N) (hN : N ≤ N') (hnm : ∀ k, 0 ≤ k → k < N → nm' k = nm k) : bkO wi na pl fi la he ro wt W nm' N' := by
  intro w h0 h1
  obtain ⟨q1, q2, q3, q4, q5, q6⟩ := h w h0 h1
  exact ⟨q1, ⟨q2.1, by omega, by rw [hnm _ q2.1 q2.2.1]; exact q2.2.2⟩, q3, q4, q5, q6⟩
/-- the model writes an entry -/
theorem Md_enters_ok {u x y : Int} {s : SS} {Q : SS → Prop} (h : 0 ≤ s.1 29 ∧ s.1 29 < 200) (hk : ∀ s', frm [29] [60, 61, 62] s s' → s'.1 29 = s.1 29 + 1 → s'.2 60 = updF (s.2 60) (s.1 29) u → s'.2 61 = updF (s.2 61) (s.1 29) x → s'.2 62 = updF (s.2 62) (s.1 29) y → Q s') : Sp_Md_enters u x y s Q := by
  refine ⟨h, fun s1 h1 => ?_⟩
  have e1 : s1.1 29 = s.1 29 := by rw [h1, sA_1]
  rw [e1]
  refine ⟨h, fun s2 h2 => ?_⟩
  have e2 : s2.1 29 = s.1 29 := by rw [h2, sA_1, e1]
  rw [e2]
  refine ⟨h, fun s3 h3 s4 h4 => ?_⟩
  have e3 : s3.1 29 = s.1 29 := by rw [h3, sA_1, e2]
  refine hk s4 ?_ (by rw [h4, sF_s, e3]) ?_ ?_ ?_
  · rw [h4, h3, h2, h1]
    exact frm_tr (frm_tr (frm_tr (frm_A s _ _ (by decide)) (frm_A _ _ _ (by decide))) (frm_A _ _ _ (by decide))) (frm_F _ _ (by decide))
  · rw [h4, sF_2, h3, sA_n _ _ _ (by decide), h2, sA_n _ _ _ (by decide), h1, sA_u]
  · rw [h4, sF_2, h3, sA_n _ _ _ (by decide), h2, sA_u, h1, sA_n _ _ _ (by decide)]
  · rw [h4, sF_2, h3, sA_u, h2, sA_n _ _ _ (by decide), h1, sA_n _ _ _ (by decide)]
theorem LS_bookIsFull_B {s : SS} (h : 0 ≤ s.1 1 ∧ s.1 1 ≤ 200) : isB (s.1 1 = 200) s (Sp_LS_bookIsFull s) := by
  intro K h1 h0
  exact ⟨⟨by omega, by omega⟩, fun c => h0 (by omega), fun c => h1 (by omega)⟩
theorem LS_isNameBy_B {x e : Int} {s : SS} (hx : rng x) (he : rng e) (h : iBook s) : isB (0 ≤ x ∧ x < s.1 4 ∧ s.2 8 x < e) s (Sp_LS_isNameBy x e s) := by
  intro K h1 h0
  obtain ⟨b1, b2, b3, b4, b5, b6, -⟩ := h
  refine ⟨hx, fun c => h0 (by omega), fun c => ⟨hx, ⟨by omega, by omega⟩, fun d => h0 (by omega), fun d => ⟨⟨by omega, by omega⟩, ?_⟩⟩⟩
  obtain ⟨q1, q2, q3, q4⟩ := b6.2 x c d
  exact ⟨⟨by omega, by omega⟩, he, fun f => h0 (by omega), fun f => h1 ⟨c, d, f⟩⟩
theorem LS_isName_B {x : Int} {s : SS} (hx : rng x) (h : iBook s) : isB (0 ≤ x ∧ x < s.1 4) s (Sp_LS_isName x s) := by
  intro K h1 h0
  have b1 := h.1
  have b6 := h.2.2.2.2.2.1
  refine LS_isNameBy_B hx ⟨by omega, by omega⟩ h _ (fun q => ⟨Or.inr rfl, h1 ⟨q.1, q.2.1⟩⟩) (fun q => ⟨Or.inl rfl, h0 (fun c => q ⟨c.1, c.2, ?_⟩)⟩)
  exact (b6.2 x c.1 c.2).2.1
theorem Md_isName_B {x : Int} {s : SS} (hx : rng x) (h : iBook s) : isB (0 ≤ x ∧ x < s.1 4) s (Sp_Md_isName x s) := by
  intro K h1 h0
  have b2 := h.2.1
  refine ⟨hx, fun c => h0 (by omega), fun c => ⟨hx, ⟨by omega, by omega⟩, fun d => h0 (by omega), fun d => h1 (by omega)⟩⟩
theorem Md_isWord_B {x : Int} {s : SS} (hx : rng x) (h : iBook s) : isB (0 ≤ x ∧ x < s.1 7) s (Sp_Md_isWord x s) := by
  intro K h1 h0
  have b2 := h.2.2.1
  refine ⟨hx, fun c => h0 (by omega), fun c => ⟨hx, ⟨by omega, by omega⟩, fun d => h0 (by omega), fun d => h1 (by omega)⟩⟩
/-- the book grows at its end -/
def grw (s t : SS) : Prop := s.1 29 ≤ t.1 29 ∧ ∀ x, 0 ≤ x → x < s.1 29 → t.2 60 x = s.2 60 x
theorem grw_rf (s : SS) : grw s s := ⟨Int.le_refl _, fun _ _ _ => rfl⟩
theorem grw_f {s t : SS} (h : t.1 29 = s.1 29) (g : t.2 60 = s.2 60) : grw s t := ⟨by omega, fun _ _ _ => by rw [g]⟩
theorem grw_u {s t : SS} {E u : Int} (h : t.2 60 = updF (s.2 60) E u) (hE : E = s.1 29) (h29 : t.1 29 = s.1 29 + 1) : grw s t := ⟨by omega, fun x _ x1 => by rw [h, updF_n _ _ (by omega)]⟩
end
