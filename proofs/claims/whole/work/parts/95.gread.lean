section
/-! GRAVES: who is one with whom, and what each set can get -/
def fst1 (s : SS) (P : Int → Int) (m r : Int) : Prop := (0 ≤ r ∧ r ≤ m) ∧ P (s.2 52 r) = P (s.2 52 m) ∧ ∀ k, 0 ≤ k → k < r → P (s.2 52 k) ≠ P (s.2 52 m)
theorem fst1_eq {s : SS} {P : Int → Int} {m m' r r' : Int} (h : fst1 s P m r) (h' : fst1 s P m' r') : r = r' ↔ P (s.2 52 m) = P (s.2 52 m') := by
  obtain ⟨a1, a2, a3⟩ := h
  obtain ⟨b1, b2, b3⟩ := h'
  constructor
  · intro e; rw [← a2, ← b2, e]
  · intro e
    rcases Int.lt_trichotomy r r' with q | q | q
    · exact absurd (a2.trans e) (b3 r a1.1 q)
    · exact q
    · exact absurd (b2.trans e.symm) (a3 r' b1.1 q)
def mayG (s : SS) (P : Int → Int) (k m : Int) : Prop := (0 ≤ s.2 50 k ∧ s.2 50 k = m) ∨ (s.2 50 k < 0 ∧ fitD s k m ∧ ∀ o, 0 ≤ o → o < s.1 25 → 0 ≤ s.2 50 o → P (s.2 52 (s.2 50 o)) ≠ P (s.2 52 m))
def chs (s : SS) (P : Int → Int) (t : SS) : Prop := (∀ m, 0 ≤ m → m < s.1 27 → fst1 s P m (t.2 56 m)) ∧ ∀ k, 0 ≤ k → k < s.1 25 → (0 ≤ t.2 57 k ∧ t.2 57 k < 1024) ∧ ∀ m, 0 ≤ m → m < 10 → ((t.2 57 k).toNat.testBit m.toNat = true ↔ m < s.1 27 ∧ mayG s P k m)
theorem iGrv_agr {n : Int} {s t : SS} (h : agr gvSc gvAr s t) (q : iGrv n s) : iGrv n t := by
  unfold iGrv
  rw [h.1 4 (by decide), h.1 25 (by decide), h.1 26 (by decide), h.1 27 (by decide), h.1 46 (by decide), h.1 47 (by decide), h.1 48 (by decide), h.2 45 (by decide), h.2 46 (by decide), h.2 47 (by decide), h.2 48 (by decide), h.2 49 (by decide), h.2 50 (by decide), h.2 51 (by decide), h.2 52 (by decide), h.2 53 (by decide), h.2 54 (by decide), h.2 55 (by decide), h.2 99 (by decide), h.2 100 (by decide), h.2 101 (by decide), h.2 102 (by decide), h.2 103 (by decide), h.2 104 (by decide), h.2 105 (by decide), h.2 106 (by decide), h.2 107 (by decide), h.2 108 (by decide), h.2 109 (by decide)]
  exact q
theorem fitD_agr {s t : SS} (h : agr gvSc gvAr s t) (k m : Int) : fitD t k m ↔ fitD s k m := by
  unfold fitD
  rw [h.2 46 (by decide), h.2 47 (by decide), h.2 48 (by decide), h.2 49 (by decide), h.2 53 (by decide), h.2 54 (by decide), h.2 55 (by decide)]
theorem Gr_canGet_B {n k m : Int} {s t : SS} {P : Int → Int} (h : iGrv n s) (hag : agr gvSc gvAr s t) (h56 : ∀ m, 0 ≤ m → m < s.1 27 → fst1 s P m (t.2 56 m)) (k0 : 0 ≤ k) (k1 : k < s.1 25) (m0 : 0 ≤ m) (m1 : m < s.1 27) : isB (mayG s P k m) t (Sp_Gr_canGet k m t) := by
  obtain ⟨g1, g2, g3, g4, g5, g6, g7⟩ := id h
  intro K c1 c0
  have e50 : t.2 50 = s.2 50 := hag.2 50 (by decide)
  have e25 : t.1 25 = s.1 25 := hag.1 25 (by decide)
  have e27 : t.1 27 = s.1 27 := hag.1 27 (by decide)
  have a6 := (g4 k k0 k1).2.2.2.2.2
  have r50 : rng (s.2 50 k) := by rcases a6 with z | z <;> exact ⟨by omega, by omega⟩
  refine ⟨⟨by omega, by omega⟩, by rw [e50]; exact r50, fun c => ?_, fun c => ⟨⟨by omega, by omega⟩, by rw [e50]; exact r50, ⟨by omega, by omega⟩, fun d => c0 (fun q => ?_), fun d => c1 (Or.inl ?_)⟩⟩
  · rw [e50] at c
    refine isB_a (Gr_suits_B (iGrv_agr hag h) k0 (by rw [e25]; exact k1) m0 (by rw [e27]; exact m1)) (fun nf => c0 (fun q => ?_)) (fun yf => ?_)
    · rcases q with q | q
      · omega
      · exact nf ((fitD_agr hag k m).mpr q.2.1)
    · have yf := (fitD_agr hag k m).mp yf
      have bar : isB (∃ o, 0 ≤ o ∧ o < s.1 25 ∧ 0 ≤ s.2 50 o ∧ P (s.2 52 (s.2 50 o)) = P (s.2 52 m)) t (Sp_Gr_isBarred m t) := by
        intro K' d1 d0 X2 g2'
        have key : ∀ (b : Nat) (o : Int), 0 ≤ o → o ≤ s.1 25 → s.1 25 - o < b → (∀ x, 0 ≤ x → x < o → ¬ (0 ≤ s.2 50 x ∧ P (s.2 52 (s.2 50 x)) = P (s.2 52 m))) → X2 m o t := by
          intro b
          induction b with
          | zero => intro o a b' c'; omega
          | succ b ih =>
            intro o o0 o1 ob hno
            have nx : ¬ (0 ≤ s.2 50 o ∧ P (s.2 52 (s.2 50 o)) = P (s.2 52 m)) → o < s.1 25 → X2 m (o + 1) t := fun hn ho => ih (o + 1) (by omega) (by omega) (by omega) (fun x x0 x1 => by
              by_cases z : x = o
              · rw [z]; exact hn
              · exact hno x x0 (by omega))
            refine g2' _ _ _ ⟨⟨by omega, by omega⟩, by rw [e25]; exact ⟨by omega, by omega⟩, fun f => d0 (fun q => ?_), fun f => ?_⟩
            · obtain ⟨x, x0, x1, x2⟩ := q
              exact hno x x0 (by omega) x2
            · rw [e25] at f
              have b6 := (g4 o o0 f).2.2.2.2.2
              rw [e50]
              refine ⟨⟨by omega, by omega⟩, by rcases b6 with z | z <;> exact ⟨by omega, by omega⟩, fun z => nx (fun q => by omega) f, fun z => ?_⟩
              have b6 : 0 ≤ s.2 50 o ∧ s.2 50 o < s.1 27 := by rcases b6 with y | y; omega; exact ⟨y.1, y.2.1⟩
              have w1 := h56 _ b6.1 b6.2
              have w2 := h56 m m0 m1
              have weq := fst1_eq w1 w2
              have w11 := w1.1
              have w21 := w2.1
              exact ⟨⟨by omega, by omega⟩, by omega, by omega, ⟨by omega, by omega⟩, ⟨by omega, by omega⟩, fun y => nx (fun q => y (weq.mpr q.2)) f, fun y => d1 ⟨o, o0, f, z, weq.mp y⟩⟩
        exact key (s.1 25 + 1).toNat 0 (by omega) (by omega) (by omega) (fun x a b => by omega)
      refine isB_b bar (fun nb => c1 (Or.inr ⟨c, yf, fun o o0 o1 o2 q => nb ⟨o, o0, o1, o2, q⟩⟩)) (fun yb => c0 (fun q => ?_))
      obtain ⟨o, o0, o1, o2, o3⟩ := yb
      rcases q with q | q
      · omega
      · exact q.2.2 o o0 o1 o2 o3
  · rw [e50] at c d
    rcases q with q | q
    · exact d q.2
    · omega
  · rw [e50] at c d
    exact ⟨c, d⟩
theorem Gr_readChoices_ok {n : Int} {s : SS} {Q : SS → Prop} (hb : iBook s) (hy : iKeys s) (h : iGrv n s) (hk : ∀ t P, frm [6] [13, 14, 15, 56, 57] s t → dg s t → isP (linked s (s.1 1)) (nmBy s (s.1 1)) P → chs s P t → Q t) : Sp_Gr_readChoices (s.1 1) s Q := by
  have b1 := hb.1
  have b2 := hb.2.1
  have hnm : nmBy s (s.1 1) = s.1 4 := hb.2.2.2.2.2.1.1
  obtain ⟨g1, g2, g3, g4, g5, g6, g7⟩ := id h
  intro X10 X37 X54 h10 h37 h54
  refine Na_readBy_ok hb hy b1.2.1 (Int.le_refl _) (fun s1 hf1 p6 _ hP hd => ?_)
  have fin : ∀ t, frm [] [56, 57] s1 t → chs s (s1.2 14) t → Q t := fun t ht hc => hk t (s1.2 14) (frm_tr (frm_mono hf1 (by decide) (by decide)) (frm_mono ht (by decide) (by decide))) (dg_tr hd (fun u _ _ => by rw [ht.2 13 rfl])) hP hc
  have ag : ∀ t, frm [] [56, 57] s1 t → agr gvSc gvAr s t := fun t ht => agr_of (frm_tr (frm_mono hf1 (ks' := [6]) (js' := [13, 14, 15, 56, 57]) (by decide) (by decide)) (frm_mono ht (by decide) (by decide))) (by decide)
  have nmr : ∀ m, 0 ≤ m → m < s.1 27 → (0 ≤ s.2 52 m ∧ s.2 52 m < s.1 4) ∧ (0 ≤ s1.2 14 (s.2 52 m) ∧ s1.2 14 (s.2 52 m) < 20) := fun m m0 m1 => by
    have x := (g6 m m0 m1).1
    have := hP.2.1 (s.2 52 m) x.2.1 (by rw [hnm]; exact x.2.2)
    exact ⟨x.2, by omega⟩
  -- what they can get
  have l37 : ∀ (b : Nat) (k : Int) (t : SS), 0 ≤ k → k ≤ s.1 25 → s.1 25 - k < b → frm [] [56, 57] s1 t → (∀ m, 0 ≤ m → m < s.1 27 → fst1 s (s1.2 14) m (t.2 56 m)) → (∀ x, 0 ≤ x → x < k → (0 ≤ t.2 57 x ∧ t.2 57 x < 1024) ∧ ∀ m, 0 ≤ m → m < 10 → ((t.2 57 x).toNat.testBit m.toNat = true ↔ m < s.1 27 ∧ mayG s (s1.2 14) x m)) → X37 k t := by
    intro b
    induction b with
    | zero => intro k t a b' c; omega
    | succ b ih =>
      intro k t k0 k1 kb hft h56 h57
      have a := ag t hft
      have e25 : t.1 25 = s.1 25 := a.1 25 (by decide)
      refine h37 _ _ ⟨⟨by omega, by omega⟩, by rw [e25]; exact ⟨by omega, by omega⟩, fun c => fin t hft ⟨h56, fun x x0 x1 => h57 x x0 (by omega)⟩, fun c => ?_⟩
      rw [e25] at c
      refine ⟨by omega, fun s5 h5 => ?_⟩
      have inner : ∀ (b' : Nat) (m : Int) (u : SS), 0 ≤ m → m ≤ s.1 27 → s.1 27 - m < b' → frm [] [57] t u → (∀ x, x ≠ k → u.2 57 x = t.2 57 x) → (0 ≤ u.2 57 k ∧ u.2 57 k < 1024) → (∀ x, 0 ≤ x → x < 10 → ((u.2 57 k).toNat.testBit x.toNat = true ↔ x < m ∧ mayG s (s1.2 14) k x)) → X54 k m u := by
        intro b'
        induction b' with
        | zero => intro m u a b' c; omega
        | succ b' ih2 =>
          intro m u m0 m1 mb hfu hoth hr hbits
          have hfu1 : frm [] [56, 57] s1 u := frm_tr hft (frm_mono hfu (by decide) (by decide))
          have a2 := ag u hfu1
          have e27 : u.1 27 = s.1 27 := a2.1 27 (by decide)
          have h56u : ∀ m, 0 ≤ m → m < s.1 27 → fst1 s (s1.2 14) m (u.2 56 m) := fun m a b => by rw [hfu.2 56 rfl]; exact h56 m a b
          refine h54 _ _ _ ⟨⟨by omega, by omega⟩, by rw [e27]; exact ⟨by omega, by omega⟩, fun d => ?_, fun d => ?_⟩
          · rw [e27] at d
            have em : m = s.1 27 := by omega
            refine ih (k + 1) u (by omega) (by omega) (by omega) hfu1 h56u (fun x x0 x1 => ?_)
            by_cases z : x = k
            · rw [z]
              refine ⟨hr, fun y y0 y1 => ?_⟩
              rw [hbits y y0 y1, em]
            · rw [hoth x z]; exact h57 x x0 (by omega)
          · rw [e27] at d
            refine isB_a (Gr_canGet_B h a2 h56u k0 c m0 d) (fun no => ?_) (fun yes => ⟨by omega, by omega, fun s8 h8 => ?_⟩)
            · refine ih2 (m + 1) u (by omega) (by omega) (by omega) hfu hoth hr (fun x x0 x1 => ?_)
              rw [hbits x x0 x1]
              constructor
              · rintro ⟨q1, q2⟩; exact ⟨by omega, q2⟩
              · rintro ⟨q1, q2⟩
                refine ⟨?_, q2⟩
                by_cases z : x = m
                · rw [z] at q2; exact absurd q2 no
                · omega
            · obtain ⟨o1, o2, o3⟩ := bor1_ok hr.1 hr.2 m0 (show m < 10 by omega)
              have e57 : s8.2 57 = updF (u.2 57) k (bor (u.2 57 k) (shl 1 m)) := by rw [h8, sA_u]
              refine ih2 (m + 1) s8 (by omega) (by omega) (by omega) (by rw [h8]; exact frm_tr hfu (frm_A _ _ _ (by decide))) (fun x hx => by rw [e57, updF_n _ _ hx]; exact hoth x hx) (by rw [e57, updF_s]; exact o1) (fun x x0 x1 => ?_)
              rw [e57, updF_s, o3]
              unfold wth
              rw [Bool.or_eq_true, decide_eq_true_eq, hbits x x0 x1]
              constructor
              · rintro (⟨q1, q2⟩ | q)
                · exact ⟨by omega, q2⟩
                · have : x = m := by omega
                  rw [this]; exact ⟨by omega, yes⟩
              · rintro ⟨q1, q2⟩
                by_cases z : x = m
                · exact Or.inr (by omega)
                · exact Or.inl ⟨by omega, q2⟩
      have e5 : s5.2 57 = updF (t.2 57) k 0 := by rw [h5, sA_u]
      refine inner (s.1 27 + 1).toNat 0 s5 (by omega) (by omega) (by omega) (by rw [h5]; exact frm_A _ _ _ (by decide)) (fun x hx => by rw [e5, updF_n _ _ hx]) (by rw [e5, updF_s]; exact ⟨by omega, by omega⟩) (fun x x0 x1 => ?_)
      rw [e5, updF_s, show (0 : Int).toNat = 0 from rfl, Nat.zero_testBit]
      exact ⟨fun q => absurd q (by decide), fun q => by omega⟩
  have l10 : ∀ (b : Nat) (m : Int) (t : SS), 0 ≤ m → m ≤ s.1 27 → s.1 27 - m < b → frm [] [56, 57] s1 t → (∀ x, 0 ≤ x → x < m → fst1 s (s1.2 14) x (t.2 56 x)) → X10 m t := by
    intro b
    induction b with
    | zero => intro m t a b' c; omega
    | succ b ih =>
      intro m t m0 m1 mb hft h56
      have a := ag t hft
      have e27 : t.1 27 = s.1 27 := a.1 27 (by decide)
      refine h10 _ _ ⟨⟨by omega, by omega⟩, by rw [e27]; exact ⟨by omega, by omega⟩, fun c => ?_, fun c => ?_⟩
      · rw [e27] at c
        exact l37 (s.1 25 + 1).toNat 0 t (by omega) (by omega) (by omega) hft (fun x x0 x1 => h56 x x0 (by omega)) (fun x a b => by omega)
      · rw [e27] at c
        have e52 : t.2 52 = s.2 52 := a.2 52 (by decide)
        have e14 : t.2 14 = s1.2 14 := hft.2 14 rfl
        have done : ∀ r, fst1 s (s1.2 14) m r → (0 ≤ m ∧ m < 10) ∧ ∀ s4, s4 = sA t 56 m r → X10 (m + 1) s4 := fun r hr => by
          refine ⟨by omega, fun s4 h4 => ih (m + 1) s4 (by omega) (by omega) (by omega) (by rw [h4]; exact frm_tr hft (frm_A _ _ _ (by decide))) (fun x x0 x1 => ?_)⟩
          rw [h4, sA_s]
          by_cases z : x = m
          · rw [if_pos z, z]; exact hr
          · rw [if_neg z]; exact h56 x x0 (by omega)
        intro X2 h2
        have w : ∀ (b' : Nat) (k : Int), 0 ≤ k → k ≤ m → m - k < b' → (∀ x, 0 ≤ x → x < k → s1.2 14 (s.2 52 x) ≠ s1.2 14 (s.2 52 m)) → X2 m k t := by
          intro b'
          induction b' with
          | zero => intro k a b' c; omega
          | succ b' ih2 =>
            intro k k0 k1 kb hno
            have x1 := nmr k k0 (by omega)
            have x2 := nmr m m0 c
            refine h2 _ _ _ ⟨⟨by omega, by omega⟩, ⟨by omega, by omega⟩, fun d => done m ⟨⟨by omega, by omega⟩, rfl, fun x x0 x1 => hno x x0 (by omega)⟩, fun d => ⟨by omega, ?_⟩⟩
            rw [e52]
            refine ⟨by omega, by omega, ?_⟩
            rw [e52]
            refine ⟨by omega, ?_⟩
            rw [e14]
            exact ⟨⟨by omega, by omega⟩, ⟨by omega, by omega⟩, fun z => ih2 (k + 1) (by omega) (by omega) (by omega) (fun x x0 x1 => by
              by_cases y : x = k
              · rw [y]; exact z
              · exact hno x x0 (by omega)), fun z => done k ⟨⟨by omega, by omega⟩, z, hno⟩⟩
        exact w (m + 1).toNat 0 (by omega) (by omega) (by omega) (fun x a b => by omega)
  exact l10 (s.1 27 + 1).toNat 0 s1 (by omega) (by omega) (by omega) (frm_rf _ _ _) (fun x a b => by omega)
/-! the model -/
def mgSc : List Nat := [46, 47]
def mgAr : List Nat := [99, 100, 101, 102, 103, 104, 106, 107, 108, 109]
theorem Md_fits_C {n k m : Int} {s t : SS} (h : iGrv n s) (hag : agr mgSc mgAr s t) (k0 : 0 ≤ k) (k1 : k < s.1 25) (m0 : 0 ≤ m) (m1 : m < s.1 27) : isB (fitD s k m) t (Sp_Md_fits k m t) := by
  intro K h1 h0
  obtain ⟨g1, g2, g3, g4, g5, g6, g7⟩ := h
  obtain ⟨a1, a2, a3, a4, ⟨a51, a52, a53, a54, a55⟩, a6⟩ := g4 k k0 k1
  obtain ⟨c1, c2, c3, c4⟩ := g6 m m0 m1
  have r1 := bnd_r (x := s.2 48 k) (y := s.2 55 m) a3 ⟨c4.2.1, c4.2.2⟩
  have r2 := bnd_r (x := s.2 49 k) (y := s.2 54 m) a4 ⟨c3.2.1, c3.2.2⟩
  intro X36 h36
  have tail : (s.2 53 m = 0 ∨ (s.2 46 k ≤ s.2 53 m ∧ s.2 53 m ≤ s.2 47 k)) → X36 k m t := fun hh => by
    refine h36 _ _ _ ?_
    unfold B_Md_fits_36
    rw [hag.2 102 (by decide), hag.2 103 (by decide), hag.2 108 (by decide), hag.2 109 (by decide), a54, a55, c3.1, c4.1]
    exact ⟨by omega, by omega, ⟨by omega, by omega⟩, fun z => h0 (fun q => z q.2.1), fun z => ⟨by omega, by omega, ⟨by omega, by omega⟩, fun y => h0 (fun q => y q.2.2), fun y => h1 ⟨hh, z, y⟩⟩⟩
  unfold B_Md_fits_e
  rw [hag.2 107 (by decide), hag.2 100 (by decide), hag.2 101 (by decide), c2.1, a52, a53]
  exact ⟨by omega, ⟨by omega, by omega⟩, fun z => tail (Or.inl z), fun z => ⟨by omega, ⟨by omega, by omega⟩, by omega, ⟨by omega, by omega⟩, by omega, ⟨by omega, by omega⟩, isB_a (Md_isIn_B ⟨by omega, by omega⟩ ⟨by omega, by omega⟩ ⟨by omega, by omega⟩ t) (fun y => h0 (fun q => by have := q.1; omega)) (fun y => tail (Or.inr y))⟩⟩
theorem Md_findFirsts_ok {n : Int} {s t : SS} {P : Int → Int} {Q : SS → Prop} (hb : iBook s) (hy : iKeys t) (h : iGrv n s) (hag : agr mgSc mgAr s t) (hag2 : agr [4, 29, 31] [6, 7, 60, 61, 62, 80] s t) (hP : isP (linked s (s.1 1)) (nmBy s (s.1 1)) P) (hk : ∀ u, frm [33, 34, 35] [67, 68, 69, 70, 72, 110] t u → (∀ a, 0 ≤ a → a < s.1 4 → u.2 72 a = P a) → (∀ m, 0 ≤ m → m < s.1 27 → fst1 s P m (u.2 110 m)) → Q u) : Sp_Md_findFirsts t Q := by
  have b1 := hb.1
  have b2 := hb.2.1
  have hnm : nmBy s (s.1 1) = s.1 4 := hb.2.2.2.2.2.1.1
  obtain ⟨g1, g2, g3, g4, g5, g6, g7⟩ := id h
  intro X10 X20 h10 h20
  unfold B_Md_findFirsts_e
  rw [hag2.1 29 (by decide), ← b1.1]
  refine Md_looks_g (Gh := s) hb hy ⟨fun k hk => hag2.1 k (by revert hk; revert k; decide), fun j hj => hag2.2 j hj⟩ b1.2.1 (Int.le_refl _) (fun u1 hu1 _ _ _ _ y5 _ _ => ?_)
  have hR := y5.1
  have eP : ∀ a, 0 ≤ a → a < s.1 4 → u1.2 72 a = P a := fun a a0 a1 => (isP_uniq hP hR a0 (by rw [hnm]; exact a1)).symm
  have e106 : ∀ m, 0 ≤ m → m < s.1 27 → u1.2 106 m = s.2 52 m := fun m m0 m1 => by rw [hu1.2 106 rfl, hag.2 106 (by decide)]; exact (g6 m m0 m1).1.1
  have e47 : u1.1 47 = s.1 27 := by rw [hu1.1 47 rfl, hag.1 47 (by decide)]; exact g2.1.symm
  have nmr : ∀ m, 0 ≤ m → m < s.1 27 → (0 ≤ s.2 52 m ∧ s.2 52 m < s.1 4) ∧ rng (P (s.2 52 m)) := fun m m0 m1 => by
    have x := (g6 m m0 m1).1
    have := hP.2.1 (s.2 52 m) x.2.1 (by rw [hnm]; exact x.2.2)
    exact ⟨x.2, ⟨by omega, by omega⟩⟩
  have l10 : ∀ (b : Nat) (m : Int) (u : SS), 0 ≤ m → m ≤ s.1 27 → s.1 27 - m < b → frm [] [110] u1 u → (∀ x, 0 ≤ x → x < m → fst1 s P x (u.2 110 x)) → X10 m u := by
    intro b
    induction b with
    | zero => intro m u a b' c; omega
    | succ b ih =>
      intro m u m0 m1 mb hfu h110
      refine h10 _ _ ⟨⟨by omega, by omega⟩, by rw [hfu.1 47 rfl, e47]; exact ⟨by omega, by omega⟩, fun c => ?_, fun c => ?_⟩
      · rw [hfu.1 47 rfl, e47] at c
        exact hk u (frm_tr (frm_mono hu1 (by decide) (by decide)) (frm_mono hfu (by decide) (by decide))) (fun a a0 a1 => by rw [hfu.2 72 rfl]; exact eP a a0 a1) (fun x x0 x1 => h110 x x0 (by omega))
      · rw [hfu.1 47 rfl, e47] at c
        have w : ∀ (b' : Nat) (k : Int), 0 ≤ k → k ≤ m → m - k < b' → (∀ x, 0 ≤ x → x < k → P (s.2 52 x) ≠ P (s.2 52 m)) → X20 m k u := by
          intro b'
          induction b' with
          | zero => intro k a b' c; omega
          | succ b' ih2 =>
            intro k k0 k1 kb hno
            have x1 := nmr k k0 (by omega)
            have x2 := nmr m m0 c
            refine h20 _ _ _ ?_
            unfold B_Md_findFirsts_20
            rw [hfu.2 106 rfl, hfu.2 72 rfl, e106 k k0 (by omega), e106 m m0 c, eP _ x1.1.1 x1.1.2, eP _ x2.1.1 x2.1.2]
            refine ⟨by omega, by omega, by omega, by omega, x1.2, x2.2, fun z => ⟨by omega, fun s2 h2 => ?_⟩, fun z => ?_⟩
            · refine ih (m + 1) s2 (by omega) (by omega) (by omega) (by rw [h2]; exact frm_tr hfu (frm_A _ _ _ (by decide))) (fun x x0 x1 => ?_)
              rw [h2, sA_s]
              by_cases y : x = m
              · rw [if_pos y, y]; exact ⟨⟨by omega, by omega⟩, z, hno⟩
              · rw [if_neg y]; exact h110 x x0 (by omega)
            · by_cases y : k = m
              · rw [y] at z; exact absurd rfl z
              · exact ih2 (k + 1) (by omega) (by omega) (by omega) (fun x x0 x1 => by
                  by_cases y : x = k
                  · rw [y]; exact z
                  · exact hno x x0 (by omega))
        exact w (m + 1).toNat 0 (by omega) (by omega) (by omega) (fun x a b => by omega)
  exact l10 (s.1 27 + 1).toNat 0 u1 (by omega) (by omega) (by omega) (frm_rf _ _ _) (fun x a b => by omega)
theorem Md_mayGet_B {n k m : Int} {s t : SS} {P : Int → Int} (h : iGrv n s) (hN : s.1 4 ≤ 20) (hag : agr mgSc mgAr s t) (h72 : ∀ a, 0 ≤ a → a < s.1 4 → t.2 72 a = P a) (hr : ∀ a, 0 ≤ a → a < s.1 4 → rng (P a)) (k0 : 0 ≤ k) (k1 : k < s.1 25) (m0 : 0 ≤ m) (m1 : m < s.1 27) : isB (mayG s P k m) t (Sp_Md_mayGet k m t) := by
  obtain ⟨g1, g2, g3, g4, g5, g6, g7⟩ := id h
  intro K c1 c0 X43 h43
  have e104 : t.2 104 = s.2 104 := hag.2 104 (by decide)
  have e106 : t.2 106 = s.2 106 := hag.2 106 (by decide)
  have e46 : t.1 46 = s.1 25 := by rw [hag.1 46 (by decide)]; exact g1.1.symm
  have x106 := (g6 m m0 m1).1
  have giv : ∀ o, 0 ≤ o → o < s.1 25 → (s.2 50 o < 0 ∧ s.2 104 o < 0 ∧ s.2 104 o = -1) ∨ (0 ≤ s.2 50 o ∧ s.2 50 o < s.1 27 ∧ s.2 104 o = s.2 52 (s.2 50 o) ∧ 0 ≤ s.2 104 o ∧ s.2 104 o < s.1 4) := fun o o0 o1 => by
    have a6 := (g4 o o0 o1).2.2.2.2.2
    rcases a6 with z | z
    · exact Or.inl ⟨by omega, by omega, z.2⟩
    · have y := (g6 _ z.1 z.2.1).1
      exact Or.inr ⟨z.1, z.2.1, z.2.2.1, by omega, by omega⟩
  have gk := giv k k0 k1
  refine ⟨⟨by omega, by omega⟩, by rw [e104]; rcases gk with z | z <;> exact ⟨by omega, by omega⟩, fun c => ?_, fun c => ?_⟩
  · rw [e104] at c
    have ng : s.2 50 k < 0 := by rcases gk with z | z; exact z.1; omega
    refine isB_b (Md_fits_C h hag k0 k1 m0 m1) (fun nf => c0 (fun q => ?_)) (fun yf => ?_)
    · rcases q with q | q
      · omega
      · exact nf q.2.1
    · have key : ∀ (b : Nat) (o : Int), 0 ≤ o → o ≤ s.1 25 → s.1 25 - o < b → (∀ x, 0 ≤ x → x < o → ¬ (0 ≤ s.2 50 x ∧ P (s.2 52 (s.2 50 x)) = P (s.2 52 m))) → X43 m o t := by
        intro b
        induction b with
        | zero => intro o a b' c'; omega
        | succ b ih =>
          intro o o0 o1 ob hno
          have nx : ¬ (0 ≤ s.2 50 o ∧ P (s.2 52 (s.2 50 o)) = P (s.2 52 m)) → o < s.1 25 → X43 m (o + 1) t := fun hn ho => ih (o + 1) (by omega) (by omega) (by omega) (fun x x0 x1 => by
            by_cases z : x = o
            · rw [z]; exact hn
            · exact hno x x0 (by omega))
          refine h43 _ _ _ ⟨⟨by omega, by omega⟩, by rw [e46]; exact ⟨by omega, by omega⟩, fun f => c1 (Or.inr ⟨ng, yf, fun x x0 x1 x2 q => hno x x0 (by omega) ⟨x2, q⟩⟩), fun f => ?_⟩
          rw [e46] at f
          have go := giv o o0 f
          rw [e104, e106]
          refine ⟨⟨by omega, by omega⟩, by rcases go with z | z <;> exact ⟨by omega, by omega⟩, fun z => nx (fun q => by rcases go with y | y <;> omega) f, fun z => ?_⟩
          have go : 0 ≤ s.2 50 o ∧ s.2 50 o < s.1 27 ∧ s.2 104 o = s.2 52 (s.2 50 o) ∧ 0 ≤ s.2 104 o ∧ s.2 104 o < s.1 4 := by rcases go with y | y; omega; exact y
          obtain ⟨y1, y2, y3, y4, y5⟩ := go
          rw [h72 _ y4 y5, x106.1, h72 _ x106.2.1 x106.2.2, y3]
          rw [y3] at y4 y5
          exact ⟨⟨by omega, by omega⟩, ⟨by omega, by omega⟩, by omega, by omega, hr _ y4 y5, hr _ x106.2.1 x106.2.2, fun w => nx (fun q => w q.2) f, fun w => c0 (fun q => by
            rcases q with q | q
            · omega
            · exact q.2.2 o o0 f y1 w)⟩
      exact key (s.1 25 + 1).toNat 0 (by omega) (by omega) (by omega) (fun x a b => by omega)
  · rw [e104] at c
    have gk : 0 ≤ s.2 50 k ∧ s.2 50 k < s.1 27 ∧ s.2 104 k = s.2 52 (s.2 50 k) ∧ 0 ≤ s.2 104 k ∧ s.2 104 k < s.1 4 := by rcases gk with y | y; omega; exact y
    obtain ⟨y1, y2, y3, y4, y5⟩ := gk
    rw [e104, e106, x106.1]
    refine ⟨⟨by omega, by omega⟩, ⟨by omega, by omega⟩, ⟨by omega, by omega⟩, ⟨by omega, by omega⟩, fun d => c0 (fun q => ?_), fun d => c1 (Or.inl ⟨y1, ?_⟩)⟩
    · rcases q with q | q
      · rw [y3, q.2] at d; exact d rfl
      · omega
    · rw [y3] at d
      exact (g7 m _ m0 m1 y1 y2 d).symm
end
