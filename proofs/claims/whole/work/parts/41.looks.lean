section
/-! looking by e: the model -/
def sumP (P : Int → Int) : Nat → Int
  | 0 => 0
  | m + 1 => sumP P m + P m
theorem sumP_s (P : Int → Int) (m : Nat) : sumP P (m + 1) = sumP P m + P m := rfl
theorem sumP_up (P : Int → Int) {o v : Int} (h0 : 0 ≤ o) : ∀ m : Nat, sumP (updF P o v) m = sumP P m + if o < m then v - P o else 0 := by
  intro m
  induction m with
  | zero => rw [if_neg (by omega)]; rfl
  | succ m ih =>
    rw [sumP_s, sumP_s, ih]
    by_cases e : (m : Int) = o
    · rw [e, updF_s, if_neg (by omega), if_pos (show o < ((m + 1 : Nat) : Int) by omega)]
      omega
    · rw [updF_n _ _ e]
      by_cases q : o < (m : Int)
      · rw [if_pos q, if_pos (show o < ((m + 1 : Nat) : Int) by omega)]
        omega
      · rw [if_neg q, if_neg (show ¬ o < ((m + 1 : Nat) : Int) by omega)]
        omega
theorem sumP_b {P : Int → Int} {n : Int} (h : ∀ x, 0 ≤ x → x < n → 0 ≤ P x ∧ P x ≤ 20) : ∀ m : Nat, (m : Int) ≤ n → 0 ≤ sumP P m ∧ sumP P m ≤ 20 * m := by
  intro m
  induction m with
  | zero => intro _; exact ⟨Int.le_refl _, Int.le_refl _⟩
  | succ m ih =>
    intro hm
    have := ih (by omega)
    have := h m (by omega) (by omega)
    rw [sumP_s]
    omega
theorem Md_fp_ok {n : Int} {s : SS} {Q : SS → Prop} (hn : s.1 33 = n) (n0 : 0 ≤ n) (n1 : n ≤ 20) (hB : ∀ u v, 0 ≤ u → u < n → 0 ≤ v → v < n → s.2 67 (20 * u + v) = 0 ∨ s.2 67 (20 * u + v) = 1) (hsy : syB (s.2 67) n) (hk : ∀ s', frm [] [72] s s' → isP (lB (s.2 67)) n (s'.2 72) → Q s') : Sp_Md_findPersons s Q := by
  intro X2 X25 X33 X43 h2 h25 h33 h43
  let J : SS → Prop := fun s1 => frm [] [72] s s1 ∧ (∀ x, 0 ≤ x → x < n → 0 ≤ s1.2 72 x ∧ s1.2 72 x ≤ x) ∧ (∀ x, 0 ≤ x → x < n → ∀ g, inG (s.2 67) n g → (g x ↔ g (s1.2 72 x)))
  -- in a pass: m tells of a change; s0 its begin
  let I : SS → Int → Int → Int → SS → Prop := fun s0 m a b s1 => J s1 ∧ ((m = 1 ∧ sumP (s1.2 72) n.toNat < sumP (s0.2 72) n.toNat) ∨ (m = 0 ∧ s1.2 72 = s0.2 72 ∧ ∀ u v, 0 ≤ u → u < n → 0 ≤ v → v < n → (u < a ∨ (u = a ∧ v < b)) → lB (s.2 67) u v → s1.2 72 v ≤ s1.2 72 u))
  have pass : ∀ (s0 : SS), (∀ (m : Int) (s1 : SS), I s0 m n 0 s1 → X25 m s1) → ∀ (t : Nat) (m a b : Int) (s1 : SS), 0 ≤ a → a ≤ n → 0 ≤ b → b ≤ n → (n - a) * 30 - b < t → I s0 m a b s1 → (a < n → X43 m a b s1) ∧ (b = 0 → X33 m a s1) := by
    intro s0 hend t
    induction t with
    | zero => intro m a b s1 c d e f g; omega
    | succ t ih =>
      intro m a b s1 a0 a1 b0 b1 ht hI
      obtain ⟨⟨j1, j2, j3⟩, hm⟩ := id hI
      have e33 : s1.1 33 = n := by rw [j1.1 33 rfl, hn]
      have e67 : s1.2 67 = s.2 67 := j1.2 67 rfl
      have rm : rng m := by rcases hm with z | z <;> rw [z.1] <;> decide
      have k43 : a < n → X43 m a b s1 := by
        intro ha
        refine h43 _ _ _ _ ⟨⟨by omega, by omega⟩, by rw [e33]; exact ⟨by omega, by omega⟩, fun d => ?_, fun d => ?_⟩
        · rw [e33] at d
          refine (ih m (a + 1) 0 s1 (by omega) (by omega) (by omega) n0 (by omega) ⟨⟨j1, j2, j3⟩, ?_⟩).2 rfl
          rcases hm with z | ⟨z1, z2, z3⟩
          · exact Or.inl z
          · exact Or.inr ⟨z1, z2, fun u v u0 u1 v0 v1 hh hl => z3 u v u0 u1 v0 v1 (by omega) hl⟩
        · rw [e33] at d
          have hv := hB a b a0 ha b0 d
          have pa := j2 a a0 ha
          have pb := j2 b b0 d
          have same : (lB (s.2 67) a b → s1.2 72 b ≤ s1.2 72 a) → X43 m a (b + 1) s1 := by
            intro hle
            refine (ih m a (b + 1) s1 a0 a1 (by omega) (by omega) (by omega) ⟨⟨j1, j2, j3⟩, ?_⟩).1 ha
            rcases hm with z | ⟨z1, z2, z3⟩
            · exact Or.inl z
            · refine Or.inr ⟨z1, z2, fun u v u0 u1 v0 v1 hh hl => ?_⟩
              by_cases q : u = a ∧ v = b
              · rw [q.1, q.2] at hl ⊢; exact hle hl
              · exact z3 u v u0 u1 v0 v1 (by omega) hl
          rw [e67]
          refine ⟨by omega, by rcases hv with z | z <;> rw [z] <;> decide, fun f => same (fun hl => by have := hl.2; omega), fun f => ⟨by omega, by omega, ⟨by omega, by omega⟩, ⟨by omega, by omega⟩, fun g => ⟨by omega, by omega, fun s2 h2' => ?_⟩, fun g => same (fun _ => g)⟩⟩
          have hne : a ≠ b := by intro z; rw [z] at g; omega
          have p72 : s2.2 72 = updF (s1.2 72) b (s1.2 72 a) := by rw [h2', sA_u]
          have hl : lB (s.2 67) a b := ⟨hne, by omega⟩
          refine (ih 1 a (b + 1) s2 a0 a1 (by omega) (by omega) (by omega) ⟨⟨by rw [h2']; exact frm_tr j1 (frm_A s1 _ _ (by decide)), fun x x0 x1 => ?_, fun x x0 x1 g' hg => ?_⟩, Or.inl ⟨rfl, ?_⟩⟩).1 ha
          · rw [p72]
            by_cases q : x = b
            · rw [q, updF_s]; omega
            · rw [updF_n _ _ q]; exact j2 x x0 x1
          · rw [p72]
            by_cases q : x = b
            · rw [q, updF_s]
              exact (hg a b a0 ha b0 d hl).symm.trans (j3 a a0 ha g' hg)
            · rw [updF_n _ _ q]; exact j3 x x0 x1 g' hg
          · rw [p72, sumP_up _ b0, if_pos (by omega)]
            rcases hm with z | ⟨z1, z2, z3⟩
            · have := z.2; omega
            · rw [z2] at g ⊢; omega
      refine ⟨k43, fun hb => ?_⟩
      refine h33 _ _ _ ⟨⟨by omega, by omega⟩, by rw [e33]; exact ⟨by omega, by omega⟩, fun d => ?_, fun d => ?_⟩
      · rw [e33] at d
        have ea : a = n := by omega
        subst ea
        subst hb
        exact hend m s1 hI
      · rw [e33] at d
        rw [← hb]
        exact k43 d
  have loop : ∀ (t : Nat) (s1 : SS), J s1 → sumP (s1.2 72) n.toNat < t → X33 0 0 s1 := by
    intro t
    induction t with
    | zero =>
      intro s1 hJ ht
      have := (sumP_b (P := s1.2 72) (n := n) (fun x x0 x1 => by have := hJ.2.1 x x0 x1; omega) n.toNat (by omega)).1
      omega
    | succ t ih =>
      intro s1 hJ ht
      refine (pass s1 (fun m s2 hI => ?_) 100000 0 0 0 s1 (by omega) n0 (by omega) n0 (by omega) ⟨hJ, Or.inr ⟨rfl, rfl, fun u v u0 u1 v0 v1 hh => by omega⟩⟩).2 rfl
      obtain ⟨⟨j1, j2, j3⟩, hm⟩ := id hI
      rcases hm with ⟨z1, z2⟩ | ⟨z1, z2, z3⟩
      · subst z1
        refine h25 _ _ ⟨by decide, fun c => absurd c (by decide), fun _ => ih s2 ⟨j1, j2, j3⟩ (by omega)⟩
      · subst z1
        refine h25 _ _ ⟨by decide, fun _ => hk s2 j1 ⟨fun x y x0 x1 y0 y1 hl => ?_, j2, j3⟩, fun c => absurd rfl c⟩
        have hl2 : lB (s.2 67) y x := ⟨fun e => hl.1 e.symm, by rw [← hsy x y x0 x1 y0 y1 hl.1]; exact hl.2⟩
        have a1 := z3 x y x0 x1 y0 y1 (by omega) hl
        have a2 := z3 y x y0 y1 x0 x1 (by omega) hl2
        omega
  have ini : ∀ (t : Nat) (k : Int) (s1 : SS), 0 ≤ k → k ≤ n → n - k < t → frm [] [72] s s1 → (∀ x, 0 ≤ x → x < k → s1.2 72 x = x) → X2 k s1 := by
    intro t
    induction t with
    | zero => intro k s1 a b c; omega
    | succ t ih =>
      intro k s1 k0 k1 ht hf hI
      have e33 : s1.1 33 = n := by rw [hf.1 33 rfl, hn]
      refine h2 _ _ ⟨⟨by omega, by omega⟩, by rw [e33]; exact ⟨by omega, by omega⟩, fun d => ?_, fun d => ⟨by omega, fun s2 h2' => ?_⟩⟩
      · rw [e33] at d
        refine h25 _ _ ⟨by decide, fun c => absurd c (by decide), fun _ => loop 100000 s1 ⟨hf, fun x x0 x1 => ?_, fun x x0 x1 g _ => ?_⟩ ?_⟩
        · rw [hI x x0 (by omega)]; omega
        · rw [hI x x0 (by omega)]
        · have := (sumP_b (P := s1.2 72) (n := n) (fun x x0 x1 => by rw [hI x x0 (by omega)]; omega) n.toNat (by omega)).2
          omega
      · rw [e33] at d
        refine ih (k + 1) s2 (by omega) (by omega) (by omega) (by rw [h2']; exact frm_tr hf (frm_A s1 _ _ (by decide))) (fun x x0 x1 => ?_)
        rw [h2', sA_s]
        by_cases z : x = k
        · rw [if_pos z, z]
        · rw [if_neg z]; exact hI x x0 (by omega)
  exact ini 100 0 s (by omega) n0 (by omega) (frm_rf _ _ s) (fun x a b => by omega)
theorem Md_haveOneKey_B {x y : Int} {s : SS} (hy : iKeys s) (hN : s.1 4 ≤ 20) (hx0 : 0 ≤ x) (hx1 : x < s.1 4) (hy0 : 0 ≤ y) (hy1 : y < s.1 4) : isB (kEq (s.2 7) (s.2 6) x y = true) s (Sp_Md_haveOneKey x y s) := by
  intro K h1 h0
  obtain ⟨ex, kx, lx⟩ := hy x hx0 hx1
  obtain ⟨ey, ky, ly⟩ := hy y hy0 hy1
  intro X24 h24
  have no : ∀ i, ¬ kEq (s.2 7) (s.2 6) x y = true → X24 x y 0 i s → X24 x y 0 i s := fun _ _ h => h
  have bad : ¬ kEq (s.2 7) (s.2 6) x y = true → ∀ i, 0 ≤ i → i ≤ s.2 7 x → X24 x y 0 i s := by
    intro hne i i0 i1
    refine h24 _ _ _ _ _ ⟨by omega, ⟨by omega, by omega⟩, by rw [← ex]; exact ⟨by omega, by omega⟩, fun _ => ⟨Or.inl rfl, h0 hne⟩, fun _ => ⟨by decide, fun _ => ⟨Or.inl rfl, h0 hne⟩, fun c => absurd rfl c⟩⟩
  refine ⟨by omega, by omega, by rw [← ex]; exact ⟨by omega, by omega⟩, by rw [← ey]; exact ⟨by omega, by omega⟩, fun c => bad (fun q => c (by rw [← ex, ← ey]; exact (kEq_iff.mp q).1)) 0 (by omega) kx.1, fun c => ?_⟩
  rw [← ex, ← ey] at c
  have key : ∀ (t : Nat) (i : Int), 0 ≤ i → i ≤ s.2 7 x → s.2 7 x - i < t → (∀ j, 0 ≤ j → j < i → s.2 6 (12 * x + j) = s.2 6 (12 * y + j)) → X24 x y 1 i s := by
    intro t
    induction t with
    | zero => intro i a b d; omega
    | succ t ih =>
      intro i a b d hj
      refine h24 _ _ _ _ _ ⟨by omega, ⟨by omega, by omega⟩, by rw [← ex]; exact ⟨by omega, by omega⟩, fun e => ⟨Or.inr rfl, h1 (kEq_iff.mpr ⟨c, fun j j0 j1 => hj j j0 (by omega)⟩)⟩, fun e => ⟨by decide, fun q => absurd q (by decide), fun _ => ?_⟩⟩
      rw [← ex] at e
      have zx := lx i a e
      have zy := ly i a (by omega)
      refine ⟨by omega, by omega, ⟨by omega, by omega⟩, ⟨by omega, by omega⟩, fun f => bad (fun q => f ?_) (i + 1) (by omega) (by omega), fun f => ih (i + 1) (by omega) (by omega) (by omega) (fun j j0 j1 => ?_)⟩
      · have := (kEq_iff.mp q).2 i a e
        omega
      · by_cases q : j = i
        · rw [q]; omega
        · exact hj j j0 (by omega)
  exact key 20 0 (by omega) (by omega) (by omega) (fun j a b => by omega)
/-- a WORD stands of those heard by h, less what was withdrawn by d -/
def stW (he wt dr : Int → Int) (h d : Int) : Nat → Int → Bool
  | 0, _ => false
  | n + 1, x => decide (wt x < h ∧ d ≤ dr x) && (decide (he x < 0) || stW he wt dr h d n (he x))
theorem stW_s (he wt dr : Int → Int) (h d : Int) (n : Nat) (x : Int) : stW he wt dr h d (n + 1) x = (decide (wt x < h ∧ d ≤ dr x) && (decide (he x < 0) || stW he wt dr h d n (he x))) := rfl
theorem stW_n {he wt dr : Int → Int} {h d W : Int} (hh : ∀ x, 0 ≤ x → x < W → he x < x) : ∀ (n m : Nat) (x : Int), 0 ≤ x → x < W → x < n → x < m → stW he wt dr h d n x = stW he wt dr h d m x := by
  intro n
  induction n with
  | zero => intro m x a b c; omega
  | succ n ih =>
    intro m x a b c d'
    cases m with
    | zero => omega
    | succ m =>
      rw [stW_s, stW_s]
      by_cases q : he x < 0
      · rw [decide_eq_true q, Bool.true_or, Bool.true_or]
      · have := hh x a b
        rw [ih m (he x) (by omega) (by omega) (by omega) (by omega)]
def st (s : SS) (h d x : Int) : Bool := stW (s.2 23) (s.2 25) (s.2 26) h d 41 x
theorem st_eq {s : SS} (hb : iBook s) {h d x : Int} (h0 : 0 ≤ x) (h1 : x < s.1 7) : st s h d x = (decide (s.2 25 x < h ∧ d ≤ s.2 26 x) && (decide (s.2 23 x < 0) || st s h d (s.2 23 x))) := by
  obtain ⟨b1, b2, b3, b4, b5, b6, b7, b8, b9, b10, b11, b12, b13, b14⟩ := hb
  have hh : ∀ x, 0 ≤ x → x < s.1 7 → s.2 23 x < x := fun x x0 x1 => (b13 x x0 x1).2.2.2.2.1.2
  have e : st s h d x = stW (s.2 23) (s.2 25) (s.2 26) h d (41 + 1) x := stW_n hh 41 42 x h0 h1 (by omega) (by omega)
  rw [e]
  rfl
theorem st_agr {s t : SS} (h : agr [] [23, 25, 26] s t) (a d x : Int) : st t a d x = st s a d x := by
  unfold st
  rw [h.2 23 (by decide), h.2 25 (by decide), h.2 26 (by decide)]
def wdBy (s : SS) (e : Int) : Int := cntE (s.2 60) 4 e.toNat
def rlBy (s : SS) (e : Int) : Int := cntE (s.2 60) 6 e.toNat - 1
theorem cntD_lt {f : Int → Int} {m n : Nat} (h : m < n) (hm : f m = 2 ∨ f m = 3) : cntD f m < cntD f n := by
  have h2 := cntE_mono f 2 (show m + 1 ≤ n by omega)
  have h3 := cntE_mono f 3 (show m + 1 ≤ n by omega)
  rw [cntE_s] at h2 h3
  unfold cntD
  rcases hm with z | z
  · rw [if_pos z] at h2; rw [if_neg (by rw [z]; decide)] at h3; omega
  · rw [if_neg (by rw [z]; decide)] at h2; rw [if_pos z] at h3; omega
theorem cntD_inj {f : Int → Int} {m n : Nat} (hm : f m = 2 ∨ f m = 3) (hn : f n = 2 ∨ f n = 3) (h : cntD f m = cntD f n) : m = n := by
  rcases Nat.lt_trichotomy m n with q | q | q
  · have := cntD_lt q hm; omega
  · exact q
  · have := cntD_lt q hn; omega
theorem Md_looks_g {e : Int} {Gh s : SS} {Q : SS → Prop} (hb : iBook Gh) (hy : iKeys s) (hm : agr [4, 31] [6, 7, 60, 61, 62, 80] Gh s) (e0 : 0 ≤ e) (e1 : e ≤ Gh.1 1)
    (hk : ∀ s', frm [33, 34, 35] [67, 68, 69, 70, 72] s s' → s'.1 33 = nmBy Gh e → s'.1 34 = wdBy Gh e → s'.1 35 = rlBy Gh e → (∀ u v, 0 ≤ u → u < nmBy Gh e → 0 ≤ v → v < nmBy Gh e → u ≠ v → (s'.2 67 (20 * u + v) = if lk Gh e u v = 1 then 1 else 0) ∧ (s'.2 68 (20 * u + v) = if lk Gh e u v = 2 then 1 else 0)) → isP (linked Gh e) (nmBy Gh e) (s'.2 72) ∧ (∀ u, 0 ≤ u → u < Gh.1 4 → s'.2 67 (20 * u + u) = 0 ∨ s'.2 67 (20 * u + u) = 1) → (∀ w, 0 ≤ w → w < 40 → s'.2 70 w = if w < wdBy Gh e ∧ st Gh e e w = true then 1 else 0) → (∀ w, 0 ≤ w → w < 40 → s'.2 69 w = if w < Gh.1 7 ∧ Gh.2 26 w < e then 1 else 0) → Q s') : Sp_Md_looks e s Q := by
  obtain ⟨b1, b2, b3, b4, b5, b6, b7, b8, b9, b10, b11, b12, b13, b14⟩ := id hb
  have hcN := bkN_cnt b6 e0 e1
  have hcN : 0 ≤ nmBy Gh e ∧ nmBy Gh e ≤ Gh.1 4 := hcN
  have hcW := bkN_cnt b7 e0 e1
  have hcW : 0 ≤ wdBy Gh e ∧ wdBy Gh e ≤ Gh.1 7 := hcW
  intro X17 X87 X108 X168 X201 X239 X290 X325 X387 h17 h87 h108 h168 h201 h239 h290 h325 h387
  let F0 : SS → Prop := fun s1 => frm [33, 34, 35] [67, 68, 69, 70, 72] s s1
  -- the last: what isn't there doesn't stand
  have c387 : ∀ (t : Nat) (k : Int) (s1 : SS), wdBy Gh e ≤ k → k ≤ 40 → 40 - k < t → F0 s1 → s1.1 33 = nmBy Gh e → s1.1 34 = wdBy Gh e → s1.1 35 = rlBy Gh e → (∀ u v, 0 ≤ u → u < nmBy Gh e → 0 ≤ v → v < nmBy Gh e → u ≠ v → (s1.2 67 (20 * u + v) = if lk Gh e u v = 1 then 1 else 0) ∧ (s1.2 68 (20 * u + v) = if lk Gh e u v = 2 then 1 else 0)) → isP (linked Gh e) (nmBy Gh e) (s1.2 72) ∧ (∀ u, 0 ≤ u → u < Gh.1 4 → s1.2 67 (20 * u + u) = 0 ∨ s1.2 67 (20 * u + u) = 1) → (∀ w, 0 ≤ w → w < k → s1.2 70 w = if w < wdBy Gh e ∧ st Gh e e w = true then 1 else 0) → (∀ w, 0 ≤ w → w < 40 → s1.2 69 w = if w < Gh.1 7 ∧ Gh.2 26 w < e then 1 else 0) → X387 k s1 := by
    intro t
    induction t with
    | zero => intro k s1 a b c; omega
    | succ t ih =>
      intro k s1 k0 k1 ht hf g1 g2 g3 g4 g5 g6 g7
      refine h387 _ _ ⟨⟨by omega, by omega⟩, fun d => hk s1 hf g1 g2 g3 g4 g5 (fun w w0 w1 => g6 w w0 (by omega)) g7, fun d => ⟨by omega, fun s2 h2 => ?_⟩⟩
      refine ih (k + 1) s2 (by omega) (by omega) (by omega) (by rw [h2]; exact frm_tr hf (frm_A s1 _ _ (by decide))) (by rw [h2]; exact g1) (by rw [h2]; exact g2) (by rw [h2]; exact g3) (fun u v u0 u1 v0 v1 huv => by rw [h2, sA_n _ _ _ (by decide), sA_n _ _ _ (by decide)]; exact g4 u v u0 u1 v0 v1 huv) ⟨by rw [h2, sA_n _ _ _ (by decide)]; exact g5.1, fun u u0 u1 => by rw [h2, sA_n _ _ _ (by decide)]; exact g5.2 u u0 u1⟩ (fun w w0 w1 => ?_) (fun w w0 w1 => by rw [h2, sA_n _ _ _ (by decide)]; exact g7 w w0 w1)
      rw [h2, sA_s]
      by_cases z : w = k
      · rw [if_pos z, if_neg (show ¬ (w < wdBy Gh e ∧ st Gh e e w = true) from fun q => by have := q.1; omega)]
      · rw [if_neg z]; exact g6 w w0 (by omega)
  have c325 : ∀ (t : Nat) (k : Int) (s1 : SS), 0 ≤ k → k ≤ wdBy Gh e → wdBy Gh e - k < t → F0 s1 → s1.1 33 = nmBy Gh e → s1.1 34 = wdBy Gh e → s1.1 35 = rlBy Gh e → (∀ u v, 0 ≤ u → u < nmBy Gh e → 0 ≤ v → v < nmBy Gh e → u ≠ v → (s1.2 67 (20 * u + v) = if lk Gh e u v = 1 then 1 else 0) ∧ (s1.2 68 (20 * u + v) = if lk Gh e u v = 2 then 1 else 0)) → isP (linked Gh e) (nmBy Gh e) (s1.2 72) ∧ (∀ u, 0 ≤ u → u < Gh.1 4 → s1.2 67 (20 * u + u) = 0 ∨ s1.2 67 (20 * u + u) = 1) → (∀ w, 0 ≤ w → w < k → s1.2 70 w = if w < wdBy Gh e ∧ st Gh e e w = true then 1 else 0) → (∀ w, 0 ≤ w → w < 40 → s1.2 69 w = if w < Gh.1 7 ∧ Gh.2 26 w < e then 1 else 0) → X325 k s1 := by
    intro t
    induction t with
    | zero => intro k s1 a b c; omega
    | succ t ih =>
      intro k s1 k0 k1 ht hf g1 g2 g3 g4 g5 g6 g7
      refine h325 _ _ ⟨⟨by omega, by omega⟩, by rw [g2]; exact ⟨by omega, by omega⟩, fun d => ?_, fun d => ?_⟩
      · rw [g2] at d ⊢
        have ek : k = wdBy Gh e := by omega
        subst ek
        exact c387 100 _ s1 (Int.le_refl _) (by omega) (by omega) hf g1 g2 g3 g4 g5 g6 g7
      · rw [g2] at d
        have kW : k < Gh.1 7 := by omega
        have g69 := g7 k k0 (by omega)
        have e80 : s1.2 80 = Gh.2 23 := by rw [hf.2 80 rfl, hm.2 80 (by decide), ← b14.2.2.2.2.2.1]
        have hw := b13 k k0 kW
        have hby : Gh.2 25 k < e ↔ k < wdBy Gh e := bkN_by b7 e0 e1 k0 kW
        have nxt : ∀ (v : Int) (s2 : SS), s2 = sA s1 70 k v → v = (if st Gh e e k = true then 1 else 0) → X325 (k + 1) s2 := by
          intro v s2 h2 hv
          refine ih (k + 1) s2 (by omega) (by omega) (by omega) (by rw [h2]; exact frm_tr hf (frm_A s1 _ _ (by decide))) (by rw [h2]; exact g1) (by rw [h2]; exact g2) (by rw [h2]; exact g3) (fun u v u0 u1 v0 v1 huv => by rw [h2, sA_n _ _ _ (by decide), sA_n _ _ _ (by decide)]; exact g4 u v u0 u1 v0 v1 huv) ⟨by rw [h2, sA_n _ _ _ (by decide)]; exact g5.1, fun u u0 u1 => by rw [h2, sA_n _ _ _ (by decide)]; exact g5.2 u u0 u1⟩ (fun w w0 w1 => ?_) (fun w w0 w1 => by rw [h2, sA_n _ _ _ (by decide)]; exact g7 w w0 w1)
          rw [h2, sA_s]
          by_cases z : w = k
          · rw [if_pos z, hv, z]
            exact if_cg ⟨fun q => ⟨d, q⟩, fun q => q.2⟩ rfl rfl
          · rw [if_neg z]; exact g6 w w0 (by omega)
        have he := st_eq hb (h := e) (d := e) k0 kW
        have hwt : Gh.2 25 k < e := hby.mpr d
        refine ⟨by omega, by rw [g69]; split <;> decide, fun f => ⟨by omega, fun s2 h2 => nxt 0 s2 h2 ?_⟩, fun f => ⟨by omega, by rw [e80]; exact ⟨by omega, by omega⟩, fun g => ⟨by omega, fun s2 h2 => nxt 1 s2 h2 ?_⟩, fun g => ?_⟩⟩
        · have hd : Gh.2 26 k < e := by
            rw [g69] at f
            by_cases q : k < Gh.1 7 ∧ Gh.2 26 k < e
            · exact q.2
            · rw [if_neg q] at f; exact absurd rfl f
          rw [he, decide_eq_false (by omega), Bool.false_and]
          rfl
        · rw [e80] at g
          have hd : ¬ Gh.2 26 k < e := by
            intro q
            rw [g69, if_pos ⟨kW, q⟩] at f
            exact absurd f (by decide)
          rw [he, decide_eq_true ⟨hwt, by omega⟩, decide_eq_true g]
          rfl
        · rw [e80] at g ⊢
          have hd : ¬ Gh.2 26 k < e := by
            intro q
            rw [g69, if_pos ⟨kW, q⟩] at f
            exact absurd f (by decide)
          have hh := g6 (Gh.2 23 k) g (by omega)
          have hws : Gh.2 23 k < wdBy Gh e := by omega
          have hst : st Gh e e k = st Gh e e (Gh.2 23 k) := by
            rw [he, decide_eq_true ⟨hwt, by omega⟩, decide_eq_false (by omega), Bool.true_and, Bool.false_or]
          refine ⟨by omega, by omega, by rw [hh]; split <;> decide, fun z => ⟨by omega, fun s2 h2 => nxt 0 s2 h2 ?_⟩, fun z => ⟨by omega, fun s2 h2 => nxt 1 s2 h2 ?_⟩⟩
          · rw [hh] at z
            rw [hst]
            by_cases q : st Gh e e (Gh.2 23 k) = true
            · rw [if_pos ⟨hws, q⟩] at z; exact absurd z (by decide)
            · rw [if_neg q]
          · rw [hh] at z
            rw [hst]
            by_cases q : st Gh e e (Gh.2 23 k) = true
            · rw [if_pos q]
            · rw [if_neg (fun y => q y.2)] at z; exact absurd rfl z
  have c108 : ∀ (t : Nat) (k : Int) (s1 : SS), 0 ≤ k → k ≤ e → e - k < t → F0 s1 → s1.1 33 = cntE (Gh.2 60) 1 k.toNat → s1.1 34 = cntE (Gh.2 60) 4 k.toNat → s1.1 35 = cntE (Gh.2 60) 6 k.toNat - 1 → (∀ u v, 0 ≤ u → u < Gh.1 4 → 0 ≤ v → v < Gh.1 4 → u ≠ v → (s1.2 67 (20 * u + v) = if lk Gh k u v = 1 then 1 else 0) ∧ (s1.2 68 (20 * u + v) = if lk Gh k u v = 2 then 1 else 0)) → (∀ u, 0 ≤ u → u < Gh.1 4 → s1.2 67 (20 * u + u) = 0 ∨ s1.2 67 (20 * u + u) = 1) → (∀ w, 0 ≤ w → w < 40 → s1.2 69 w = if w < Gh.1 7 ∧ Gh.2 26 w < k then 1 else 0) → X108 e k s1 := by
    intro t
    induction t with
    | zero => intro k s1 a b c; omega
    | succ t ih =>
      intro k s1 k0 k1 ht hf g1 g2 g3 g4 g5 g6
      have e60 : s1.2 60 = Gh.2 60 := (hf.2 60 rfl).trans (hm.2 60 (by decide))
      have e61 : s1.2 61 = Gh.2 61 := (hf.2 61 rfl).trans (hm.2 61 (by decide))
      have e62 : s1.2 62 = Gh.2 62 := (hf.2 62 rfl).trans (hm.2 62 (by decide))
      refine h108 _ _ _ ⟨⟨by omega, by omega⟩, ⟨by omega, by omega⟩, fun d => ?_, fun d => ?_⟩
      · have ek : k = e := by omega
        subst ek
        refine Md_fp_ok g1 hcN.1 (by omega) (fun u v u0 u1 v0 v1 => ?_) (fun u v u0 u1 v0 v1 huv => ?_) (fun s2 hf2 hP => ?_)
        · by_cases q : u = v
          · subst q; exact g5 u u0 (by omega)
          · rw [(g4 u v u0 (by omega) v0 (by omega) q).1]
            split
            · exact Or.inr rfl
            · exact Or.inl rfl
        · rw [(g4 u v u0 (by omega) v0 (by omega) huv).1, (g4 v u v0 (by omega) u0 (by omega) (fun z => huv z.symm)).1, lk_sy]
        · have hiff : ∀ u v, 0 ≤ u → u < nmBy Gh k → 0 ≤ v → v < nmBy Gh k → (lB (s1.2 67) u v ↔ linked Gh k u v) := fun u v u0 u1 v0 v1 => by
            unfold lB linked
            refine and_congr_right (fun huv => ?_)
            rw [(g4 u v u0 (by omega) v0 (by omega) huv).1]
            by_cases q : lk Gh k u v = 1
            · rw [if_pos q]; exact ⟨fun _ => q, fun _ => rfl⟩
            · rw [if_neg q]; exact ⟨fun z => absurd z (by decide), fun z => absurd z q⟩
          refine c325 100 0 s2 (by omega) hcW.1 (by omega) (frm_tr hf (frm_mono hf2 (by decide) (by decide))) (by rw [hf2.1 33 rfl]; exact g1) (by rw [hf2.1 34 rfl]; exact g2) (by rw [hf2.1 35 rfl]; exact g3) (fun u v u0 u1 v0 v1 huv => by rw [hf2.2 67 rfl, hf2.2 68 rfl]; exact g4 u v u0 (by omega) v0 (by omega) huv) ⟨⟨fun x y x0 x1 y0 y1 h => hP.1 x y x0 x1 y0 y1 ((hiff x y x0 x1 y0 y1).mpr h), hP.2.1, fun x x0 x1 g hg => hP.2.2 x x0 x1 g (fun u v u0 u1 v0 v1 h => hg u v u0 u1 v0 v1 ((hiff u v u0 u1 v0 v1).mp h))⟩, fun u u0 u1 => by rw [hf2.2 67 rfl]; exact g5 u u0 u1⟩ (fun w w0 w1 => by omega) (fun w w0 w1 => by rw [hf2.2 69 rfl]; exact g6 w w0 w1)
      · have ht6 := b12 k k0 (by omega)
        have ekc : ((k.toNat : Nat) : Int) = k := by omega
        have ek1 : (k + 1).toNat = k.toNat + 1 := by omega
        have cs : ∀ u, cntE (Gh.2 60) u (k + 1).toNat = cntE (Gh.2 60) u k.toNat + if Gh.2 60 k = u then 1 else 0 := fun u => by rw [ek1, cntE_s, ekc]
        -- an entry that is no joining and no parting leaves what is between the names
        have lkc : ¬ Gh.2 60 k = 2 → ¬ Gh.2 60 k = 3 → ∀ u v, lk Gh (k + 1) u v = lk Gh k u v := by
          intro n2 n3 u v
          unfold lk lkN
          have eb : bndE (Gh.2 60) (Gh.2 61) (Gh.2 62) u v (k + 1).toNat = bndE (Gh.2 60) (Gh.2 61) (Gh.2 62) u v k.toNat := by
            rw [ek1, bndE_s, ekc]
            exact if_neg (fun q => q.1.elim n2 n3)
          rw [eb]
        have gone : ¬ Gh.2 60 k = 5 → ∀ w, 0 ≤ w → w < 40 → s1.2 69 w = if w < Gh.1 7 ∧ Gh.2 26 w < k + 1 then 1 else 0 := by
          intro n5 w w0 w1
          rw [g6 w w0 w1]
          refine if_cg ⟨fun q => ⟨q.1, by omega⟩, fun q => ⟨q.1, ?_⟩⟩ rfl rfl
          rcases b10.1 w w0 q.1 with z | z
          · omega
          · have : Gh.2 26 w ≠ k := fun y => n5 (by rw [← y]; exact z.2.2.1)
            omega
        -- the end of an entry
        have c201 : ∀ s2 : SS, F0 s2 → s2.1 33 = cntE (Gh.2 60) 1 (k + 1).toNat → s2.1 34 = cntE (Gh.2 60) 4 (k + 1).toNat → s2.1 35 = cntE (Gh.2 60) 6 (k + 1).toNat - 1 → s2.2 67 = s1.2 67 → s2.2 68 = s1.2 68 → (∀ w, 0 ≤ w → w < 40 → s2.2 69 w = if w < Gh.1 7 ∧ Gh.2 26 w < k + 1 then 1 else 0) → X201 e k (Gh.2 61 k) (Gh.2 62 k) s2 := by
          intro s2 hf2 q1 q2 q3 q67 q68 q69
          have f60 : s2.2 60 = Gh.2 60 := (hf2.2 60 rfl).trans (hm.2 60 (by decide))
          have c239 : ∀ y0 : Int, (Gh.2 60 k = 2 ∧ y0 = 1) ∨ (Gh.2 60 k = 3 ∧ y0 = 0) → X239 e k (Gh.2 61 k) (Gh.2 62 k) y0 s2 := by
            intro y0 hy0
            -- the decree
            have hD : cntD (Gh.2 60) k.toNat < Gh.1 5 := by
              have h1 := b9.1
              have m2 := cntE_mono (Gh.2 60) 2 (show (k + 1).toNat ≤ (Gh.1 1).toNat by omega)
              have m3 := cntE_mono (Gh.2 60) 3 (show (k + 1).toNat ≤ (Gh.1 1).toNat by omega)
              rw [cs] at m2 m3
              unfold cntD at h1 ⊢
              rcases hy0 with z | z
              · rw [if_pos z.1] at m2; rw [if_neg (by rw [z.1]; decide)] at m3; omega
              · rw [if_neg (by rw [z.1]; decide)] at m2; rw [if_pos z.1] at m3; omega
            have hD0 : 0 ≤ cntD (Gh.2 60) k.toNat := by
              have h2 := (cntE_b (Gh.2 60) 2 k.toNat).1
              have h3 := (cntE_b (Gh.2 60) 3 k.toNat).1
              unfold cntD; omega
            obtain ⟨z1, z2, z3, z4, z5, z6, z7, z8⟩ := b9.2 _ hD0 hD
            have ek : Gh.2 12 (cntD (Gh.2 60) k.toNat) = k := by
              have q1 : Gh.2 60 k = 2 ∨ Gh.2 60 k = 3 := hy0.elim (fun z => Or.inl z.1) (fun z => Or.inr z.1)
              have q2 : Gh.2 60 (Gh.2 12 (cntD (Gh.2 60) k.toNat)) = 2 ∨ Gh.2 60 (Gh.2 12 (cntD (Gh.2 60) k.toNat)) = 3 := z2.elim (fun z => Or.inl z.1) (fun z => Or.inr z.1)
              have := cntD_inj (f := Gh.2 60) (m := (Gh.2 12 (cntD (Gh.2 60) k.toNat)).toNat) (n := k.toNat) (by rw [show (((Gh.2 12 (cntD (Gh.2 60) k.toNat)).toNat : Nat) : Int) = Gh.2 12 (cntD (Gh.2 60) k.toNat) by omega]; exact q2) (by rw [ekc]; exact q1) z5
              omega
            rw [ek] at z3 z4
            rw [← z3, ← z4] at z6
            clear z1 z2 z5 z7 z8 z3 z4 ek
            have lkn : ∀ u v, lk Gh (k + 1) u v = if (Gh.2 61 k = u ∧ Gh.2 62 k = v) ∨ (Gh.2 61 k = v ∧ Gh.2 62 k = u) then (if y0 = 1 then 1 else 2) else lk Gh k u v := by
              intro u v
              have q1 : Gh.2 60 k = 2 ∨ Gh.2 60 k = 3 := hy0.elim (fun z => Or.inl z.1) (fun z => Or.inr z.1)
              have eb : bndE (Gh.2 60) (Gh.2 61) (Gh.2 62) u v (k + 1).toNat = if (Gh.2 60 k = 2 ∨ Gh.2 60 k = 3) ∧ ((Gh.2 61 k = u ∧ Gh.2 62 k = v) ∨ (Gh.2 61 k = v ∧ Gh.2 62 k = u)) then (if Gh.2 60 k = 2 then 1 else 2) else bndE (Gh.2 60) (Gh.2 61) (Gh.2 62) u v k.toNat := by
                rw [ek1, bndE_s, ekc]
              by_cases c : (Gh.2 61 k = u ∧ Gh.2 62 k = v) ∨ (Gh.2 61 k = v ∧ Gh.2 62 k = u)
              · rw [if_pos (And.intro q1 c)] at eb
                rw [if_pos c]
                unfold lk lkN
                rw [eb]
                rcases hy0 with z | z
                · rw [if_pos z.1, if_pos z.2]; rfl
                · rw [if_neg (show ¬ Gh.2 60 k = 2 by rw [z.1]; decide), if_neg (show ¬ y0 = 1 by rw [z.2]; decide)]; rfl
              · rw [if_neg (show ¬ ((Gh.2 60 k = 2 ∨ Gh.2 60 k = 3) ∧ ((Gh.2 61 k = u ∧ Gh.2 62 k = v) ∨ (Gh.2 61 k = v ∧ Gh.2 62 k = u))) from fun q => c q.2)] at eb
                rw [if_neg c]
                unfold lk lkN
                rw [eb]
            generalize Gh.2 61 k = a at z6 lkn ⊢
            generalize Gh.2 62 k = b at z6 lkn ⊢
            obtain ⟨a0, a1, bb0, bb1, hab⟩ := z6
            have ry0 : y0 = 0 ∨ y0 = 1 := by omega
            have fin : ∀ (v0 : Int) (s6 : SS), (y0 = 1 ∧ v0 = 0) ∨ (y0 = 0 ∧ v0 = 1) → s6 = sA (sA (sA (sA s2 67 (20 * a + b) y0) 67 (20 * b + a) y0) 68 (20 * a + b) v0) 68 (20 * b + a) v0 → X108 e (k + 1) s6 := by
              intro v0 s6 hv h6
              have e67 : ∀ u v, 0 ≤ u → u < 20 → 0 ≤ v → v < 20 → s6.2 67 (20 * u + v) = if (a = u ∧ b = v) ∨ (a = v ∧ b = u) then y0 else s1.2 67 (20 * u + v) := by
                intro u v u0 u1 v0' v1
                rw [h6, sA_n _ _ _ (by decide), sA_n _ _ _ (by decide), sA_s, sA_s, q67]
                by_cases c : (a = u ∧ b = v) ∨ (a = v ∧ b = u)
                · rw [if_pos c]
                  by_cases d : 20 * u + v = 20 * b + a
                  · rw [if_pos d]
                  · rw [if_neg d, if_pos (by omega)]
                · rw [if_neg c, if_neg (by omega), if_neg (by omega)]
              have e68 : ∀ u v, 0 ≤ u → u < 20 → 0 ≤ v → v < 20 → s6.2 68 (20 * u + v) = if (a = u ∧ b = v) ∨ (a = v ∧ b = u) then v0 else s1.2 68 (20 * u + v) := by
                intro u v u0 u1 v0' v1
                rw [h6, sA_s, sA_s, sA_n _ _ _ (by decide), sA_n _ _ _ (by decide), q68]
                by_cases c : (a = u ∧ b = v) ∨ (a = v ∧ b = u)
                · rw [if_pos c]
                  by_cases d : 20 * u + v = 20 * b + a
                  · rw [if_pos d]
                  · rw [if_neg d, if_pos (by omega)]
                · rw [if_neg c, if_neg (by omega), if_neg (by omega)]
              refine ih (k + 1) s6 (by omega) (by omega) (by omega) (by rw [h6]; exact frm_tr hf2 (frm_tr (frm_tr (frm_tr (frm_A _ _ _ (by decide)) (frm_A _ _ _ (by decide))) (frm_A _ _ _ (by decide))) (frm_A _ _ _ (by decide)))) (by rw [h6]; exact q1) (by rw [h6]; exact q2) (by rw [h6]; exact q3) (fun u v u0 u1 v0' v1 huv => ?_) (fun u u0 u1 => ?_) (fun w w0 w1 => ?_)
              · rw [e67 u v u0 (by omega) v0' (by omega), e68 u v u0 (by omega) v0' (by omega), lkn]
                by_cases c : (a = u ∧ b = v) ∨ (a = v ∧ b = u)
                · rw [if_pos c, if_pos c, if_pos c]
                  rcases hv with ⟨rfl, rfl⟩ | ⟨rfl, rfl⟩
                  · exact ⟨rfl, rfl⟩
                  · exact ⟨rfl, rfl⟩
                · rw [if_neg c, if_neg c, if_neg c]
                  exact g4 u v u0 u1 v0' v1 huv
              · rw [e67 u u u0 (by omega) u0 (by omega), if_neg (by omega)]
                exact g5 u u0 u1
              · rw [h6, sA_n _ _ _ (by decide), sA_n _ _ _ (by decide), sA_n _ _ _ (by decide), sA_n _ _ _ (by decide)]
                exact q69 w w0 w1
            refine h239 _ _ _ _ _ _ ⟨by omega, ry0, fun s3 h3 => ⟨by omega, ry0, fun s4 h4 => ⟨by rcases ry0 with z | z <;> rw [z] <;> decide, fun n0 => ?_, fun z0 => ?_⟩⟩⟩
            · refine h290 _ _ _ _ _ _ _ _ ⟨by omega, Or.inl rfl, fun s5 h5 => ⟨by rcases ry0 with z | z <;> rw [z] <;> decide, fun _ => ⟨by omega, fun s6 h6 => fin 0 s6 (by omega) (by rw [h6, h5, h4, h3])⟩, fun z => absurd z n0⟩⟩
            · refine h290 _ _ _ _ _ _ _ _ ⟨by omega, Or.inr rfl, fun s5 h5 => ⟨by rcases ry0 with z | z <;> rw [z] <;> decide, fun z => absurd z0 z, fun _ => ⟨by omega, fun s6 h6 => fin 1 s6 (by omega) (by rw [h6, h5, h4, h3])⟩⟩⟩
          refine h201 _ _ _ _ _ ⟨by omega, by rw [f60]; exact ⟨by omega, by omega⟩, fun f => ⟨by omega, by rw [f60]; exact ⟨by omega, by omega⟩, fun g => absurd f g, fun g => c239 1 (Or.inl ⟨by rw [← f60]; exact g, rfl⟩)⟩, fun f => ⟨by omega, by rw [f60]; exact ⟨by omega, by omega⟩, fun g => ⟨by omega, by rw [f60]; exact ⟨by omega, by omega⟩, fun h => c239 0 (Or.inr ⟨by rw [← f60]; exact g, rfl⟩), fun h => absurd h f⟩, fun g => ?_⟩⟩
          rw [f60] at f g
          refine ih (k + 1) s2 (by omega) (by omega) (by omega) hf2 q1 q2 q3 (fun u v u0 u1 v0 v1 huv => by rw [q67, q68, lkc f g]; exact g4 u v u0 u1 v0 v1 huv) (fun u u0 u1 => by rw [q67]; exact g5 u u0 u1) q69
        have c168 : ∀ s2 : SS, frm [33, 34] [] s1 s2 → s2.1 33 = cntE (Gh.2 60) 1 (k + 1).toNat → s2.1 34 = cntE (Gh.2 60) 4 (k + 1).toNat → X168 e k (Gh.2 61 k) (Gh.2 62 k) s2 := by
          intro s2 hf2 q1 q2
          have f60 : s2.2 60 = Gh.2 60 := by rw [hf2.2 60 rfl, e60]
          have hF2 : F0 s2 := frm_tr hf (frm_mono hf2 (by decide) (by decide))
          have e35 : s2.1 35 = cntE (Gh.2 60) 6 k.toNat - 1 := by rw [hf2.1 35 rfl, g3]
          refine h168 _ _ _ _ _ ⟨by omega, by rw [f60]; exact ⟨by omega, by omega⟩, fun n6 => ⟨by omega, by rw [f60]; exact ⟨by omega, by omega⟩, fun n5 => ?_, fun z5 => ?_⟩, fun z6 s3 h3 => ⟨by omega, by rw [h3]; show rng (s2.2 60 k); rw [f60]; exact ⟨by omega, by omega⟩, fun n5 => ?_, fun z5 => ?_⟩⟩
          · rw [f60] at n6 n5
            exact c201 s2 hF2 q1 q2 (by rw [e35, cs 6, if_neg n6]; omega) (hf2.2 67 rfl) (hf2.2 68 rfl) (fun w w0 w1 => by rw [hf2.2 69 rfl]; exact gone n5 w w0 w1)
          · rw [f60] at n6 z5
            obtain ⟨w1, w2, w3⟩ := b10.2 k k0 (by omega) z5
            refine ⟨by omega, fun s3 h3 => c201 s3 (by rw [h3]; exact frm_tr hF2 (frm_A _ _ _ (by decide))) (by rw [h3]; exact q1) (by rw [h3]; exact q2) (by rw [h3, sA_1, e35, cs 6, if_neg n6]; omega) (by rw [h3, sA_n _ _ _ (by decide)]; exact hf2.2 67 rfl) (by rw [h3, sA_n _ _ _ (by decide)]; exact hf2.2 68 rfl) (fun w w0 w40 => ?_)⟩
            rw [h3, sA_s]
            by_cases q : w = Gh.2 61 k
            · rw [if_pos q, if_pos (by rw [q, w3]; omega)]
            · rw [if_neg q, hf2.2 69 rfl, g6 w w0 w40]
              refine if_cg ⟨fun y => ⟨y.1, by omega⟩, fun y => ⟨y.1, ?_⟩⟩ rfl rfl
              rcases b10.1 w w0 y.1 with z | z
              · omega
              · have : Gh.2 26 w ≠ k := fun y => q (by rw [← y]; exact z.2.2.2.1.symm)
                omega
          · have z6' : Gh.2 60 k = 6 := by rw [← f60]; exact z6
            rw [h3] at n5
            have n5 : ¬ s2.2 60 k = 5 := n5
            rw [f60] at n5
            obtain ⟨w1, w2, w3⟩ := b11 k k0 (by omega) z6'
            have w4 := (b8.2 _ w1 w2).2.2.2
            rw [w3] at w4
            exact c201 s3 (by rw [h3]; exact frm_tr hF2 (frm_F _ _ (by decide))) (by rw [h3, sF_n _ _ (by decide)]; exact q1) (by rw [h3, sF_n _ _ (by decide)]; exact q2) (by rw [h3, sF_s, cs 6, if_pos z6', w4]; omega) (by rw [h3]; exact hf2.2 67 rfl) (by rw [h3]; exact hf2.2 68 rfl) (fun w w0 w1 => by rw [h3, sF_2, hf2.2 69 rfl]; exact gone n5 w w0 w1)
          · rw [h3] at z5
            have z5 : s2.2 60 k = 5 := z5
            omega
        refine ⟨by omega, by omega, by omega, by rw [e60]; exact ⟨by omega, by omega⟩, fun n1 => ⟨by omega, by rw [e60]; exact ⟨by omega, by omega⟩, fun n4 => ?_, fun z4 s2 h2 => ?_⟩, fun z1 s2 h2 => ⟨by omega, by rw [h2]; show rng (s1.2 60 k); rw [e60]; exact ⟨by omega, by omega⟩, fun n4 => ?_, fun z4 => ?_⟩⟩
        · rw [e60] at n1 n4
          rw [e61, e62]
          exact c168 s1 (frm_rf _ _ _) (by rw [g1, cs, if_neg n1]; omega) (by rw [g2, cs, if_neg n4]; omega)
        · rw [e60] at n1 z4
          rw [e61, e62]
          exact c168 s2 (by rw [h2]; exact frm_F _ _ (by decide)) (by rw [h2, sF_n _ _ (by decide), g1, cs, if_neg n1]; omega) (by rw [h2, sF_s, g2, cs, if_pos z4])
        · rw [e60] at z1
          rw [e61, e62]
          exact c168 s2 (by rw [h2]; exact frm_F _ _ (by decide)) (by rw [h2, sF_s, g1, cs, if_pos z1]) (by rw [h2, sF_n _ _ (by decide), g2, cs, if_neg (by omega)]; omega)
        · rw [h2] at z4
          have z4 : s1.2 60 k = 4 := z4
          omega
  have c87 : ∀ (t : Nat) (k : Int) (s1 : SS), 0 ≤ k → k ≤ 40 → 40 - k < t → F0 s1 → s1.1 33 = 0 → s1.1 34 = 0 → s1.1 35 = -1 → (∀ u v, 0 ≤ u → u < Gh.1 4 → 0 ≤ v → v < Gh.1 4 → (s1.2 67 (20 * u + v) = if kEq (Gh.2 7) (Gh.2 6) u v = true then 1 else 0) ∧ s1.2 68 (20 * u + v) = 0) → (∀ w, 0 ≤ w → w < k → s1.2 69 w = 0) → X87 e k s1 := by
    intro t
    induction t with
    | zero => intro k s1 a b c; omega
    | succ t ih =>
      intro k s1 k0 k1 ht hf g1 g2 g3 g4 g6
      refine h87 _ _ _ ⟨⟨by omega, by omega⟩, fun d => ?_, fun d => ⟨by omega, fun s2 h2 => ?_⟩⟩
      · refine c108 1000 0 s1 (by omega) e0 (by omega) hf g1 g2 g3 (fun u v u0 u1 v0 v1 huv => ?_) (fun u u0 u1 => ?_) (fun w w0 w1 => ?_)
        · rw [(g4 u v u0 u1 v0 v1).1, (g4 u v u0 u1 v0 v1).2]
          have : lk Gh 0 u v = if kEq (Gh.2 7) (Gh.2 6) u v = true then 1 else 0 := rfl
          rw [this]
          by_cases q : kEq (Gh.2 7) (Gh.2 6) u v = true
          · rw [if_pos q]; exact ⟨rfl, rfl⟩
          · rw [if_neg q]; exact ⟨rfl, rfl⟩
        · rw [(g4 u u u0 u1 u0 u1).1]
          split
          · exact Or.inr rfl
          · exact Or.inl rfl
        · rw [g6 w w0 (by omega), if_neg (fun q => ?_)]
          rcases b10.1 w w0 q.1 with z | z <;> omega
      · refine ih (k + 1) s2 (by omega) (by omega) (by omega) (by rw [h2]; exact frm_tr hf (frm_A s1 _ _ (by decide))) (by rw [h2]; exact g1) (by rw [h2]; exact g2) (by rw [h2]; exact g3) (fun u v u0 u1 v0 v1 => by rw [h2, sA_n _ _ _ (by decide), sA_n _ _ _ (by decide)]; exact g4 u v u0 u1 v0 v1) (fun w w0 w1 => ?_)
        rw [h2, sA_s]
        by_cases z : w = k
        · rw [if_pos z]
        · rw [if_neg z]; exact g6 w w0 (by omega)
  have c17 : ∀ (t : Nat) (k : Int) (s1 : SS), 0 ≤ k → k ≤ 400 → 400 - k < t → F0 s1 → s1.1 33 = 0 → s1.1 34 = 0 → s1.1 35 = -1 → (∀ u v, 0 ≤ u → u < Gh.1 4 → 0 ≤ v → v < Gh.1 4 → 20 * u + v < k → (s1.2 67 (20 * u + v) = if kEq (Gh.2 7) (Gh.2 6) u v = true then 1 else 0) ∧ s1.2 68 (20 * u + v) = 0) → X17 e k s1 := by
    intro t
    induction t with
    | zero => intro k s1 a b c; omega
    | succ t ih =>
      intro k s1 k0 k1 ht hf g1 g2 g3 g4
      have e31 : s1.1 31 = Gh.1 4 := by rw [hf.1 31 rfl, hm.1 31 (by decide)]; exact b2.1.symm
      have nxt : ∀ (v : Int) (s3 : SS), s3 = sA (sA s1 67 k v) 68 k 0 → (∀ u w, 0 ≤ u → u < Gh.1 4 → 0 ≤ w → w < Gh.1 4 → 20 * u + w = k → v = if kEq (Gh.2 7) (Gh.2 6) u w = true then 1 else 0) → k < 400 → X17 e (k + 1) s3 := by
        intro v s3 h3 hv d
        refine ih (k + 1) s3 (by omega) (by omega) (by omega) (by rw [h3]; exact frm_tr hf (frm_tr (frm_A _ _ _ (by decide)) (frm_A _ _ _ (by decide)))) (by rw [h3]; exact g1) (by rw [h3]; exact g2) (by rw [h3]; exact g3) (fun u w u0 u1 w0 w1 hh => ?_)
        by_cases z : 20 * u + w = k
        · rw [h3, sA_n _ _ _ (by decide), sA_s, if_pos z, sA_s, if_pos z]
          exact ⟨hv u w u0 u1 w0 w1 z, rfl⟩
        · rw [h3, sA_n _ _ _ (by decide), sA_s, if_neg z, sA_s, if_neg z, sA_n _ _ _ (by decide)]
          exact g4 u w u0 u1 w0 w1 (by omega)
      refine h17 _ _ _ ⟨⟨by omega, by omega⟩, fun d => c87 100 0 s1 (by omega) (by omega) (by omega) hf g1 g2 g3 (fun u v u0 u1 v0 v1 => g4 u v u0 u1 v0 v1 (by omega)) (fun w a b => by omega), fun d => ⟨by omega, ⟨by omega, by omega⟩, by rw [e31]; exact ⟨by omega, by omega⟩, fun f => ⟨by omega, fun s2 h2 => ⟨by omega, fun s3 h3 => nxt 0 s3 (by rw [h3, h2]) (fun u w u0 u1 w0 w1 hh => by omega) d⟩⟩, fun f => ⟨by omega, ⟨by omega, by omega⟩, by rw [e31]; exact ⟨by omega, by omega⟩, fun g => ⟨by omega, fun s2 h2 => ⟨by omega, fun s3 h3 => nxt 0 s3 (by rw [h3, h2]) (fun u w u0 u1 w0 w1 hh => by omega) d⟩⟩, fun g => ⟨by omega, by omega, ?_⟩⟩⟩⟩
      rw [e31] at f g
      have x4 : s1.1 4 = Gh.1 4 := (hf.1 4 rfl).trans (hm.1 4 (by decide))
      have x7 : s1.2 7 = Gh.2 7 := (hf.2 7 rfl).trans (hm.2 7 (by decide))
      have x6 : s1.2 6 = Gh.2 6 := (hf.2 6 rfl).trans (hm.2 6 (by decide))
      have hq : ∀ v : Int, (v = if kEq (Gh.2 7) (Gh.2 6) (k / 20) (k % 20) = true then 1 else 0) → ∀ u w, 0 ≤ u → u < Gh.1 4 → 0 ≤ w → w < Gh.1 4 → 20 * u + w = k → v = if kEq (Gh.2 7) (Gh.2 6) u w = true then 1 else 0 := by
        intro v hv u w u0 u1 w0 w1 hh
        rw [show u = k / 20 by omega, show w = k % 20 by omega]
        exact hv
      refine isB_a (Md_haveOneKey_B (iKeys_agr (agr_of hf (by decide)) hy) (by omega) (by omega) (by omega) (by omega) (by omega)) (fun q => ⟨by omega, fun s2 h2 => ⟨by omega, fun s3 h3 => nxt 0 s3 (by rw [h3, h2]) (hq 0 ?_) d⟩⟩) (fun q => ⟨by omega, fun s2 h2 => ⟨by omega, fun s3 h3 => nxt 1 s3 (by rw [h3, h2]) (hq 1 ?_) d⟩⟩)
      · rw [x7, x6] at q; rw [if_neg q]
      · rw [x7, x6] at q; rw [if_pos q]
  intro s1 h1 s2 h2 s3 h3
  refine c17 1000 0 s3 (by omega) (by omega) (by omega) (by rw [h3, h2, h1]; exact frm_tr (frm_tr (frm_F _ _ (by decide)) (frm_F _ _ (by decide))) (frm_F _ _ (by decide))) (by rw [h3, sF_n _ _ (by decide), h2, sF_n _ _ (by decide), h1, sF_s]) (by rw [h3, sF_n _ _ (by decide), h2, sF_s]) (by rw [h3, sF_s]) (fun u v a b c d f => by omega)
theorem Md_looks_ok {e : Int} {s : SS} {Q : SS → Prop} (hb : iBook s) (hy : iKeys s) (e0 : 0 ≤ e) (e1 : e ≤ s.1 1)
    (hk : ∀ s', frm [33, 34, 35] [67, 68, 69, 70, 72] s s' → s'.1 33 = nmBy s e → s'.1 34 = wdBy s e → s'.1 35 = rlBy s e → (∀ u v, 0 ≤ u → u < nmBy s e → 0 ≤ v → v < nmBy s e → u ≠ v → (s'.2 67 (20 * u + v) = if lk s e u v = 1 then 1 else 0) ∧ (s'.2 68 (20 * u + v) = if lk s e u v = 2 then 1 else 0)) → isP (linked s e) (nmBy s e) (s'.2 72) ∧ (∀ u, 0 ≤ u → u < s.1 4 → s'.2 67 (20 * u + u) = 0 ∨ s'.2 67 (20 * u + u) = 1) → (∀ w, 0 ≤ w → w < 40 → s'.2 70 w = if w < wdBy s e ∧ st s e e w = true then 1 else 0) → (∀ w, 0 ≤ w → w < 40 → s'.2 69 w = if w < s.1 7 ∧ s.2 26 w < e then 1 else 0) → Q s') : Sp_Md_looks e s Q := Md_looks_g hb hy ⟨fun _ _ => rfl, fun _ _ => rfl⟩ e0 e1 hk
end
