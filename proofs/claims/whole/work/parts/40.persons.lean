section
/-! PERSONS: the class -/
def cntA (P : Int → Int) : Nat → Int
  | 0 => 0
  | m + 1 => cntA P m + if 0 ≤ P m then 1 else 0
theorem cntA_s (P : Int → Int) (m : Nat) : cntA P (m + 1) = cntA P m + if 0 ≤ P m then 1 else 0 := rfl
theorem cntA_le (P : Int → Int) (m : Nat) : 0 ≤ cntA P m ∧ cntA P m ≤ m := by
  induction m with
  | zero => exact ⟨Int.le_refl _, Int.le_refl _⟩
  | succ m ih => rw [cntA_s]; split <;> omega
theorem cntA_up (P : Int → Int) {o v : Int} (hv : 0 ≤ v) (ho : P o < 0) (h0 : 0 ≤ o) : ∀ m : Nat, cntA (updF P o v) m = cntA P m + if o < m then 1 else 0 := by
  intro m
  induction m with
  | zero => rw [if_neg (by omega)]; rfl
  | succ m ih =>
    rw [cntA_s, cntA_s, ih]
    by_cases e : (m : Int) = o
    · rw [e, updF_s, if_pos hv, if_neg (show ¬ 0 ≤ P o by omega), if_neg (by omega), if_pos (by omega)]
    · rw [updF_n _ _ e]
      by_cases q : o < (m : Int)
      · rw [if_pos q, if_pos (show o < ((m + 1 : Nat) : Int) by omega)]
        omega
      · rw [if_neg q, if_neg (show ¬ o < ((m + 1 : Nat) : Int) by omega)]
        omega
theorem cntA_lt (P : Int → Int) {o : Int} (ho : P o < 0) (h0 : 0 ≤ o) {m : Nat} (hm : o < m) : cntA P m + 1 ≤ m := by
  have := cntA_up P (v := 0) (Int.le_refl _) ho h0 m
  rw [if_pos hm] at this
  have := (cntA_le (updF P o 0) m).2
  omega
def lB (B : Int → Int) (u v : Int) : Prop := u ≠ v ∧ B (20 * u + v) = 1
def inG (B : Int → Int) (n : Int) (g : Int → Prop) : Prop := ∀ u v, 0 ≤ u → u < n → 0 ≤ v → v < n → lB B u v → (g u ↔ g v)
def syB (B : Int → Int) (n : Int) : Prop := ∀ u v, 0 ≤ u → u < n → 0 ≤ v → v < n → u ≠ v → B (20 * u + v) = B (20 * v + u)
def spI (B : Int → Int) (n k : Int) (P : Int → Int) : Prop := (∀ x, 0 ≤ x → x < n → P x = -1 ∨ (0 ≤ P x ∧ P x ≤ x)) ∧ (∀ x, 0 ≤ x → x < k → 0 ≤ P x) ∧ (∀ u v, 0 ≤ u → u < n → 0 ≤ v → v < n → lB B u v → 0 ≤ P u → P v = P u) ∧ (∀ x, 0 ≤ x → x < n → 0 ≤ P x → ∀ g, inG B n g → (g x ↔ g (P x)))
theorem Na_spread_ok {n k : Int} {s : SS} {Q : SS → Prop} (hn : s.1 6 = n) (n1 : n ≤ 20) (k0 : 0 ≤ k) (k1 : k < n) (hB : ∀ u v, 0 ≤ u → u < n → 0 ≤ v → v < n → u ≠ v → rng (s.2 13 (20 * u + v))) (hsy : syB (s.2 13) n) (hI : spI (s.2 13) n k (s.2 14)) (hk0 : s.2 14 k < 0) (hk : ∀ s', frm [] [14, 15] s s' → spI (s.2 13) n (k + 1) (s'.2 14) → Q s') : Sp_Na_spreadFrom k s Q := by
  intro X18 X32 h18 h32
  let J : Int → Int → SS → Prop := fun r i s1 => frm [] [14, 15] s s1 ∧ (∀ x, 0 ≤ x → x < n → 0 ≤ s.2 14 x → s1.2 14 x = s.2 14 x) ∧ (∀ x, 0 ≤ x → x < n → s.2 14 x < 0 → s1.2 14 x = -1 ∨ (s1.2 14 x = k ∧ ∃ j, 0 ≤ j ∧ j < r ∧ s1.2 15 j = x)) ∧ (∀ j, 0 ≤ j → j < r → 0 ≤ s1.2 15 j ∧ s1.2 15 j < n ∧ s1.2 14 (s1.2 15 j) = k ∧ s.2 14 (s1.2 15 j) < 0 ∧ ∀ g, inG (s.2 13) n g → (g (s1.2 15 j) ↔ g k)) ∧ (∀ j, 0 ≤ j → j < i → ∀ v, 0 ≤ v → v < n → lB (s.2 13) (s1.2 15 j) v → 0 ≤ s1.2 14 v) ∧ s1.2 14 k = k ∧ r ≤ cntA (s1.2 14) n.toNat
  have key : ∀ (t : Nat) (r i o : Int) (s1 : SS), 1 ≤ r → 0 ≤ i → i ≤ r → r ≤ n → 0 ≤ o → o ≤ n → (20 - i) * 30 - o < t → J r i s1 → (i < r → (∀ v, 0 ≤ v → v < o → lB (s.2 13) (s1.2 15 i) v → 0 ≤ s1.2 14 v) → X32 k r i o s1) ∧ (o = 0 → X18 k r i s1) := by
    intro t
    induction t with
    | zero => intro r i o s1 a b c d e f g; omega
    | succ t ih =>
      intro r i o s1 r0 i0 i1 r1 o0 o1 ht hJ
      obtain ⟨j1, j2, j3, j4, j5, j6, j7⟩ := id hJ
      have e6 : s1.1 6 = n := by rw [j1.1 6 rfl, hn]
      have e13 : s1.2 13 = s.2 13 := j1.2 13 rfl
      have k32 : i < r → (∀ v, 0 ≤ v → v < o → lB (s.2 13) (s1.2 15 i) v → 0 ≤ s1.2 14 v) → X32 k r i o s1 := by
        intro hir hpr
        obtain ⟨q1, q2, q3, q4, q5⟩ := j4 i i0 hir
        refine h32 _ _ _ _ _ ⟨⟨by omega, by omega⟩, by rw [e6]; exact ⟨by omega, by omega⟩, fun d => ?_, fun d => ?_⟩
        · rw [e6] at d
          refine (ih r (i + 1) 0 s1 r0 (by omega) (by omega) r1 (by omega) (by omega) (by omega) ⟨j1, j2, j3, j4, fun j a b v v0 v1 hv => ?_, j6, j7⟩).2 rfl
          by_cases z : j = i
          · rw [z] at hv; exact hpr v v0 (by omega) hv
          · exact j5 j a (by omega) v v0 v1 hv
        · rw [e6] at d
          have step : ∀ s2 : SS, s2 = s1 → (lB (s.2 13) (s1.2 15 i) o → 0 ≤ s1.2 14 o) → X32 k r i (o + 1) s1 := by
            intro s2 _ ho
            refine (ih r i (o + 1) s1 r0 i0 i1 r1 (by omega) (by omega) (by omega) hJ).1 hir (fun v v0 v1 hv => ?_)
            by_cases z : v = o
            · rw [z] at hv ⊢; exact ho hv
            · exact hpr v v0 (by omega) hv
          have ho14 : rng (s1.2 14 o) := by
            by_cases z : 0 ≤ s.2 14 o
            · rw [j2 o o0 d z]
              have := hI.1 o o0 d
              exact ⟨by omega, by omega⟩
            · rcases j3 o o0 d (by omega) with w | w
              · rw [w]; decide
              · rw [w.1]; exact ⟨by omega, by omega⟩
          refine ⟨by omega, ho14, fun f => step s1 rfl (fun _ => f), fun f => ?_⟩
          have hne : s1.2 15 i ≠ o := by intro z; rw [z] at q3; omega
          rw [e13, show s1.2 15 i * 20 + o = 20 * s1.2 15 i + o by omega]
          refine ⟨by omega, by omega, hB _ _ q1 q2 o0 d hne, fun g => ?_, fun g => step s1 rfl (fun hv => absurd hv.2 g)⟩
          have hlt := cntA_lt (s1.2 14) f o0 (m := n.toNat) (by omega)
          refine ⟨by omega, fun s3 h3 => ⟨by omega, fun s4 h4 => ?_⟩⟩
          have p14 : s4.2 14 = updF (s1.2 14) o k := by rw [h4, sA_n _ _ _ (by decide), h3, sA_u]
          have p15 : s4.2 15 = updF (s1.2 15) r o := by rw [h4, sA_u, h3, sA_n _ _ _ (by decide)]
          have hP0 : s.2 14 o < 0 := by
            rcases Int.lt_or_le (s.2 14 o) 0 with z | z
            · exact z
            · rw [j2 o o0 d z] at f; omega
          have r15 : ∀ j, j < r → s4.2 15 j = s1.2 15 j := fun j hj => by rw [p15, updF_n _ _ (by omega)]
          have mono : ∀ v, 0 ≤ s1.2 14 v → 0 ≤ s4.2 14 v := fun v hv => by
            rw [p14]
            unfold updF
            split
            · exact k0
            · exact hv
          refine (ih (r + 1) i (o + 1) s4 (by omega) i0 (by omega) (by omega) (by omega) (by omega) (by omega) ⟨?_, fun x x0 x1 hx => ?_, fun x x0 x1 hx => ?_, fun j a b => ?_, fun j a b v v0 v1 hv => ?_, ?_, ?_⟩).1 (by omega) (fun v v0 v1 hv => ?_)
          · rw [h4, h3]
            exact frm_tr (frm_tr j1 (frm_A s1 _ _ (by decide))) (frm_A _ _ _ (by decide))
          · rw [p14, updF_n _ _ (fun z => by rw [z] at hx; omega)]
            exact j2 x x0 x1 hx
          · by_cases z : x = o
            · subst z
              refine Or.inr ⟨by rw [p14, updF_s], r, by omega, by omega, by rw [p15, updF_s]⟩
            · rw [p14, updF_n _ _ z]
              rcases j3 x x0 x1 hx with w | ⟨w, j, w1, w2, w3⟩
              · exact Or.inl w
              · exact Or.inr ⟨w, j, w1, by omega, by rw [r15 j w2]; exact w3⟩
          · by_cases z : j = r
            · subst z
              rw [p15, updF_s, p14, updF_s]
              refine ⟨o0, d, rfl, hP0, fun g hg => ?_⟩
              have hlo : lB (s.2 13) (s1.2 15 i) o := ⟨hne, by assumption⟩
              exact (hg _ _ q1 q2 o0 d hlo).symm.trans (q5 g hg)
            · obtain ⟨w1, w2, w3, w4, w5⟩ := j4 j a (by omega)
              rw [r15 j (by omega)]
              refine ⟨w1, w2, ?_, w4, w5⟩
              rw [p14]
              unfold updF
              split
              · rfl
              · exact w3
          · rw [r15 j (by omega)] at hv
            exact mono v (j5 j a b v v0 v1 hv)
          · rw [p14, updF_n _ _ (fun z => by rw [← z] at f; omega)]
            exact j6
          · rw [p14, cntA_up _ k0 f o0, if_pos (by omega)]
            omega
          · rw [r15 i hir] at hv
            by_cases z : v = o
            · rw [z, p14, updF_s]; exact k0
            · exact mono v (hpr v v0 (by omega) hv)
      refine ⟨k32, fun ho => ?_⟩
      have fin : r ≤ i → Q s1 := by
        intro hri
        refine hk s1 j1 ⟨fun x x0 x1 => ?_, fun x x0 x1 => ?_, fun u v u0 u1 v0 v1 hl hu => ?_, fun x x0 x1 hx g hg => ?_⟩
        · by_cases z : 0 ≤ s.2 14 x
          · rw [j2 x x0 x1 z]; exact hI.1 x x0 x1
          · have hkx : k ≤ x := by
              rcases Int.lt_or_le x k with w | w
              · have := hI.2.1 x x0 w; omega
              · exact w
            rcases j3 x x0 x1 (by omega) with w | w
            · exact Or.inl w
            · exact Or.inr (by rw [w.1]; omega)
        · by_cases z : x = k
          · rw [z, j6]; exact k0
          · have := hI.2.1 x x0 (by omega)
            rw [j2 x x0 (by omega) this]; exact this
        · by_cases z : 0 ≤ s.2 14 u
          · have hc := hI.2.2.1 u v u0 u1 v0 v1 hl z
            rw [j2 u u0 u1 z, j2 v v0 v1 (by omega), hc]
          · rcases j3 u u0 u1 (by omega) with w | ⟨w, j, w1, w2, w3⟩
            · omega
            · rw [← w3] at hl
              have hv := j5 j w1 (by omega) v v0 v1 hl
              rw [w3] at hl
              have hv0 : s.2 14 v < 0 := by
                rcases Int.lt_or_le (s.2 14 v) 0 with y | y
                · exact y
                · have hl2 : lB (s.2 13) v u := ⟨fun e => hl.1 e.symm, by rw [← hsy u v u0 u1 v0 v1 hl.1]; exact hl.2⟩
                  have := hI.2.2.1 v u v0 v1 u0 u1 hl2 y
                  omega
              rcases j3 v v0 v1 hv0 with y | y
              · omega
              · rw [y.1, w]
        · by_cases z : 0 ≤ s.2 14 x
          · rw [j2 x x0 x1 z]; exact hI.2.2.2 x x0 x1 z g hg
          · rcases j3 x x0 x1 (by omega) with w | ⟨w, j, w1, w2, w3⟩
            · omega
            · rw [w]
              have := (j4 j w1 w2).2.2.2.2 g hg
              rwa [w3] at this
      refine h18 _ _ _ _ ⟨⟨by omega, by omega⟩, ⟨by omega, by omega⟩, fin, fun d => ⟨⟨by omega, by omega⟩, fun f => by omega, fun _ => ?_⟩⟩
      rw [← ho]
      exact k32 d (fun v v0 v1 _ => by omega)
  intro s1 h1
  refine ⟨by omega, fun s2 h2 => ?_⟩
  have p14 : s2.2 14 = updF (s.2 14) k k := by rw [h2, sA_u, h1, sA_n _ _ _ (by decide)]
  have p15 : s2.2 15 = updF (s.2 15) 0 k := by rw [h2, sA_n _ _ _ (by decide), h1, sA_u]
  refine (key 100000 1 0 0 s2 (by omega) (by omega) (by omega) (by omega) (by omega) (by omega) (by omega) ⟨?_, fun x x0 x1 hx => ?_, fun x x0 x1 hx => ?_, fun j a b => ?_, fun j a b => by omega, by rw [p14, updF_s], ?_⟩).2 rfl
  · rw [h2, h1]
    exact frm_tr (frm_A s _ _ (by decide)) (frm_A _ _ _ (by decide))
  · rw [p14, updF_n _ _ (fun z => by rw [z] at hx; omega)]
  · by_cases z : x = k
    · subst z
      exact Or.inr ⟨by rw [p14, updF_s], 0, by omega, by omega, by rw [p15, updF_s]⟩
    · rw [p14, updF_n _ _ z]
      have := hI.1 x x0 x1
      omega
  · have z : j = 0 := by omega
    subst z
    rw [p15, updF_s, p14, updF_s]
    exact ⟨k0, k1, rfl, hk0, fun g hg => Iff.rfl⟩
  · rw [p14, cntA_up _ k0 hk0 k0, if_pos (by omega)]
    have := (cntA_le (s.2 14) n.toNat).1
    omega
theorem Na_persons_ok {n : Int} {s : SS} {Q : SS → Prop} (hn : s.1 6 = n) (n0 : 0 ≤ n) (n1 : n ≤ 20) (hB : ∀ u v, 0 ≤ u → u < n → 0 ≤ v → v < n → u ≠ v → rng (s.2 13 (20 * u + v))) (hsy : syB (s.2 13) n) (hk : ∀ s', frm [] [14, 15] s s' → isP (lB (s.2 13)) n (s'.2 14) → Q s') : Sp_Na_readPersons s Q := by
  intro X2 X25 h2 h25
  have key : ∀ (t : Nat) (k : Int) (s1 : SS), 0 ≤ k → k ≤ n → n - k < t → frm [] [14, 15] s s1 → spI (s.2 13) n k (s1.2 14) → X25 k s1 := by
    intro t
    induction t with
    | zero => intro k s1 a b c; omega
    | succ t ih =>
      intro k s1 k0 k1 ht hf hI
      have e6 : s1.1 6 = n := by rw [hf.1 6 rfl, hn]
      have e13 : s1.2 13 = s.2 13 := hf.2 13 rfl
      refine h25 _ _ ⟨⟨by omega, by omega⟩, by rw [e6]; exact ⟨by omega, by omega⟩, fun d => ?_, fun d => ?_⟩
      · rw [e6] at d
        have ek : k = n := by omega
        subst ek
        refine hk s1 hf ⟨fun x y x0 x1 y0 y1 h => (hI.2.2.1 x y x0 x1 y0 y1 h (hI.2.1 x x0 x1)).symm, fun x x0 x1 => ?_, fun x x0 x1 g hg => hI.2.2.2 x x0 x1 (hI.2.1 x x0 x1) g hg⟩
        have := hI.1 x x0 x1
        have := hI.2.1 x x0 x1
        omega
      · rw [e6] at d
        have hr := hI.1 k k0 d
        refine ⟨by omega, ⟨by omega, by omega⟩, fun f => ?_, fun f => ?_⟩
        · refine ih (k + 1) s1 (by omega) (by omega) (by omega) hf ⟨hI.1, fun x x0 x1 => ?_, hI.2.2.1, hI.2.2.2⟩
          by_cases z : x = k
          · rw [z]; exact f
          · exact hI.2.1 x x0 (by omega)
        · refine Na_spread_ok e6 n1 k0 d (by rw [e13]; exact hB) (by rw [e13]; exact hsy) (by rw [e13]; exact hI) f (fun s2 hf2 hI2 => ?_)
          rw [e13] at hI2
          exact ih (k + 1) s2 (by omega) (by omega) (by omega) (frm_tr hf hf2) hI2
  have ini : ∀ (t : Nat) (k : Int) (s1 : SS), 0 ≤ k → k ≤ n → n - k < t → frm [] [14, 15] s s1 → (∀ x, 0 ≤ x → x < k → s1.2 14 x = -1) → X2 k s1 := by
    intro t
    induction t with
    | zero => intro k s1 a b c; omega
    | succ t ih =>
      intro k s1 k0 k1 ht hf hI
      have e6 : s1.1 6 = n := by rw [hf.1 6 rfl, hn]
      refine h2 _ _ ⟨⟨by omega, by omega⟩, by rw [e6]; exact ⟨by omega, by omega⟩, fun d => ?_, fun d => ⟨by omega, fun s2 h2' => ?_⟩⟩
      · rw [e6] at d
        refine key 100 0 s1 (by omega) n0 (by omega) hf ⟨fun x x0 x1 => Or.inl (hI x x0 (by omega)), fun x x0 x1 => by omega, fun u v u0 u1 v0 v1 _ hu => ?_, fun x x0 x1 hx => ?_⟩
        · rw [hI u u0 (by omega)] at hu; omega
        · rw [hI x x0 (by omega)] at hx; omega
      · rw [e6] at d
        refine ih (k + 1) s2 (by omega) (by omega) (by omega) (by rw [h2']; exact frm_tr hf (frm_A s1 _ _ (by decide))) (fun x x0 x1 => ?_)
        rw [h2', sA_s]
        by_cases z : x = k
        · rw [if_pos z]
        · rw [if_neg z]; exact hI x x0 (by omega)
  exact ini 100 0 s (by omega) n0 (by omega) (frm_rf _ _ s) (fun x a b => by omega)
/-- the class's looking by e -/
def nmBy (s : SS) (e : Int) : Int := cntE (s.2 60) 1 e.toNat
theorem Na_readBy_ok {e : Int} {s : SS} {Q : SS → Prop} (hb : iBook s) (hy : iKeys s) (e0 : 0 ≤ e) (e1 : e ≤ s.1 1) (hk : ∀ s', frm [6] [13, 14, 15] s s' → s'.1 6 = nmBy s e → (∀ u v, 0 ≤ u → u < nmBy s e → 0 ≤ v → v < nmBy s e → u ≠ v → s'.2 13 (20 * u + v) = lk s e u v) → isP (linked s e) (nmBy s e) (s'.2 14) → dg s s' → Q s') : Sp_Na_readBy e s Q := by
  obtain ⟨b1, b2, b3, b4, b5, b6, b7, b8, b9, b10, b11, b12, b13, b14⟩ := id hb
  have hc := bkN_cnt b6 e0 e1
  have hc : 0 ≤ nmBy s e ∧ nmBy s e ≤ s.1 4 := hc
  intro X5 X48 h5 h48
  have mD2 := fun {m n : Nat} (h : m ≤ n) => cntE_mono (s.2 60) 2 h
  have mD3 := fun {m n : Nat} (h : m ≤ n) => cntE_mono (s.2 60) 3 h
  -- the decrees
  have dec : ∀ (t : Nat) (i : Int) (n : Nat) (s1 : SS), 0 ≤ i → i ≤ s.1 5 → s.1 5 - i < t → (n : Int) ≤ e → cntD (s.2 60) n = min i (cntD (s.2 60) e.toNat) → frm [6] [13] s s1 ∧ dg s s1 → s1.1 6 = nmBy s e → (∀ u v, 0 ≤ u → u < nmBy s e → 0 ≤ v → v < nmBy s e → u ≠ v → s1.2 13 (20 * u + v) = lkN (s.2 7) (s.2 6) (s.2 60) (s.2 61) (s.2 62) n u v) → X48 e i s1 := by
    intro t
    induction t with
    | zero => intro i n s1 a b c; omega
    | succ t ih =>
      intro i n s1 i0 i1 ht ne nc hfd e6 hl
      have hf := hfd.1
      have q5 : s1.1 5 = s.1 5 := hf.1 5 rfl
      refine h48 _ _ _ ⟨⟨by omega, by omega⟩, by rw [q5]; exact ⟨by omega, by omega⟩, fun d => ?_, fun d => ?_⟩
      · rw [q5] at d
        have hce : cntD (s.2 60) e.toNat ≤ s.1 5 := by
          have h1 := b9.1
          have h2 := mD2 (show e.toNat ≤ (s.1 1).toNat by omega)
          have h3 := mD3 (show e.toNat ≤ (s.1 1).toNat by omega)
          unfold cntD at h1 ⊢
          omega
        have hl2 : ∀ u v, 0 ≤ u → u < nmBy s e → 0 ≤ v → v < nmBy s e → u ≠ v → s1.2 13 (20 * u + v) = lk s e u v := by
          intro u v u0 u1 v0 v1 huv
          rw [hl u v u0 u1 v0 v1 huv]
          unfold lk lkN
          rw [bndE_eq (show cntD (s.2 60) n = cntD (s.2 60) e.toNat by omega)]
        refine Na_persons_ok e6 hc.1 (by omega) (fun u v u0 u1 v0 v1 huv => ?_) (fun u v u0 u1 v0 v1 huv => ?_) (fun s' hf' hP => ?_)
        · rw [hl2 u v u0 u1 v0 v1 huv]
          rcases lk_v s e u v with z | z | z <;> rw [z] <;> decide
        · rw [hl2 u v u0 u1 v0 v1 huv, hl2 v u v0 v1 u0 u1 (fun z => huv z.symm), lk_sy]
        · have hiff : ∀ u v, 0 ≤ u → u < nmBy s e → 0 ≤ v → v < nmBy s e → (lB (s1.2 13) u v ↔ linked s e u v) := fun u v u0 u1 v0 v1 => by
            unfold lB linked
            refine and_congr_right (fun huv => ?_)
            rw [hl2 u v u0 u1 v0 v1 huv]
          refine hk s' (frm_tr (frm_mono hf (fun _ h => h) (by decide)) (frm_mono hf' (by decide) (by decide))) (by rw [hf'.1 6 rfl, e6]) (fun u v u0 u1 v0 v1 huv => by rw [hf'.2 13 rfl]; exact hl2 u v u0 u1 v0 v1 huv) ⟨fun x y x0 x1 y0 y1 h => hP.1 x y x0 x1 y0 y1 ((hiff x y x0 x1 y0 y1).mpr h), hP.2.1, fun x x0 x1 g hg => hP.2.2 x x0 x1 g (fun u v u0 u1 v0 v1 h => hg u v u0 u1 v0 v1 ((hiff u v u0 u1 v0 v1).mp h))⟩ (fun u u0 u1 => by rw [hf'.2 13 rfl]; exact hfd.2 u u0 u1)
      · rw [q5] at d
        obtain ⟨z1, z2, z3, z4, z5, z6, z7, z8⟩ := b9.2 i i0 d
        have q12 : s1.2 12 i = s.2 12 i := by rw [hf.2 12 rfl]
        have q9 : s1.2 9 i = s.2 9 i := by rw [hf.2 9 rfl]
        have q10 : s1.2 10 i = s.2 10 i := by rw [hf.2 10 rfl]
        have q11 : s1.2 11 i = s.2 11 i := by rw [hf.2 11 rfl]
        rw [q12, q9, q10, q11]
        refine ⟨by omega, ⟨by omega, by omega⟩, ⟨by omega, by omega⟩, fun f => ?_, fun f => ⟨by omega, by omega, by omega, ?_⟩⟩
        · refine ih (i + 1) n s1 (by omega) (by omega) (by omega) ne ?_ hfd e6 hl
          have h2 := mD2 (show e.toNat ≤ (s.2 12 i).toNat by omega)
          have h3 := mD3 (show e.toNat ≤ (s.2 12 i).toNat by omega)
          unfold cntD at nc z5 ⊢
          omega
        · refine Na_tie_ok ⟨by omega, by omega⟩ ⟨by omega, by omega⟩ (fun s2 hf2 e2 => ?_)
          have h2 := mD2 (show (s.2 12 i).toNat + 1 ≤ e.toNat by omega)
          have h3 := mD3 (show (s.2 12 i).toNat + 1 ≤ e.toNat by omega)
          have ecast : (((s.2 12 i).toNat : Nat) : Int) = s.2 12 i := by omega
          have c1 : cntD (s.2 60) ((s.2 12 i).toNat + 1) = i + 1 := by
            unfold cntD at z5 ⊢
            rw [cntE_s, cntE_s, ecast]
            rcases z2 with z2 | z2
            · rw [if_pos z2.1, if_neg (by rw [z2.1]; decide)]; omega
            · rw [if_neg (by rw [z2.1]; decide), if_pos z2.1]; omega
          have c2 : i + 1 ≤ cntD (s.2 60) e.toNat := by
            unfold cntD at c1 ⊢
            omega
          refine ih (i + 1) ((s.2 12 i).toNat + 1) s2 (by omega) (by omega) (by omega) (by omega) (by rw [c1]; omega) ⟨frm_tr hf (frm_mono hf2 (by decide) (fun _ h => h)), fun u u0 u1 => by rw [e2 u u u0 u1 u0 u1, if_neg (by omega)]; exact hfd.2 u u0 u1⟩ (by rw [hf2.1 6 rfl, e6]) (fun u v u0 u1 v0 v1 huv => ?_)
          rw [e2 u v u0 (by omega) v0 (by omega)]
          unfold lkN
          rw [bndE_s, ecast, z3, z4]
          by_cases hm : (u = s.2 9 i ∧ v = s.2 10 i) ∨ (u = s.2 10 i ∧ v = s.2 9 i)
          · rw [if_pos hm]
            have hm2 : (s.2 60 (s.2 12 i) = 2 ∨ s.2 60 (s.2 12 i) = 3) ∧ ((s.2 9 i = u ∧ s.2 10 i = v) ∨ (s.2 9 i = v ∧ s.2 10 i = u)) := ⟨by omega, by omega⟩
            rcases z2 with z2 | z2
            · have e3 : (if (s.2 60 (s.2 12 i) = 2 ∨ s.2 60 (s.2 12 i) = 3) ∧ ((s.2 9 i = u ∧ s.2 10 i = v) ∨ (s.2 9 i = v ∧ s.2 10 i = u)) then (if s.2 60 (s.2 12 i) = 2 then (1 : Int) else 2) else bndE (s.2 60) (s.2 61) (s.2 62) u v (s.2 12 i).toNat) = 1 := by rw [if_pos hm2, if_pos z2.1]
              rw [e3, if_neg (by decide)]
              exact z2.2
            · have e3 : (if (s.2 60 (s.2 12 i) = 2 ∨ s.2 60 (s.2 12 i) = 3) ∧ ((s.2 9 i = u ∧ s.2 10 i = v) ∨ (s.2 9 i = v ∧ s.2 10 i = u)) then (if s.2 60 (s.2 12 i) = 2 then (1 : Int) else 2) else bndE (s.2 60) (s.2 61) (s.2 62) u v (s.2 12 i).toNat) = 2 := by rw [if_pos hm2, if_neg (by rw [z2.1]; decide)]
              rw [e3, if_neg (by decide)]
              exact z2.2
          · rw [if_neg hm]
            have e3 : (if (s.2 60 (s.2 12 i) = 2 ∨ s.2 60 (s.2 12 i) = 3) ∧ ((s.2 9 i = u ∧ s.2 10 i = v) ∨ (s.2 9 i = v ∧ s.2 10 i = u)) then (if s.2 60 (s.2 12 i) = 2 then (1 : Int) else 2) else bndE (s.2 60) (s.2 61) (s.2 62) u v (s.2 12 i).toNat) = bndE (s.2 60) (s.2 61) (s.2 62) u v n := by
              rw [if_neg (by omega)]
              exact bndE_eq (by omega)
            rw [e3, hl u v u0 u1 v0 v1 huv]
            rfl
  have keys : ∀ s1 : SS, frm [6] [13] s s1 ∧ dg s s1 → s1.1 6 = nmBy s e → Sp_Na_readKeys s1 (fun s3 => X48 e 0 s3) := by
    intro s1 hfd e6
    have hf := hfd.1
    have hy1 : iKeys s1 := iKeys_agr (agr_of hf (by decide)) hy
    refine Na_readKeys_ok hy1 (by rw [hf.1 4 rfl]; omega) e6 hc.1 (by rw [hf.1 4 rfl]; exact hc.2) (fun s3 hf3 hg3 hl => ?_)
    refine dec 300 0 0 s3 (by omega) b5.1 (by omega) (by omega) ?_ ⟨frm_tr hf (frm_mono hf3 (by decide) (fun _ h => h)), fun u u0 u1 => (hg3 u u0 u1).trans (hfd.2 u u0 u1)⟩ (by rw [hf3.1 6 rfl, e6]) (fun u v u0 u1 v0 v1 huv => ?_)
    · have h2 := (cntE_b (s.2 60) 2 e.toNat).1
      have h3 := (cntE_b (s.2 60) 3 e.toNat).1
      have z0 : cntD (s.2 60) 0 = 0 := rfl
      rw [z0]
      unfold cntD
      omega
    · rw [hl u v u0 u1 v0 v1 huv, hf.2 7 rfl, hf.2 6 rfl]
      rfl
  have cnt : ∀ (t : Nat) (k : Int) (s1 : SS), 0 ≤ k → k ≤ nmBy s e → nmBy s e - k < t → frm [6] [] s s1 → s1.1 6 = k → X5 e s1 := by
    intro t
    induction t with
    | zero => intro k s1 a b c; omega
    | succ t ih =>
      intro k s1 k0 k1 ht hf e6
      have q4 : s1.1 4 = s.1 4 := hf.1 4 rfl
      have q8 : s1.2 8 = s.2 8 := hf.2 8 rfl
      have fin : k = nmBy s e → Sp_Na_readKeys s1 (fun s3 => X48 e 0 s3) := fun z => keys s1 ⟨frm_mono hf (fun _ h => h) (by decide), fun u _ _ => by rw [hf.2 13 rfl]⟩ (by rw [e6, z])
      refine h5 _ _ ⟨by rw [e6]; exact ⟨by omega, by omega⟩, by rw [q4]; exact ⟨by omega, by omega⟩, fun d => fin (by omega), fun d => ?_⟩
      rw [e6, q4] at d
      have hby := bkN_by b6 e0 e1 k0 d
      have hby : s.2 8 k < e ↔ k < nmBy s e := hby
      have hat := b6.2 k k0 d
      rw [e6, q8]
      refine ⟨by omega, ⟨by omega, by omega⟩, ⟨by omega, by omega⟩, fun f => fin ?_, fun f => fun s4 h4 => ?_⟩
      · rcases Int.lt_or_le k (nmBy s e) with z | z
        · have := hby.mpr z; omega
        · omega
      · exact ih (k + 1) s4 (by omega) (by have := hby.mp f; omega) (by omega) (by rw [h4]; exact frm_tr hf (frm_F s1 _ (by decide))) (by rw [h4, sF_s])
  intro s1 h1
  exact cnt 100 0 s1 (by omega) hc.1 (by omega) (by rw [h1]; exact frm_F s _ (by decide)) (by rw [h1, sF_s])
end
