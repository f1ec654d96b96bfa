section
/-! tie: steps by width (the class) and by rounds (the model) -/
def isD (L : Int → Int → Prop) (n c : Int) (D : Int → Int) : Prop := D c = 0 ∧ (∀ x, 0 ≤ x → x < n → 0 ≤ D x ∧ D x ≤ 20 ∧ (D x < 20 → D x < n)) ∧ (∀ x y, 0 ≤ x → x < n → 0 ≤ y → y < n → L x y → D x < 20 → D y < 20 ∧ D y ≤ D x + 1) ∧ (∀ x, 0 ≤ x → x < n → D x < 20 → x = c ∨ ∃ y, 0 ≤ y ∧ y < n ∧ L y x ∧ D x = D y + 1)
def isW (L : Int → Int → Prop) (n f : Int) (D w : Int → Int) (m : Int) : Prop := w 0 = f ∧ ∀ i, 1 ≤ i → i < m → (0 ≤ w i ∧ w i < n) ∧ L (w (i - 1)) (w i) ∧ D (w i) = D f - i ∧ ∀ z, 0 ≤ z → z < w i → L (w (i - 1)) z → D z ≠ D f - i
theorem isW_uniq {L : Int → Int → Prop} {n f m : Int} {D w v : Int → Int} (hw : isW L n f D w m) (hv : isW L n f D v m) : ∀ t : Nat, (t : Int) < m → w t = v t := by
  intro t
  induction t with
  | zero => intro _; exact hw.1.trans hv.1.symm
  | succ t ih =>
    intro ht
    have e := ih (by omega)
    obtain ⟨a1, a2, a3, a4⟩ := hw.2 ((t + 1 : Nat) : Int) (by omega) ht
    obtain ⟨c1, c2, c3, c4⟩ := hv.2 ((t + 1 : Nat) : Int) (by omega) ht
    rw [show ((t + 1 : Nat) : Int) - 1 = t by omega] at a2 a4 c2 c4
    rw [← e] at c2 c4
    rcases Int.lt_trichotomy (w ((t + 1 : Nat) : Int)) (v ((t + 1 : Nat) : Int)) with q | q | q
    · exact absurd a3 (c4 _ a1.1 q a2)
    · exact q
    · exact absurd c3 (a4 _ c1.1 q c2)
theorem cntA_d {D : Int → Int} {o v : Int} : (fun x => 19 - updF D o v x) = updF (fun x => 19 - D x) o (19 - v) := by
  funext x
  unfold updF
  split <;> rfl
theorem Na_steps_ok {n c : Int} {s : SS} {Q : SS → Prop} {L : Int → Int → Prop} (hn : s.1 6 = n) (n1 : n ≤ 20) (c0 : 0 ≤ c) (c1 : c < n) (hB : ∀ u v, 0 ≤ u → u < n → 0 ≤ v → v < n → u ≠ v → rng (s.2 13 (20 * u + v)) ∧ (s.2 13 (20 * u + v) = 1 ↔ L u v)) (hne : ∀ u v, L u v → u ≠ v) (hk : ∀ s', frm [] [15, 16] s s' → isD L n c (s'.2 16) → Q s') : Sp_Na_countStepsTo c s Q := by
  intro X2 X42 X56 h2 h42 h56
  let J : Int → Int → SS → Prop := fun r i s1 => frm [] [15, 16] s s1 ∧ (∀ x, 0 ≤ x → x < n → s1.2 16 x = 20 ∨ (0 ≤ s1.2 16 x ∧ ∃ j, 0 ≤ j ∧ j < r ∧ s1.2 15 j = x)) ∧ (∀ j, 0 ≤ j → j < r → 0 ≤ s1.2 15 j ∧ s1.2 15 j < n ∧ 0 ≤ s1.2 16 (s1.2 15 j) ∧ s1.2 16 (s1.2 15 j) ≤ j) ∧ (∀ j k, 0 ≤ j → j ≤ k → k < r → s1.2 16 (s1.2 15 j) ≤ s1.2 16 (s1.2 15 k)) ∧ (i < r → ∀ j, 0 ≤ j → j < r → s1.2 16 (s1.2 15 j) ≤ s1.2 16 (s1.2 15 i) + 1) ∧ (∀ j, 0 ≤ j → j < i → ∀ v, 0 ≤ v → v < n → L (s1.2 15 j) v → s1.2 16 v < 20 ∧ s1.2 16 v ≤ s1.2 16 (s1.2 15 j) + 1) ∧ s1.2 16 c = 0 ∧ (∀ x, 0 ≤ x → x < n → s1.2 16 x < 20 → x = c ∨ ∃ y, 0 ≤ y ∧ y < n ∧ L y x ∧ s1.2 16 x = s1.2 16 y + 1 ∧ s1.2 16 y < 20) ∧ r ≤ cntA (fun x => 19 - s1.2 16 x) n.toNat
  have key : ∀ (t : Nat) (r i o : Int) (s1 : SS), 1 ≤ r → 0 ≤ i → i ≤ r → r ≤ n → 0 ≤ o → o ≤ n → (20 - i) * 30 - o < t → J r i s1 → (i < r → (∀ v, 0 ≤ v → v < o → L (s1.2 15 i) v → s1.2 16 v < 20 ∧ s1.2 16 v ≤ s1.2 16 (s1.2 15 i) + 1) → X56 r i o s1) ∧ (o = 0 → X42 r i s1) := by
    intro t
    induction t with
    | zero => intro r i o s1 a b c d e f g; omega
    | succ t ih =>
      intro r i o s1 r0 i0 i1 r1 o0 o1 ht hJ
      obtain ⟨j1, j2, j3, j4, j5, j6, j7, j8, j9⟩ := id hJ
      have e6 : s1.1 6 = n := by rw [j1.1 6 rfl, hn]
      have e13 : s1.2 13 = s.2 13 := j1.2 13 rfl
      have k56 : i < r → (∀ v, 0 ≤ v → v < o → L (s1.2 15 i) v → s1.2 16 v < 20 ∧ s1.2 16 v ≤ s1.2 16 (s1.2 15 i) + 1) → X56 r i o s1 := by
        intro hir hpr
        obtain ⟨q1, q2, q3, q4⟩ := j3 i i0 hir
        refine h56 _ _ _ _ ⟨⟨by omega, by omega⟩, by rw [e6]; exact ⟨by omega, by omega⟩, fun d => ?_, fun d => ?_⟩
        · rw [e6] at d
          refine (ih r (i + 1) 0 s1 r0 (by omega) (by omega) r1 (by omega) (by omega) (by omega) ⟨j1, j2, j3, j4, fun hi j a b => ?_, fun j a b v v0 v1 hv => ?_, j7, j8, j9⟩).2 rfl
          · have w1 := j5 hir j a b
            have w2 := j4 i (i + 1) i0 (by omega) hi
            omega
          · by_cases z : j = i
            · rw [z] at hv ⊢; exact hpr v v0 (by omega) hv
            · exact j6 j a (by omega) v v0 v1 hv
        · rw [e6] at d
          have step : (L (s1.2 15 i) o → s1.2 16 o < 20 ∧ s1.2 16 o ≤ s1.2 16 (s1.2 15 i) + 1) → X56 r i (o + 1) s1 := by
            intro ho
            refine (ih r i (o + 1) s1 r0 i0 i1 r1 (by omega) (by omega) (by omega) hJ).1 hir (fun v v0 v1 hv => ?_)
            by_cases z : v = o
            · rw [z] at hv ⊢; exact ho hv
            · exact hpr v v0 (by omega) hv
          have ho := j2 o o0 d
          have ho16 : 0 ≤ s1.2 16 o ∧ s1.2 16 o ≤ 20 := by
            rcases ho with w | ⟨w, j, w1, w2, w3⟩
            · omega
            · have := j3 j w1 w2
              rw [w3] at this
              omega
          refine ⟨by omega, ⟨by omega, by omega⟩, fun f => step (fun _ => ⟨f, ?_⟩), fun f => ?_⟩
          · rcases ho with w | ⟨w, j, w1, w2, w3⟩
            · omega
            · have := j5 hir j w1 w2
              rw [w3] at this
              exact this
          have hne' : s1.2 15 i ≠ o := by intro z; rw [z] at q4; omega
          have hb := hB _ _ q1 q2 o0 d hne'
          refine ⟨by omega, by omega, ?_⟩
          rw [e13, show s1.2 15 i * 20 + o = 20 * s1.2 15 i + o by omega]
          refine ⟨hb.1, fun g => ⟨by omega, ⟨by omega, by omega⟩, by omega, fun s3 h3 => ?_⟩, fun g => step (fun hv => absurd (hb.2.mpr hv) g)⟩
          have hl := hb.2.mp g
          have hlt := cntA_lt (fun x => 19 - s1.2 16 x) (o := o) (show 19 - s1.2 16 o < 0 by omega) o0 (m := n.toNat) (by omega)
          refine ⟨by omega, fun s4 h4 => ?_⟩
          have p16 : s4.2 16 = updF (s1.2 16) o (s1.2 16 (s1.2 15 i) + 1) := by rw [h4, sA_n _ _ _ (by decide), h3, sA_u]
          have p15 : s4.2 15 = updF (s1.2 15) r o := by rw [h4, sA_u, h3, sA_n _ _ _ (by decide)]
          have r15 : ∀ j, j < r → s4.2 15 j = s1.2 15 j := fun j hj => by rw [p15, updF_n _ _ (by omega)]
          have r15r : s4.2 15 r = o := by rw [p15, updF_s]
          have noO : ∀ x, s1.2 16 x < 20 → x ≠ o := fun x hx z => by rw [z] at hx; omega
          have r16 : ∀ x, s1.2 16 x < 20 → s4.2 16 x = s1.2 16 x := fun x hx => by rw [p16, updF_n _ _ (noO x hx)]
          have r16o : s4.2 16 o = s1.2 16 (s1.2 15 i) + 1 := by rw [p16, updF_s]
          have rj : ∀ j, 0 ≤ j → j < r → s4.2 16 (s4.2 15 j) = s1.2 16 (s1.2 15 j) := fun j a b => by
            have := j3 j a b
            rw [r15 j b, r16 _ (by omega)]
          have rr : s4.2 16 (s4.2 15 r) = s1.2 16 (s1.2 15 i) + 1 := by rw [r15r, r16o]
          refine (ih (r + 1) i (o + 1) s4 (by omega) i0 (by omega) (by omega) (by omega) (by omega) (by omega) ⟨?_, fun x x0 x1 => ?_, fun j a b => ?_, fun j k a b e => ?_, fun _ j a b => ?_, fun j a b v v0 v1 hv => ?_, ?_, fun x x0 x1 hx => ?_, ?_⟩).1 (by omega) (fun v v0 v1 hv => ?_)
          · rw [h4, h3]
            exact frm_tr (frm_tr j1 (frm_A s1 _ _ (by decide))) (frm_A _ _ _ (by decide))
          · by_cases z : x = o
            · subst z
              exact Or.inr ⟨by rw [r16o]; omega, r, by omega, by omega, r15r⟩
            · rw [p16, updF_n _ _ z]
              rcases j2 x x0 x1 with w | ⟨w, j, w1, w2, w3⟩
              · exact Or.inl w
              · exact Or.inr ⟨w, j, w1, by omega, by rw [r15 j w2]; exact w3⟩
          · by_cases z : j = r
            · rw [z, rr, r15r]
              exact ⟨o0, d, by omega, by omega⟩
            · have := j3 j a (by omega)
              rw [rj j a (by omega), r15 j (by omega)]
              exact this
          · by_cases z : k = r
            · subst z
              rw [rr]
              by_cases y : j = k
              · rw [y, rr]; omega
              · rw [rj j a (by omega)]
                exact j5 hir j a (by omega)
            · rw [rj j a (by omega), rj k (by omega) (by omega)]
              exact j4 j k a b (by omega)
          · rw [rj i i0 hir]
            by_cases y : j = r
            · rw [y, rr]; omega
            · rw [rj j a (by omega)]
              exact j5 hir j a (by omega)
          · rw [rj j a (by omega)]
            rw [r15 j (by omega)] at hv
            have := j6 j a b v v0 v1 hv
            rw [r16 v this.1]
            exact this
          · rw [r16 c (by omega)]; exact j7
          · by_cases z : x = o
            · subst z
              exact Or.inr ⟨s1.2 15 i, q1, q2, hl, by rw [r16o, r16 _ (by omega)], by rw [r16 _ (by omega)]; omega⟩
            · rw [p16, updF_n _ _ z] at hx
              rcases j8 x x0 x1 hx with w | ⟨y, y1, y2, y3, y4, y5⟩
              · exact Or.inl w
              · exact Or.inr ⟨y, y1, y2, y3, by rw [r16 x hx, r16 y y5]; exact y4, by rw [r16 y y5]; exact y5⟩
          · have : cntA (fun x => 19 - s4.2 16 x) n.toNat = cntA (fun x => 19 - s1.2 16 x) n.toNat + 1 := by
              rw [p16, cntA_d, cntA_up (fun x => 19 - s1.2 16 x) (by omega) (show 19 - s1.2 16 o < 0 by omega) o0, if_pos (by omega)]
            omega
          · rw [rj i i0 hir]
            rw [r15 i hir] at hv
            by_cases z : v = o
            · rw [z, r16o]; omega
            · have := hpr v v0 (by omega) hv
              rw [r16 v this.1]
              exact this
      refine ⟨k56, fun ho => ?_⟩
      have fin : r ≤ i → Q s1 := by
        intro hri
        refine hk s1 j1 ⟨j7, fun x x0 x1 => ?_, fun x y x0 x1 y0 y1 hl hx => ?_, fun x x0 x1 hx => ?_⟩
        · rcases j2 x x0 x1 with w | ⟨w, j, w1, w2, w3⟩
          · omega
          · have := j3 j w1 w2
            rw [w3] at this
            omega
        · rcases j2 x x0 x1 with w | ⟨w, j, w1, w2, w3⟩
          · omega
          · have := j6 j w1 (by omega) y y0 y1 (by rw [w3]; exact hl)
            rw [w3] at this
            exact this
        · rcases j8 x x0 x1 hx with w | ⟨y, y1, y2, y3, y4, y5⟩
          · exact Or.inl w
          · exact Or.inr ⟨y, y1, y2, y3, y4⟩
      refine h42 _ _ _ ⟨⟨by omega, by omega⟩, ⟨by omega, by omega⟩, fin, fun d => ⟨⟨by omega, by omega⟩, fun f => by omega, fun _ => ?_⟩⟩
      rw [← ho]
      exact k56 d (fun v v0 v1 _ => by omega)
  have ini : ∀ (t : Nat) (k : Int) (s1 : SS), 0 ≤ k → k ≤ n → n - k < t → frm [] [15, 16] s s1 → (∀ x, 0 ≤ x → x < k → s1.2 16 x = 20) → X2 c k s1 := by
    intro t
    induction t with
    | zero => intro k s1 a b c; omega
    | succ t ih =>
      intro k s1 k0 k1 ht hf hI
      have e6 : s1.1 6 = n := by rw [hf.1 6 rfl, hn]
      refine h2 _ _ _ ⟨⟨by omega, by omega⟩, by rw [e6]; exact ⟨by omega, by omega⟩, fun d => ?_, fun d => ⟨by omega, fun s2 h2' => ?_⟩⟩
      · rw [e6] at d
        intro s2 h2' 
        refine ⟨by omega, fun s3 h3 => ?_⟩
        have p16 : s3.2 16 = updF (s1.2 16) c 0 := by rw [h3, sA_u, h2', sA_n _ _ _ (by decide)]
        have p15 : s3.2 15 = updF (s1.2 15) 0 c := by rw [h3, sA_n _ _ _ (by decide), h2', sA_u]
        have x15 : s3.2 15 0 = c := by rw [p15, updF_s]
        have xc : s3.2 16 c = 0 := by rw [p16, updF_s]
        have x16 : ∀ x, 0 ≤ x → x < n → x ≠ c → s3.2 16 x = 20 := fun x x0 x1 z => by rw [p16, updF_n _ _ z]; exact hI x x0 (by omega)
        refine (key 100000 1 0 0 s3 (by omega) (by omega) (by omega) (by omega) (by omega) (by omega) (by omega) ⟨?_, fun x x0 x1 => ?_, fun j a b => ?_, fun j k a b e => ?_, fun _ j a b => ?_, fun j a b => by omega, xc, fun x x0 x1 hx => ?_, ?_⟩).2 rfl
        · rw [h3, h2']
          exact frm_tr hf (frm_tr (frm_A _ _ _ (by decide)) (frm_A _ _ _ (by decide)))
        · by_cases z : x = c
          · rw [z]
            exact Or.inr ⟨by omega, 0, by omega, by omega, x15⟩
          · exact Or.inl (x16 x x0 x1 z)
        · rw [show j = 0 by omega, x15, xc]; omega
        · rw [show j = 0 by omega, show k = 0 by omega]; omega
        · rw [show j = 0 by omega]; omega
        · by_cases z : x = c
          · exact Or.inl z
          · have := x16 x x0 x1 z; omega
        · have hc := hI c c0 (by omega)
          have : cntA (fun x => 19 - s3.2 16 x) n.toNat = cntA (fun x => 19 - s1.2 16 x) n.toNat + 1 := by
            rw [p16, cntA_d, cntA_up (fun x => 19 - s1.2 16 x) (by omega) (show 19 - s1.2 16 c < 0 by omega) c0, if_pos (by omega)]
          have := (cntA_le (fun x => 19 - s1.2 16 x) n.toNat).1
          omega
      · rw [e6] at d
        refine ih (k + 1) s2 (by omega) (by omega) (by omega) (by rw [h2']; exact frm_tr hf (frm_A s1 _ _ (by decide))) (fun x x0 x1 => ?_)
        rw [h2', sA_s]
        by_cases z : x = k
        · rw [if_pos z]
        · rw [if_neg z]; exact hI x x0 (by omega)
  exact ini 100 0 s (by omega) (by omega) (by omega) (frm_rf _ _ s) (fun x a b => by omega)
theorem Na_nearer_ok {n h : Int} {s : SS} {Q : Int → SS → Prop} {L : Int → Int → Prop} (hn : s.1 6 = n) (n1 : n ≤ 20) (h0 : 0 ≤ h) (h1 : h < n) (hB : ∀ u v, 0 ≤ u → u < n → 0 ≤ v → v < n → u ≠ v → rng (s.2 13 (20 * u + v)) ∧ (s.2 13 (20 * u + v) = 1 ↔ L u v)) (hne : ∀ u v, L u v → u ≠ v) (hd : rng (s.2 13 (20 * h + h))) (hD : ∀ x, 0 ≤ x → x < n → 0 ≤ s.2 16 x ∧ s.2 16 x ≤ 20) (hx : ∃ y, 0 ≤ y ∧ y < n ∧ L h y ∧ s.2 16 y < s.2 16 h) (hk : ∀ z, 0 ≤ z → z < n → L h z → s.2 16 z < s.2 16 h → (∀ y, 0 ≤ y → y < z → ¬ (L h y ∧ s.2 16 y < s.2 16 h)) → Q z s) : Sp_Na_nearerThan h s Q := by
  intro X2 h2
  have key : ∀ (t : Nat) (o : Int), 0 ≤ o → o ≤ n → n - o < t → (∀ y, 0 ≤ y → y < o → ¬ (L h y ∧ s.2 16 y < s.2 16 h)) → X2 h o s := by
    intro t
    induction t with
    | zero => intro o a b c; omega
    | succ t ih =>
      intro o o0 o1 ht hno
      refine h2 _ _ _ ⟨⟨by omega, by omega⟩, by rw [hn]; exact ⟨by omega, by omega⟩, fun d => ?_, fun d => ⟨by omega, ?_⟩⟩
      · rw [hn] at d
        obtain ⟨y, y0, y1, y2, y3⟩ := hx
        exact absurd ⟨y2, y3⟩ (hno y y0 (by omega))
      · rw [hn] at d
        rw [show h * 20 + o = 20 * h + o by omega]
        have next : ¬ (L h o ∧ s.2 16 o < s.2 16 h) → X2 h (o + 1) s := fun hh => ih (o + 1) (by omega) (by omega) (by omega) (fun y y0 y1 => by
          by_cases z : y = o
          · rw [z]; exact hh
          · exact hno y y0 (by omega))
        have dh := hD h h0 h1
        have dO := hD o o0 d
        by_cases e : h = o
        · refine ⟨by rw [← e]; exact hd, fun _ => next (fun q => hne _ _ q.1 e), fun _ => ⟨by omega, by omega, ⟨by omega, by omega⟩, ⟨by omega, by omega⟩, fun _ => next (fun q => hne _ _ q.1 e), fun q => by rw [e] at q; omega⟩⟩
        · obtain ⟨w1, w2⟩ := hB h o h0 h1 o0 d e
          refine ⟨w1, fun f => next (fun q => f (w2.mpr q.1)), fun f => ⟨by omega, by omega, ⟨by omega, by omega⟩, ⟨by omega, by omega⟩, fun g => next (fun q => by omega), fun g => hk o o0 d (w2.mp f) g hno⟩⟩
  exact key 100 0 (by omega) (by omega) (by omega) (fun y a b => by omega)
theorem Na_readTie_ok {n f c : Int} {s : SS} {Q : Int → SS → Prop} {L : Int → Int → Prop} (hn : s.1 6 = n) (n1 : n ≤ 20) (c0 : 0 ≤ c) (c1 : c < n) (f0 : 0 ≤ f) (f1 : f < n) (hB : ∀ u v, 0 ≤ u → u < n → 0 ≤ v → v < n → u ≠ v → rng (s.2 13 (20 * u + v)) ∧ (s.2 13 (20 * u + v) = 1 ↔ L u v)) (hne : ∀ u v, L u v → u ≠ v) (hsy : ∀ u v, 0 ≤ u → u < n → 0 ≤ v → v < n → L u v → L v u) (hd : ∀ u, 0 ≤ u → u < n → rng (s.2 13 (20 * u + u))) (hP : ∀ g : Int → Prop, (∀ u v, 0 ≤ u → u < n → 0 ≤ v → v < n → L u v → (g u ↔ g v)) → (g c → g f)) (hk : ∀ s' D, frm [] [15, 16] s s' → isD L n c D → D f < 20 → isW L n f D (s'.2 15) (D f + 1) → Q (D f + 1) s') : Sp_Na_readTie f c s Q := by
  intro X32 h32
  refine Na_steps_ok hn n1 c0 c1 hB hne (fun s1 hf1 hD => ⟨by omega, ?_⟩)
  obtain ⟨d1, d2, d3, d4⟩ := id hD
  have df20 : s1.2 16 f < 20 := hP (fun x => s1.2 16 x < 20) (fun u v u0 u1 v0 v1 hl => ⟨fun q => (d3 u v u0 u1 v0 v1 hl q).1, fun q => (d3 v u v0 v1 u0 u1 (hsy u v u0 u1 v0 v1 hl) q).1⟩) (show s1.2 16 c < 20 by omega)
  have df := d2 f f0 f1
  have e13 : s1.2 13 = s.2 13 := hf1.2 13 rfl
  refine ⟨⟨by omega, by omega⟩, fun s2 h2 => ?_⟩
  rw [show min (s1.2 16 f + 1) 20 = s1.2 16 f + 1 by omega]
  generalize hDD : s1.2 16 = D at *
  have loop : ∀ (t : Nat) (i h : Int) (s3 : SS), 1 ≤ i → i ≤ D f + 1 → D f + 1 - i < t → frm [] [15, 16] s s3 → s3.2 16 = D → s3.2 15 (i - 1) = h → 0 ≤ h → h < n → D h = D f - (i - 1) → isW L n f D (s3.2 15) i → X32 (D f + 1) h i s3 := by
    intro t
    induction t with
    | zero => intro i h s3 a b c; omega
    | succ t ih =>
      intro i h s3 i0 i1 ht hf3 eD eh hh0 hh1 ed hW
      have p6 : s3.1 6 = n := by rw [hf3.1 6 rfl, hn]
      have p13 : s3.2 13 = s.2 13 := hf3.2 13 rfl
      refine h32 _ _ _ _ ⟨⟨by omega, by omega⟩, ⟨by omega, by omega⟩, fun d => ?_, fun d => ?_⟩
      · rw [show i = D f + 1 by omega] at hW
        exact hk s3 D hf3 hD df20 hW
      · refine Na_nearer_ok p6 n1 hh0 hh1 (by rw [p13]; exact hB) hne (by rw [p13]; exact hd h hh0 hh1) (fun x x0 x1 => by rw [eD]; have := d2 x x0 x1; omega) ?_ (fun z z0 z1 hl hz hno => ⟨by omega, fun s4 h4 => ?_⟩)
        · rcases d4 h hh0 hh1 (by omega) with w | ⟨y, y0, y1, y2, y3⟩
          · rw [w, d1] at ed; omega
          · exact ⟨y, y0, y1, hsy y h y0 y1 hh0 hh1 y2, by rw [eD]; omega⟩
        · rw [eD] at hz hno
          have near : ∀ y, 0 ≤ y → y < n → L h y → D y < D h → D y = D h - 1 := fun y y0 y1 y2 y3 => by
            have := (d3 y h y0 y1 hh0 hh1 (hsy h y hh0 hh1 y0 y1 y2) (by omega)).2
            omega
          have p15 : s4.2 15 = updF (s3.2 15) i z := by rw [h4, sA_u]
          have w15 : ∀ j, j < i → s4.2 15 j = s3.2 15 j := fun j hj => by rw [p15, updF_n _ _ (by omega)]
          refine ih (i + 1) z s4 (by omega) (by omega) (by omega) (by rw [h4]; exact frm_tr hf3 (frm_A _ _ _ (by decide))) (by rw [h4, sA_n _ _ _ (by decide)]; exact eD) (by rw [show i + 1 - 1 = i by omega, p15, updF_s]) z0 z1 (by have := near z z0 z1 hl hz; omega) ⟨by rw [w15 0 (by omega)]; exact hW.1, fun j j0 j1 => ?_⟩
          by_cases e : j = i
          · rw [e, w15 (i - 1) (by omega), eh, p15, updF_s]
            refine ⟨⟨z0, z1⟩, hl, by have := near z z0 z1 hl hz; omega, fun y y0 y1 y2 y3 => hno y y0 y1 ⟨y2, by omega⟩⟩
          · rw [w15 j (by omega), w15 (j - 1) (by omega)]
            exact hW.2 j j0 (by omega)
  have p15 : s2.2 15 = updF (s1.2 15) 0 f := by rw [h2, sA_u]
  refine loop 100 1 f s2 (by omega) (by omega) (by omega) (by rw [h2]; exact frm_tr hf1 (frm_A _ _ _ (by decide))) (by rw [h2, sA_n _ _ _ (by decide)]; exact hDD) (by rw [show (1 : Int) - 1 = 0 by omega, p15, updF_s]) f0 f1 (by omega) ⟨by rw [p15, updF_s], fun j j0 j1 => by omega⟩
end
