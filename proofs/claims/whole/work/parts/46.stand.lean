section
/-! what stands: withdraw, about, count 4 -/
def wOk (s : SS) : Prop := (0 ≤ s.1 7 ∧ s.1 7 ≤ 40) ∧ ∀ x, 0 ≤ x → x < s.1 7 → (0 ≤ s.2 25 x ∧ s.2 25 x ≤ 200) ∧ (0 ≤ s.2 26 x ∧ s.2 26 x ≤ 201) ∧ (-1 ≤ s.2 23 x ∧ s.2 23 x < x)
theorem wOk_b {s : SS} (hb : iBook s) : wOk s := by
  obtain ⟨b1, b2, b3, b4, b5, b6, b7, b8, b9, b10, b11, b12, b13, b14⟩ := hb
  refine ⟨b3.2, fun x x0 x1 => ⟨?_, ?_, (b13 x x0 x1).2.2.2.2.1⟩⟩
  · have := b7.2 x x0 x1
    omega
  · rcases b10.1 x x0 x1 with z | z <;> omega
theorem st_w {s : SS} (hb : wOk s) {h d x : Int} (h0 : 0 ≤ x) (h1 : x < s.1 7) : st s h d x = (decide (s.2 25 x < h ∧ d ≤ s.2 26 x) && (decide (s.2 23 x < 0) || st s h d (s.2 23 x))) := by
  have hh : ∀ x, 0 ≤ x → x < s.1 7 → s.2 23 x < x := fun x x0 x1 => (hb.2 x x0 x1).2.2.2
  have b3 := hb.1
  have e : st s h d x = stW (s.2 23) (s.2 25) (s.2 26) h d (41 + 1) x := stW_n hh 41 42 x h0 h1 (by omega) (by omega)
  rw [e]
  rfl
theorem Wo_readBy_ok {h d : Int} {s : SS} {Q : SS → Prop} (hw : wOk s) (rh : rng h) (rd : rng d) (hk : ∀ s', frm [] [27] s s' → (∀ x, 0 ≤ x → x < s.1 7 → s'.2 27 x = if st s h d x = true then 1 else 0) → Q s') : Sp_Wo_readBy h d s Q := by
  obtain ⟨b3, hw2⟩ := id hw
  intro X2 X35 h2 h35
  have key : ∀ (t : Nat) (k : Int) (s1 : SS), 0 ≤ k → k ≤ s.1 7 → s.1 7 - k < t → frm [] [27] s s1 → (∀ x, 0 ≤ x → x < k → s1.2 27 x = if st s h d x = true then 1 else 0) → X2 h d k s1 := by
    intro t
    induction t with
    | zero => intro k s1 a b c; omega
    | succ t ih =>
      intro k s1 k0 k1 ht hf hI
      have e7 : s1.1 7 = s.1 7 := hf.1 7 rfl
      have e25 : s1.2 25 = s.2 25 := hf.2 25 rfl
      have e26 : s1.2 26 = s.2 26 := hf.2 26 rfl
      have e23 : s1.2 23 = s.2 23 := hf.2 23 rfl
      refine h2 _ _ _ _ ⟨⟨by omega, by omega⟩, by rw [e7]; exact ⟨by omega, by omega⟩, fun c => ?_, fun c => ?_⟩
      · rw [e7] at c
        exact hk s1 hf (fun x x0 x1 => hI x x0 (by omega))
      · rw [e7] at c
        obtain ⟨w1, w2, w3⟩ := hw2 k k0 c
        have he := st_w hw (h := h) (d := d) k0 c
        have nxt : ∀ (v : Int) (s2 : SS), s2 = sA s1 27 k v → v = (if st s h d k = true then 1 else 0) → X2 h d (k + 1) s2 := by
          intro v s2 h2' hv
          refine ih (k + 1) s2 (by omega) (by omega) (by omega) (by rw [h2']; exact frm_tr hf (frm_A s1 _ _ (by decide))) (fun x x0 x1 => ?_)
          rw [h2', sA_s]
          by_cases z : x = k
          · rw [if_pos z, z]; exact hv
          · rw [if_neg z]; exact hI x x0 (by omega)
        have no : ¬ (s.2 25 k < h ∧ d ≤ s.2 26 k) → X35 h d k 0 s1 := fun hn => by
          refine h35 _ _ _ _ _ ⟨by decide, fun _ => ⟨by omega, fun s2 h2' => nxt 0 s2 h2' ?_⟩, fun q => absurd rfl q⟩
          rw [he, decide_eq_false hn, Bool.false_and]
          rfl
        rw [e25, e26]
        refine ⟨by omega, ⟨by omega, by omega⟩, rh, fun f => no (by omega), fun f => ⟨by omega, ⟨by omega, by omega⟩, rd, fun g => no (by omega), fun g => ?_⟩⟩
        refine h35 _ _ _ _ _ ⟨by decide, fun q => absurd q (by decide), fun _ => ⟨by omega, by rw [e23]; exact ⟨by omega, by omega⟩, fun y => ⟨by omega, fun s2 h2' => nxt 1 s2 h2' ?_⟩, fun y => ?_⟩⟩
        · rw [e23] at y
          rw [he, decide_eq_true ⟨f, g⟩, decide_eq_true y]
          rfl
        · rw [e23] at y ⊢
          have hh := hI (s.2 23 k) y (by omega)
          have hst : st s h d k = st s h d (s.2 23 k) := by
            rw [he, decide_eq_true ⟨f, g⟩, decide_eq_false (by omega), Bool.true_and, Bool.false_or]
          refine ⟨by omega, by omega, by rw [hh]; split <;> decide, fun z => ⟨by omega, fun s2 h2 => nxt 0 s2 h2 ?_⟩, fun z => ⟨by omega, fun s2 h2 => nxt 1 s2 h2 ?_⟩⟩
          · rw [hh] at z
            rw [hst]
            by_cases q : st s h d (s.2 23 k) = true
            · rw [if_pos q] at z; exact absurd z (by decide)
            · rw [if_neg q]
          · rw [hh] at z
            rw [hst]
            by_cases q : st s h d (s.2 23 k) = true
            · rw [if_pos q]
            · rw [if_neg q] at z; exact absurd rfl z
  exact key 100 0 s (by omega) b3.1 (by omega) (frm_rf _ _ _) (fun x a b => by omega)
def cntP (p : Int → Bool) : Nat → Int
  | 0 => 0
  | n + 1 => cntP p n + if p n = true then 1 else 0
theorem cntP_s (p : Int → Bool) (n : Nat) : cntP p (n + 1) = cntP p n + if p n = true then 1 else 0 := rfl
theorem cntP_b (p : Int → Bool) (n : Nat) : 0 ≤ cntP p n ∧ cntP p n ≤ n := by
  induction n with
  | zero => exact ⟨Int.le_refl _, Int.le_refl _⟩
  | succ n ih => rw [cntP_s]; split <;> omega
theorem cntP_c {p q : Int → Bool} : ∀ n : Nat, (∀ x, 0 ≤ x → x < (n : Int) → p x = q x) → cntP p n = cntP q n := by
  intro n
  induction n with
  | zero => intro _; rfl
  | succ n ih =>
    intro h
    rw [cntP_s, cntP_s, ih (fun x a b => h x a (by omega)), h n (by omega) (by omega)]
theorem cntP_cut {q : Int → Bool} {c : Int} : ∀ n : Nat, cntP (fun w => decide (w < c) && q w) n = cntP q (min n c.toNat) := by
  intro n
  induction n with
  | zero => rw [show min 0 c.toNat = 0 by omega]; rfl
  | succ n ih =>
    rw [cntP_s, ih]
    by_cases z : (n : Int) < c
    · rw [show min n c.toNat = n by omega, show min (n + 1) c.toNat = n + 1 by omega, cntP_s, decide_eq_true z, Bool.true_and]
    · rw [show min n c.toNat = c.toNat by omega, show min (n + 1) c.toNat = c.toNat by omega, decide_eq_false z, Bool.false_and, if_neg (by decide), Int.add_zero]
theorem Wo_standing_ok {p : Int → Bool} {s : SS} {Q : Int → SS → Prop} (h7 : 0 ≤ s.1 7 ∧ s.1 7 ≤ 40) (h : ∀ w, 0 ≤ w → w < s.1 7 → s.2 27 w = if p w = true then 1 else 0) (hk : Q (cntP p (s.1 7).toNat) s) : Sp_Wo_standing s Q := by
  intro X4 h4
  have loop : ∀ (t : Nat) (k : Nat), (k : Int) ≤ s.1 7 → s.1 7 - k < t → X4 (cntP p k) k s := by
    intro t
    induction t with
    | zero => intro k a b; omega
    | succ t ih =>
      intro k k1 ht
      refine h4 _ _ _ ⟨⟨by omega, by omega⟩, ⟨by omega, by omega⟩, fun d => ?_, fun d => ?_⟩
      · rw [show k = (s.1 7).toNat by omega]; exact hk
      · have nx := ih (k + 1) (by omega) (by omega)
        rw [cntP_s] at nx
        rw [h k (by omega) d]
        by_cases z : p k = true
        · rw [if_pos z] at nx ⊢
          exact ⟨by omega, by decide, fun c => absurd c (by decide), fun _ => nx⟩
        · rw [if_neg z] at nx ⊢
          rw [Int.add_zero] at nx
          exact ⟨by omega, by decide, fun _ => nx, fun c => absurd rfl c⟩
  exact loop 100 0 (by omega) (by omega)
theorem Md_standing_ok {p : Int → Bool} {s : SS} {Q : Int → SS → Prop} (h : ∀ w, 0 ≤ w → w < 40 → s.2 70 w = if p w = true then 1 else 0) (hk : Q (cntP p 40) s) : Sp_Md_standing s Q := by
  intro X4 h4
  have loop : ∀ (t : Nat) (k : Nat), (k : Int) ≤ 40 → (40 : Int) - k < t → X4 (cntP p k) k s := by
    intro t
    induction t with
    | zero => intro k a b; omega
    | succ t ih =>
      intro k k1 ht
      refine h4 _ _ _ ⟨⟨by omega, by omega⟩, fun d => ?_, fun d => ?_⟩
      · rw [show k = 40 by omega]; exact hk
      · have nx := ih (k + 1) (by omega) (by omega)
        rw [cntP_s] at nx
        rw [h k (by omega) d]
        by_cases z : p k = true
        · rw [if_pos z] at nx ⊢
          exact ⟨by omega, by decide, fun c => absurd c (by decide), fun _ => nx⟩
        · rw [if_neg z] at nx ⊢
          exact ⟨by omega, by decide, fun _ => nx, fun c => absurd rfl c⟩
  exact loop 100 0 (by omega) (by omega)
theorem if_and {p : Prop} [Decidable p] {b : Bool} : (if p ∧ b = true then (1 : Int) else 0) = if (decide p && b) = true then 1 else 0 := by
  refine if_cg ?_ rfl rfl
  rw [Bool.and_eq_true, decide_eq_true_eq]
theorem wd_all {s : SS} (hb : iBook s) : wdBy s (s.1 1) = s.1 7 := hb.2.2.2.2.2.2.1.1
theorem sim_count4 {s : SS} {K : Int → Int → SS → Prop} (hb : iBook s) (hy : iKeys s) (hk : ∀ r s', rng r → frm [33, 34, 35] [27, 67, 68, 69, 70, 72] s s' → K r r s') : Sp_LS_count 4 s (fun p s1 => Sp_Md_count 4 s1 (fun q s2 => K p q s2)) := by
  have b1 := hb.1
  have b3 := hb.2.2.1
  refine ⟨by decide, fun c => absurd c (by decide), fun c => absurd c (by decide), fun c => absurd c (by decide), fun c => absurd c (by decide), fun _ => ?_, fun c => absurd c (by decide), fun c => absurd c (by decide), fun c => absurd c (by decide), fun c => absurd c (by decide), fun c => absurd c (by decide), fun c => absurd c (by decide), fun c => absurd c (by decide), fun _ _ _ _ c => absurd rfl c⟩
  refine Wo_readBy_ok (wOk_b hb) ⟨by omega, by omega⟩ ⟨by omega, by omega⟩ (fun s1 hf h27 => ?_)
  have e7 : s1.1 7 = s.1 7 := hf.1 7 rfl
  refine Wo_standing_ok (p := st s (s.1 1) (s.1 1)) (by omega) (fun w w0 w1 => h27 w w0 (by omega)) ?_
  have hb1 : iBook s1 := iBook_agr (agr_of hf (by decide)) hb
  have hy1 : iKeys s1 := iKeys_agr (agr_of hf (by decide)) hy
  have e1 : s1.1 1 = s.1 1 := hf.1 1 rfl
  have e29 : s1.1 29 = s.1 1 := by rw [hf.1 29 rfl]; exact b1.1.symm
  intro X84 X148 X192 h84 h148 h192
  refine ⟨by decide, fun c => absurd c (by decide), fun c => absurd c (by decide), fun c => absurd c (by decide), fun c => absurd c (by decide), fun _ => ?_, fun c => absurd c (by decide), fun c => absurd c (by decide), fun c => absurd c (by decide), fun c => absurd c (by decide), fun c => absurd c (by decide), fun c => absurd c (by decide), fun c => absurd c (by decide), fun _ _ _ _ c => absurd rfl c⟩
  rw [e29]
  refine Md_looks_ok hb1 hy1 b1.2.1 (by omega) (fun s2 hf2 q1 q2 q3 q4 q5 q6 q7 => ?_)
  have hw : wdBy s1 (s.1 1) = s.1 7 := by rw [← e1, wd_all hb1, e7]
  refine Md_standing_ok (p := fun w => decide (w < s.1 7) && st s (s.1 1) (s.1 1) w) (fun w w0 w1 => ?_) ?_
  · rw [q6 w w0 w1, hw, st_agr (agr_of hf (by decide))]
    exact if_and
  · rw [cntP_cut, e7, show min 40 (s.1 7).toNat = (s.1 7).toNat by omega]
    have := cntP_b (st s (s.1 1) (s.1 1)) (s.1 7).toNat
    exact hk _ _ ⟨by omega, by omega⟩ (frm_tr (frm_mono hf (by decide) (by decide)) (frm_mono hf2 (by decide) (by decide)))
end
