section
/-! RULES: what the model finds of a person -/
def mlk (s : SS) (e d : Int) (t : SS) : Prop := t.1 33 = nmBy s e ∧ t.1 34 = wdBy s e ∧ isP (linked s e) (nmBy s e) (t.2 72) ∧ (∀ w, 0 ≤ w → w < 40 → t.2 70 w = if w < wdBy s e ∧ st s e d w = true then 1 else 0) ∧ agr [] [59, 75, 76, 77, 78, 79, 80, 81, 87, 88, 89, 90, 91] s t
theorem cntP_stop {p : Int → Bool} {c : Nat} : ∀ n : Nat, c ≤ n → (∀ w : Nat, c ≤ w → w < n → ¬ p w = true) → cntP p n = cntP p c := by
  intro n
  induction n with
  | zero => intro h _; rw [show c = 0 by omega]
  | succ n ih =>
    intro h q
    by_cases e : c = n + 1
    · rw [e]
    · rw [cntP_s, ih (by omega) (fun w a b => q w a (by omega)), if_neg (q n (by omega) (by omega)), Int.add_zero]
theorem Md_namesOf_ok {p c : Int} {s : SS} {Q : Int → SS → Prop} (rp : rng p) (h33 : s.1 33 = c) (hc : 0 ≤ c ∧ c ≤ 20) (hv : ∀ x, 0 ≤ x → x < c → rng (s.2 72 x)) (hk : Q (cntP (fun x => decide (s.2 72 x = p)) c.toNat) s) : Sp_Md_namesOf p s Q := by
  intro X4 h4
  have key : ∀ (t : Nat) (k : Nat), (k : Int) ≤ c → c - k < t → X4 p (cntP (fun x => decide (s.2 72 x = p)) k) k s := by
    intro t
    induction t with
    | zero => intro k a b; omega
    | succ t ih =>
      intro k k1 ht
      refine h4 _ _ _ _ ⟨⟨by omega, by omega⟩, by rw [h33]; exact ⟨by omega, by omega⟩, fun d => ?_, fun d => ⟨⟨by omega, by omega⟩, hv k (by omega) (by omega), rp, fun e => ?_, fun e => ?_⟩⟩
      · rw [show k = c.toNat by omega]; exact hk
      · have := ih (k + 1) (by omega) (by omega)
        rw [cntP_s, if_neg (by rw [decide_eq_true_eq]; exact e)] at this
        exact this
      · have := ih (k + 1) (by omega) (by omega)
        rw [cntP_s, if_pos (by rw [decide_eq_true_eq]; exact e)] at this
        exact this
  exact key (c.toNat + 1) 0 (by omega) (by omega)
theorem Md_heardBy_ok {p c : Int} {q : Int → Bool} {s : SS} {Q : Int → SS → Prop} (rp : rng p) (h34 : s.1 34 = c) (hc : 0 ≤ c ∧ c ≤ 40) (hv : ∀ w, 0 ≤ w → w < c → rng (s.2 70 w) ∧ rng (s.2 80 w) ∧ (0 ≤ s.2 76 w ∧ s.2 76 w < 20) ∧ rng (s.2 72 (s.2 76 w)) ∧ (q w = true ↔ (¬ s.2 70 w = 0 ∧ s.2 72 (s.2 76 w) = p))) (hk : Q (cntP (fun w => q w && decide (0 ≤ s.2 80 w)) c.toNat) s) : Sp_Md_heardBy p s Q := by
  intro X4 h4
  have key : ∀ (t : Nat) (k : Nat), (k : Int) ≤ c → c - k < t → X4 p (cntP (fun w => q w && decide (0 ≤ s.2 80 w)) k) k s := by
    intro t
    induction t with
    | zero => intro k a b; omega
    | succ t ih =>
      intro k k1 ht
      have nxt : k < c → ∀ v : Int, v = cntP (fun w => q w && decide (0 ≤ s.2 80 w)) (k + 1) → X4 p v (k + 1) s := fun h v hv => by
        rw [hv]
        exact ih (k + 1) (by omega) (by omega)
      refine h4 _ _ _ _ ⟨⟨by omega, by omega⟩, by rw [h34]; exact ⟨by omega, by omega⟩, fun d => ?_, fun d => ?_⟩
      · rw [show k = c.toNat by omega]; exact hk
      · obtain ⟨v1, v2, v3, v4, v5⟩ := hv k (by omega) (by omega)
        refine ⟨⟨by omega, by omega⟩, v1, fun e => nxt (by omega) _ ?_, fun e => ⟨⟨by omega, by omega⟩, v2, fun f => nxt (by omega) _ ?_, fun f => ⟨⟨by omega, by omega⟩, v3, v4, rp, fun g => nxt (by omega) _ ?_, fun g => nxt (by omega) _ ?_⟩⟩⟩
        · rw [cntP_s, if_neg]
          rw [Bool.and_eq_true]
          exact fun z => (v5.mp z.1).1 e
        · rw [cntP_s, if_neg]
          rw [Bool.and_eq_true, decide_eq_true_eq]
          exact fun z => by omega
        · rw [cntP_s, if_neg]
          rw [Bool.and_eq_true]
          exact fun z => g (v5.mp z.1).2
        · rw [cntP_s, if_pos]
          rw [Bool.and_eq_true, decide_eq_true_eq]
          exact ⟨v5.mpr ⟨e, g⟩, f⟩
  exact key (c.toNat + 1) 0 (by omega) (by omega)
/-- the facts, but whether all can be -/
def fcts (s : SS) (e d a : Int) (R : Int → Int) (m : Int) (A f : Int → Int) : Prop :=
  enumP (rtB (qOf s e d R (R a)) (s.2 24) (s.1 7).toNat) (s.1 7) m A ∧ f 114 = m ∧ f 101 = (popN (seenW (rtB (qOf s e d R (R a)) (s.2 24) (s.1 7).toNat) (s.2 18) (s.1 7).toNat) : Int) ∧
  f 104 = cntP (fun w => qOf s e d R (R a) w && decide (0 ≤ s.2 23 w)) (s.1 7).toNat ∧ f 110 = cntP (fun x => decide (R x = R a)) (nmBy s e).toNat ∧
  (0 ≤ lastR (s.2 22) A m.toNat → f 108 = s.2 22 (lastR (s.2 22) A m.toNat) ∧ f 107 = (popN (s.2 20 (lastR (s.2 22) A m.toNat)).toNat : Int)) ∧ (lastR (s.2 22) A m.toNat < 0 → f 108 = 0 ∧ f 107 = 0)
/-- whether all can be, of the model -/
def fctC (s : SS) (m : Int) (A f : Int → Int) (t : SS) : Prop := mkd (min 8 m) (s.2 59) t ∧ (∀ k, 0 ≤ k → k < min 8 m → t.2 84 k = s.2 20 (A k) ∧ t.2 85 k = s.2 21 (A k) ∧ t.2 86 k = s.2 22 (A k)) ∧ (f 99 = 0 ∨ f 99 = 1) ∧ (f 99 = 1 ↔ cb t (min 8 m) (p2 (min 8 m) - 1))
theorem Md_findFacts_ok {a e d : Int} {s s1 : SS} {Q : SS → Prop} (hb : iBook s) (hD : dM (s.2 59)) (hE : iEar s1) (e0 : 0 ≤ e) (e1 : e ≤ s.1 1) (hm : mlk s e d s1) (c : 0 ≤ a ∧ a < nmBy s e) (hk : ∀ s', frm [37, 38] [82, 83, 84, 85, 86, 93] s1 s' → iEar s' → fcts s e d a (s1.2 72) (s'.1 37) (s'.2 82) (s'.2 93) → fctC s (s'.1 37) (s'.2 82) (s'.2 93) s' → Q s') : Sp_Md_findFacts (s1.2 72 a) s1 Q := by
  obtain ⟨b1, b2, b3, b4, b5, b6, b7, b8, b9, b10, b11, b12, b13, b14⟩ := id hb
  obtain ⟨l33, l34, lP, l70, lA⟩ := id hm
  have hc := bkN_cnt b6 e0 e1
  have hc : 0 ≤ nmBy s e ∧ nmBy s e ≤ s.1 4 := hc
  have hcW := bkN_cnt b7 e0 e1
  have hcW : 0 ≤ wdBy s e ∧ wdBy s e ≤ s.1 7 := hcW
  have pa := lP.2.1 a c.1 c.2
  have rpa : rng (s1.2 72 a) := ⟨by omega, by omega⟩
  intro X62 X95 g62 g95
  refine Md_roots_g hb e0 e1 l34 lP l70 ⟨fun k hk => absurd hk (by simp), fun j hj => lA.2 j (by revert hj; revert j; decide)⟩ c (fun s2 hf2 hEn => ?_)
  have cb2 := cntP_b (rtB (qOf s e d (s1.2 72) (s1.2 72 a)) (s.2 24) (s.1 7).toNat) (s.1 7).toNat
  have c37 := hEn.1
  have m0 : 0 ≤ s2.1 37 ∧ s2.1 37 ≤ 40 := by omega
  have a75 : s2.2 75 = s.2 18 := by rw [hf2.2 75 rfl, lA.2 75 (by decide), b14.1]
  have a76 : s2.2 76 = s.2 19 := by rw [hf2.2 76 rfl, lA.2 76 (by decide), b14.2.1]
  have a77 : s2.2 77 = s.2 20 := by rw [hf2.2 77 rfl, lA.2 77 (by decide), b14.2.2.1]
  have a78 : s2.2 78 = s.2 21 := by rw [hf2.2 78 rfl, lA.2 78 (by decide), b14.2.2.2.1]
  have a79 : s2.2 79 = s.2 22 := by rw [hf2.2 79 rfl, lA.2 79 (by decide), b14.2.2.2.2.1]
  have a80 : s2.2 80 = s.2 23 := by rw [hf2.2 80 rfl, lA.2 80 (by decide), b14.2.2.2.2.2.1]
  have a59 : s2.2 59 = s.2 59 := by rw [hf2.2 59 rfl, lA.2 59 (by decide)]
  refine Md_lastRoot_ok (m := s2.1 37) rfl m0 (fun j j0 j1 => ?_) (fun s4 h4 => ?_)
  · obtain ⟨y1, y2, -⟩ := hEn.2 j j0 j1
    have x := b13 _ y1 y2
    rw [a79]
    exact ⟨by omega, ⟨by omega, by omega⟩⟩
  have f4 : frm [] [93] s2 s4 := by rw [h4]; exact frm_A _ _ _ (by decide)
  rw [a79]
  have e4 : s4.2 93 = updF (s2.2 93) 114 (s2.1 37) := by rw [h4, sA_u]
  refine Md_eyesOf_ok (m := s2.1 37) (f4.1 37 rfl) m0 (fun j j0 j1 => ?_) (fun s7 h7 => ?_)
  · obtain ⟨y1, y2, -⟩ := hEn.2 j j0 j1
    rw [f4.2 82 rfl, f4.2 75 rfl, a75]
    exact ⟨by omega, (b13 _ y1 y2).1⟩
  have f7 : frm [] [93] s2 s7 := by rw [h7]; exact frm_tr f4 (frm_A _ _ _ (by decide))
  have sl := seenL_W (wi := s.2 18) hEn (s.1 7).toNat (by omega)
  rw [c37] at sl
  have e7 : s7.2 93 = updF (s4.2 93) 101 (popN (seenW (rtB (qOf s e d (s1.2 72) (s1.2 72 a)) (s.2 24) (s.1 7).toNat) (s.2 18) (s.1 7).toNat) : Int) := by
    rw [h7, sA_u, f4.2 75 rfl, f4.2 82 rfl, a75, sl]
  have f17 : frm [37] [82, 93] s1 s7 := frm_tr (frm_mono hf2 (by decide) (by decide)) (frm_mono f7 (by decide) (by decide))
  have b76 : s7.2 76 = s.2 19 := by rw [f7.2 76 rfl, a76]
  have b80 : s7.2 80 = s.2 23 := by rw [f7.2 80 rfl, a80]
  have b72 : s7.2 72 = s1.2 72 := f17.2 72 rfl
  refine Md_heardBy_ok (c := wdBy s e) (q := qOf s e d (s1.2 72) (s1.2 72 a)) rpa (by rw [f17.1 34 rfl, l34]) ⟨hcW.1, by omega⟩ (fun w w0 w1 => ?_) (fun s10 h10 => ?_)
  · have x := b13 w w0 (by omega)
    have wt := ((wd_iff hb e0 e1 (x := w)).mpr ⟨w0, w1⟩).2.2
    have cn := (nm_iff hb e0 e1 (a := s.2 19 w)).mp ⟨x.2.1.1, x.2.1.2.1, by have := x.2.1.2.2; omega⟩
    have pn := lP.2.1 _ cn.1 cn.2
    rw [f17.2 70 rfl, l70 w w0 (by omega), b80, b76, b72]
    refine ⟨by split <;> decide, ⟨by omega, by omega⟩, by omega, ⟨by omega, by omega⟩, ?_⟩
    unfold qOf
    rw [Bool.and_eq_true, decide_eq_true_eq]
    refine and_congr_left (fun _ => ?_)
    by_cases y : st s e d w = true
    · rw [if_pos ⟨w1, y⟩]; exact ⟨fun _ => by decide, fun _ => y⟩
    · rw [if_neg (fun z => y z.2)]; exact ⟨fun z => absurd z y, fun z => absurd rfl z⟩
  rw [b80] at h10
  have ehw : cntP (fun w => qOf s e d (s1.2 72) (s1.2 72 a) w && decide (0 ≤ s.2 23 w)) (s.1 7).toNat = cntP (fun w => qOf s e d (s1.2 72) (s1.2 72 a) w && decide (0 ≤ s.2 23 w)) (wdBy s e).toNat := by
    refine cntP_stop _ (by omega) (fun w w0 w1 z => ?_)
    rw [Bool.and_eq_true] at z
    have z1 := z.1
    unfold qOf at z1
    rw [Bool.and_eq_true] at z1
    have := (qOf_name hb e0 e1 (w := w) (by omega) (by omega) z1.1).2
    omega
  rw [← ehw] at h10
  have f10 : frm [] [93] s2 s10 := by rw [h10]; exact frm_tr f7 (frm_A _ _ _ (by decide))
  have e10 : s10.2 93 = updF (s7.2 93) 104 (cntP (fun w => qOf s e d (s1.2 72) (s1.2 72 a) w && decide (0 ≤ s.2 23 w)) (s.1 7).toNat) := by rw [h10, sA_u]
  have o82 : s10.2 82 = s2.2 82 := f10.2 82 rfl
  have o77 : s10.2 77 = s.2 20 := by rw [f10.2 77 rfl, a77]
  have o78 : s10.2 78 = s.2 21 := by rw [f10.2 78 rfl, a78]
  have o79 : s10.2 79 = s.2 22 := by rw [f10.2 79 rfl, a79]
  have o59 : s10.2 59 = s.2 59 := by rw [f10.2 59 rfl, a59]
  refine Md_canAll_ok (m := s2.1 37) (f10.1 37 rfl) m0 (fun j j0 j1 => ?_) (by rw [o59]; exact hD) (by unfold iEar; rw [f10.2 83 rfl, hf2.2 83 rfl]; exact hE) (fun j j0 j1 => ?_) (fun r s11 hf11 hmk hit hr01 hcb => ?_)
  · obtain ⟨y1, y2, -⟩ := hEn.2 j j0 j1
    rw [o82]; omega
  · obtain ⟨y1, y2, -⟩ := hEn.2 j j0 j1
    have x := b13 _ y1 y2
    rw [o77, o78, o79, o82]
    exact ⟨by omega, by omega, by omega⟩
  rw [o59] at hmk
  rw [o77, o78, o79, o82] at hit
  have go : X62 (s1.2 72 a) (lastR (s.2 22) (s2.2 82) (s2.1 37).toNat) r 99 s11 := by
    refine g62 _ _ _ _ _ ⟨by decide, fun s13 h13 => ?_⟩
    have f13 : frm [38] [83, 84, 85, 86, 93] s10 s13 := by rw [h13]; exact frm_tr (frm_mono hf11 (by decide) (by decide)) (frm_A _ _ _ (by decide))
    have e13 : s13.2 93 = updF (s10.2 93) 99 r := by rw [h13, sA_u, hf11.2 93 rfl]
    have g72 : s13.2 72 = s1.2 72 := by rw [f13.2 72 rfl, f10.2 72 rfl, hf2.2 72 rfl]
    refine Md_namesOf_ok (c := nmBy s e) rpa (by rw [f13.1 33 rfl, f10.1 33 rfl, hf2.1 33 rfl, l33]) ⟨hc.1, by omega⟩ (fun x x0 x1 => ?_) (fun s16 h16 => ?_)
    · rw [g72]
      have := lP.2.1 x x0 x1
      exact ⟨by omega, by omega⟩
    rw [g72] at h16
    have f16 : frm [38] [83, 84, 85, 86, 93] s10 s16 := by rw [h16]; exact frm_tr f13 (frm_A _ _ _ (by decide))
    have e16 : s16.2 93 = updF (s13.2 93) 110 (cntP (fun x => decide (s1.2 72 x = s1.2 72 a)) (nmBy s e).toNat) := by rw [h16, sA_u]
    have lo := lastR_ok (la := s.2 22) (a := s2.2 82) (s2.1 37).toNat (fun j j0 j1 => (hEn.2 j j0 (by omega)).1)
    have lv : lastR (s.2 22) (s2.2 82) (s2.1 37).toNat = -1 ∨ (0 ≤ lastR (s.2 22) (s2.2 82) (s2.1 37).toNat ∧ lastR (s.2 22) (s2.2 82) (s2.1 37).toNat < s.1 7) := by
      rcases lo with z | ⟨z, j, j0, j1, j2⟩
      · exact Or.inl z.1
      · have := hEn.2 j j0 (by omega)
        rw [j2] at this
        exact Or.inr ⟨z, this.2.1⟩
    -- the end of it
    have fin : ∀ (v1 v2 : Int) (s20 : SS), (s20 = sA (sA s16 93 108 v1) 93 107 v2) → (0 ≤ lastR (s.2 22) (s2.2 82) (s2.1 37).toNat → v1 = s.2 22 (lastR (s.2 22) (s2.2 82) (s2.1 37).toNat) ∧ v2 = (popN (s.2 20 (lastR (s.2 22) (s2.2 82) (s2.1 37).toNat)).toNat : Int)) → (lastR (s.2 22) (s2.2 82) (s2.1 37).toNat < 0 → v1 = 0 ∧ v2 = 0) → Q s20 := by
      intro v1 v2 s20 h20 w1 w2
      have f20 : frm [] [93] s16 s20 := by rw [h20]; exact frm_tr (frm_A _ _ _ (by decide)) (frm_A _ _ _ (by decide))
      have e20 : s20.2 93 = updF (updF (s16.2 93) 108 v1) 107 v2 := by rw [h20, sA_u, sA_u]
      have x37 : s20.1 37 = s2.1 37 := by rw [f20.1 37 rfl, f16.1 37 rfl, f10.1 37 rfl]
      have x82 : s20.2 82 = s2.2 82 := by rw [f20.2 82 rfl, f16.2 82 rfl, f10.2 82 rfl]
      have f1320 : frm [] [93] s11 s20 := by
        refine frm_tr ?_ f20
        rw [h16, h13]
        exact frm_tr (frm_A _ _ _ (by decide)) (frm_A _ _ _ (by decide))
      have val : ∀ l : Int, s20.2 93 l = if l = 107 then v2 else if l = 108 then v1 else if l = 110 then cntP (fun x => decide (s1.2 72 x = s1.2 72 a)) (nmBy s e).toNat else if l = 99 then r else if l = 104 then cntP (fun w => qOf s e d (s1.2 72) (s1.2 72 a) w && decide (0 ≤ s.2 23 w)) (s.1 7).toNat else if l = 101 then (popN (seenW (rtB (qOf s e d (s1.2 72) (s1.2 72 a)) (s.2 24) (s.1 7).toNat) (s.2 18) (s.1 7).toNat) : Int) else if l = 114 then s2.1 37 else s2.2 93 l := by
        intro l
        rw [e20, e16, e13, e10, e7, e4]
        rfl
      refine hk s20 ?_ ?_ ?_ ?_
      · refine frm_tr (frm_mono hf2 (by decide) (by decide)) (frm_tr (frm_mono f10 (by decide) (by decide)) (frm_tr (frm_mono f16 (by decide) (by decide)) (frm_mono f20 (by decide) (by decide))))
      · unfold iEar
        rw [f1320.2 83 rfl]
        exact hmk.2.2
      · rw [x37, x82]
        refine ⟨hEn, by rw [val]; rfl, by rw [val]; rfl, by rw [val]; rfl, by rw [val]; rfl, fun q => ?_, fun q => ?_⟩
        · rw [val, val]
          exact w1 q
        · rw [val, val]
          exact w2 q
      · rw [x37, x82]
        refine ⟨?_, ?_, ?_, ?_⟩
        · unfold mkd emW iEar at hmk ⊢
          rw [f1320.1 38 rfl, f1320.2 83 rfl, f1320.2 84 rfl, f1320.2 85 rfl, f1320.2 86 rfl]
          exact hmk
        · rw [f1320.2 84 rfl, f1320.2 85 rfl, f1320.2 86 rfl]
          exact hit
        · rw [val]; exact hr01
        · rw [val]
          unfold cb
          rw [f1320.2 83 rfl]
          exact hcb
    have g79 : s16.2 79 = s.2 22 := by rw [f16.2 79 rfl, o79]
    have g77 : s16.2 77 = s.2 20 := by rw [f16.2 77 rfl, o77]
    refine ⟨by rcases lv with z | z; (rw [z]; decide); exact ⟨by omega, by omega⟩, fun q => ⟨by omega, ?_⟩, fun q => ?_⟩
    · rw [g79]
      refine g95 _ _ _ _ ⟨by decide, fun s17 h17 => ⟨⟨by omega, by omega⟩, fun _ => ⟨by omega, ?_⟩, fun z => by omega⟩⟩
      rw [show s17.2 77 = s.2 20 by rw [h17, sA_n _ _ _ (by decide), g77]]
      have x := b13 _ q (by omega)
      refine Md_bits_ok (by omega) (by omega) (fun s20 h20 => ?_)
      exact fin _ _ s20 (by rw [h20, h17]) (fun _ => ⟨rfl, rfl⟩) (fun z => by omega)
    · refine g95 _ _ _ _ ⟨by decide, fun s17 h17 => ⟨⟨by omega, by omega⟩, fun z => by omega, fun _ s21 h21 => ?_⟩⟩
      exact fin 0 0 s21 (by rw [h21, h17]) (fun z => by omega) (fun _ => ⟨rfl, rfl⟩)
  rcases hr01 with z | z
  · rw [z] at go
    exact ⟨by omega, fun _ => go, fun q => absurd z q⟩
  · rw [z] at go
    exact ⟨by omega, fun q => by omega, fun _ => go⟩
end
