section
/-! HEARING: the roots of the model, whatever stands; what is weighed -/
theorem Md_roots_g {a e d : Int} {t s1 : SS} {B : SS → Prop} (hb : iBook t) (e0 : 0 ≤ e) (e1 : e ≤ t.1 1) (l34 : s1.1 34 = wdBy t e) (lP : isP (linked t e) (nmBy t e) (s1.2 72)) (l70 : ∀ w, 0 ≤ w → w < 40 → s1.2 70 w = if w < wdBy t e ∧ st t e d w = true then 1 else 0) (ea : agr [] [76, 81] t s1) (c : 0 ≤ a ∧ a < nmBy t e) (h1 : ∀ s', frm [37] [82] s1 s' → enumP (rtB (qOf t e d (s1.2 72) (s1.2 72 a)) (t.2 24) (t.1 7).toNat) (t.1 7) (s'.1 37) (s'.2 82) → B s') : Sp_Md_findRoots (s1.2 72 a) s1 B := by
  obtain ⟨b1, b2, b3, b4, b5, b6, b7, b8, b9, b10, b11, b12, b13, b14⟩ := id hb
  have hc := bkN_cnt b6 e0 e1
  have hc : 0 ≤ nmBy t e ∧ nmBy t e ≤ t.1 4 := hc
  have hcW := bkN_cnt b7 e0 e1
  have hcW : 0 ≤ wdBy t e ∧ wdBy t e ≤ t.1 7 := hcW
  have pa := lP.2.1 a c.1 c.2
  have e81 : s1.2 81 = t.2 24 := by rw [ea.2 81 (by decide), ← b14.2.2.2.2.2.2]
  have e76 : s1.2 76 = t.2 19 := by rw [ea.2 76 (by decide), ← b14.2.1]
  refine Md_findRoots_ok (c := wdBy t e) (q := qOf t e d (s1.2 72) (s1.2 72 a)) ⟨by omega, by omega⟩ l34 hcW.1 (by omega) (fun w w0 w1 => ?_) (fun s3 hf3 hE => ?_)
  · have x := b13 w w0 (by omega)
    have wt := ((wd_iff hb e0 e1 (x := w)).mpr ⟨w0, w1⟩).2.2
    have cn := (nm_iff hb e0 e1 (a := t.2 19 w)).mp ⟨x.2.1.1, x.2.1.2.1, by have := x.2.1.2.2; omega⟩
    have pn := lP.2.1 _ cn.1 cn.2
    rw [l70 w w0 (by omega), e81, e76]
    refine ⟨by split <;> decide, ⟨by omega, by omega⟩, by omega, ⟨by omega, by omega⟩, ?_⟩
    unfold qOf
    rw [Bool.and_eq_true, decide_eq_true_eq]
    refine and_congr_left (fun _ => ?_)
    by_cases y : st t e d w = true
    · rw [if_pos ⟨w1, y⟩]; exact ⟨fun _ => by decide, fun _ => y⟩
    · rw [if_neg (fun z => y z.2)]; exact ⟨fun z => absurd z y, fun z => absurd rfl z⟩
  · rw [e81] at hE
    refine h1 s3 hf3 ?_
    have qlt : ∀ w, 0 ≤ w → w < t.1 7 → qOf t e d (s1.2 72) (s1.2 72 a) w = true → w < wdBy t e := fun w w0 w1 hq => by
      unfold qOf at hq
      rw [Bool.and_eq_true] at hq
      exact (qOf_name hb e0 e1 w0 w1 hq.1).2
    refine enumP_c hE hcW.1 hcW.2 (fun r r0 r1 => ?_) (fun r r0 r1 z => ?_)
    · rw [Bool.eq_iff_iff, rtB_iff, rtB_iff]
      constructor
      · rintro ⟨w, w0, w1, w2⟩
        exact ⟨w, w0, by omega, w2⟩
      · rintro ⟨w, w0, w1, w2⟩
        have := qlt w w0 (by omega) w2.1
        exact ⟨w, w0, by omega, w2⟩
    · obtain ⟨w, w0, w1, w2, w3⟩ := (rtB_iff _).mp z
      have := qlt w w0 (by omega) w2
      have x := b13 w w0 (by omega)
      omega
theorem roots_g {s t t3 : SS} {e d a : Int} {P R : Int → Int} (hb : iBook s) (hy : iKeys s) (e0 : 0 ≤ e) (e1 : e ≤ s.1 1) (ha : 0 ≤ a ∧ a < nmBy s e) (h : hrd s e d a P t) (hR : isP (linked t e) (nmBy t e) R) (hE : enumP (rtB (qOf t e d R (R a)) (t.2 24) (t.1 7).toNat) (t.1 7) (t3.1 37) (t3.2 82)) : (t.1 9 = t3.1 37 ∧ 0 ≤ t.1 9 ∧ t.1 9 ≤ 40) ∧ (∀ j, 0 ≤ j → j < t.1 9 → t.2 35 j = t3.2 82 j ∧ 0 ≤ t.2 35 j ∧ t.2 35 j < s.1 7) ∧ enumP (rtB (qOf s e d P (P a)) (s.2 24) (s.1 7).toNat) (s.1 7) (t3.1 37) (t3.2 82) := by
  obtain ⟨-, -, -, hn, hL, hq, h24, h7⟩ := hrd_t h hb hy
  obtain ⟨-, -, hP, -, -, -, -, -, -, hE1, -⟩ := h
  rw [hn, hL] at hR
  rw [hq, h24, h7] at hE
  have b3 := hb.2.2.1
  have eq : rtB (qOf s e d R (R a)) (s.2 24) (s.1 7).toNat = rtB (qOf s e d P (P a)) (s.2 24) (s.1 7).toNat := by
    funext r
    exact rtB_c _ (fun w w0 w1 => qOf_u hb e0 e1 hR hP ha w w0 (by omega))
  rw [eq] at hE
  obtain ⟨u1, u2⟩ := enumP_u hE1 hE
  have cb := cntP_b (rtB (qOf s e d P (P a)) (s.2 24) (s.1 7).toNat) (s.1 7).toNat
  have c9 := hE1.1
  exact ⟨⟨u1, by omega, by omega⟩, fun j j0 j1 => ⟨u2 j j0 j1, (hE1.2 j j0 j1).1, (hE1.2 j j0 j1).2.1⟩, hE⟩
/-! both weigh -/
def wk (s : SS) (x : Int) : Prop := x = 0 ∨ ∃ p, 0 ≤ p ∧ p < 10 ∧ s.2 31 (x * 10 + p) < 1000000
def cb (s : SS) (n x : Int) : Prop := x = 0 ∨ ∃ i, 0 ≤ i ∧ i < 90 ∧ i < 10 * n ∧ s.2 83 (90 * x + i) < 100000
def iEar (s : SS) : Prop := ∀ i, rng (s.2 83 i)
def wkd (n : Int) (D : Int → Int) (s : SS) : Prop := s.1 8 = n ∧ itm n (s.2 28) (s.2 29) (s.2 30) ∧ soF n (s.2 28) (s.2 29) (s.2 30) D (s.2 31)
def mkd (n : Int) (D : Int → Int) (s : SS) : Prop := s.1 38 = n ∧ emW n (s.2 84) (s.2 85) (s.2 86) D (s.2 83) (p2 n) 0 0 ∧ iEar s
theorem wk_B {n x : Int} {D : Int → Int} {s : SS} (n0 : 0 ≤ n) (n1 : n ≤ 9) (h : wkd n D s) (x0 : 0 ≤ x) (x1 : x < p2 n) : isB (wk s x) s (Sp_Wa_isWalkable x s) := by
  have p9 := p2_9 n0 n1
  refine Wa_isWalkable_B x0 (by omega) (fun p p0 p1 => ?_)
  rcases h.2.2.1 (x * 10 + p) (by omega) (by omega) with z | z
  · rw [z]; decide
  · exact ⟨by omega, by omega⟩
theorem cb_B {n x : Int} {D : Int → Int} {s : SS} (n0 : 0 ≤ n) (n1 : n ≤ 9) (h : mkd n D s) (x0 : 0 ≤ x) (x1 : x < p2 n) : isB (cb s n x) s (Sp_Md_canBe x s) := Md_canBe_B h.1 n0 n1 x0 x1 h.2.2
theorem wk_cb {n : Int} {D D' : Int → Int} {s s' : SS} (n0 : 0 ≤ n) (n1 : n ≤ 9) (h : wkd n D s) (h' : mkd n D' s') (hs : ∀ k, 0 ≤ k → k < n → s'.2 84 k = s.2 28 k ∧ s'.2 85 k = s.2 29 k ∧ s'.2 86 k = s.2 30 k) (hD : dOk D) (hDD : ∀ q p, 0 ≤ q → q < 10 → 0 ≤ p → p < 10 → D' (10 * q + p) = min (D (q * 10 + p)) 100000) {x : Int} (x0 : 0 ≤ x) (x1 : x < p2 n) : wk s x ↔ cb s' n x := walk_iff n0 n1 h.2.2 h'.2.1 hs h.2.1 hD hDD x0 x1
theorem all_ok {n : Int} {s : SS} {Q : Int → SS → Prop} (hn : s.1 8 = n) (n0 : 0 ≤ n) (n1 : n ≤ 9) (hk : Q (p2 n - 1) s) : Sp_Wa_all s Q := by
  unfold Sp_Wa_all
  rw [hn, p2_shl n0 (by omega)]
  exact hk
theorem He_weigh_ok {m : Int} {s : SS} {Q : SS → Prop} (h9 : s.1 9 = m) (m0 : 0 ≤ m ∧ m ≤ 40) (hr : ∀ j, 0 ≤ j → j < m → 0 ≤ s.2 35 j ∧ s.2 35 j < 40) (hD : dOk (s.2 4)) (hi : ∀ j, 0 ≤ j → j < m → (0 ≤ s.2 20 (s.2 35 j) ∧ s.2 20 (s.2 35 j) ≤ 1023) ∧ (0 ≤ s.2 21 (s.2 35 j) ∧ s.2 21 (s.2 35 j) ≤ 999) ∧ (0 ≤ s.2 22 (s.2 35 j) ∧ s.2 22 (s.2 35 j) ≤ 999)) (hk : ∀ s', frm [8, 17] [28, 29, 30, 31, 32] s s' → wkd (min 8 m) (s.2 4) s' → (∀ k, 0 ≤ k → k < min 8 m → s'.2 28 k = s.2 20 (s.2 35 k) ∧ s'.2 29 k = s.2 21 (s.2 35 k) ∧ s'.2 30 k = s.2 22 (s.2 35 k)) → (s'.1 17 = 0 ∨ s'.1 17 = 1) → (s'.1 17 = 1 ↔ wk s' (p2 (min 8 m) - 1)) → Q s') : Sp_He_weigh s Q := by
  have pp := p2_pos (min 8 m)
  refine He_loadWalk_ok h9 m0 hr (fun s1 hf1 h8 hs => ?_)
  have hI : itm (min 8 m) (s1.2 28) (s1.2 29) (s1.2 30) := fun k k0 k1 => by
    obtain ⟨a, b, c⟩ := hs k k0 k1
    rw [a, b, c]
    exact hi k k0 (by omega)
  refine Wa_go_ok h8 (by omega) (by omega) hI (by rw [hf1.2 4 rfl]; exact hD) (fun s2 hf2 hF => ?_)
  have e28 : s2.2 28 = s1.2 28 := hf2.2 28 rfl
  have e29 : s2.2 29 = s1.2 29 := hf2.2 29 rfl
  have e30 : s2.2 30 = s1.2 30 := hf2.2 30 rfl
  have e8 : s2.1 8 = min 8 m := by rw [hf2.1 8 rfl, h8]
  rw [hf1.2 4 rfl] at hF
  have hw : wkd (min 8 m) (s.2 4) s2 := ⟨e8, by rw [e28, e29, e30]; exact hI, by rw [e28, e29, e30]; exact hF⟩
  have ff : ∀ v, frm [8, 17] [28, 29, 30, 31, 32] s (sF s2 17 v) := fun v => frm_tr (frm_tr (frm_mono hf1 (by decide) (by decide)) (frm_mono hf2 (by decide) (by decide))) (frm_F _ _ (by decide))
  refine all_ok e8 (by omega) (by omega) (wk_B (by omega) (by omega) hw (by omega) (by omega) _ (fun c => ⟨Or.inr rfl, fun s7 h7 => ?_⟩) (fun c => ⟨Or.inl rfl, fun s7 h7 => ?_⟩))
  · refine hk s7 (by rw [h7]; exact ff 1) (by rw [h7]; exact ⟨by rw [sF_n _ _ (by decide)]; exact e8, hw.2⟩) (by rw [h7, sF_2, e28, e29, e30]; exact hs) (Or.inr (by rw [h7, sF_s])) ⟨fun _ => by rw [h7]; exact c, fun _ => by rw [h7, sF_s]⟩
  · refine hk s7 (by rw [h7]; exact ff 0) (by rw [h7]; exact ⟨by rw [sF_n _ _ (by decide)]; exact e8, hw.2⟩) (by rw [h7, sF_2, e28, e29, e30]; exact hs) (Or.inl (by rw [h7, sF_s])) ⟨fun z => by rw [h7, sF_s] at z; exact absurd z (by decide), fun z => by rw [h7] at z; exact absurd z c⟩
theorem Md_canAll_ok {m : Int} {s : SS} {Q : Int → SS → Prop} (h37 : s.1 37 = m) (m0 : 0 ≤ m ∧ m ≤ 40) (hr : ∀ j, 0 ≤ j → j < m → 0 ≤ s.2 82 j ∧ s.2 82 j < 40) (hD : dM (s.2 59)) (hE : iEar s) (hi : ∀ j, 0 ≤ j → j < m → (0 ≤ s.2 77 (s.2 82 j) ∧ s.2 77 (s.2 82 j) ≤ 1023) ∧ (0 ≤ s.2 78 (s.2 82 j) ∧ s.2 78 (s.2 82 j) ≤ 999) ∧ (0 ≤ s.2 79 (s.2 82 j) ∧ s.2 79 (s.2 82 j) ≤ 999)) (hk : ∀ r s', frm [38] [83, 84, 85, 86] s s' → mkd (min 8 m) (s.2 59) s' → (∀ k, 0 ≤ k → k < min 8 m → s'.2 84 k = s.2 77 (s.2 82 k) ∧ s'.2 85 k = s.2 78 (s.2 82 k) ∧ s'.2 86 k = s.2 79 (s.2 82 k)) → (r = 0 ∨ r = 1) → (r = 1 ↔ cb s' (min 8 m) (p2 (min 8 m) - 1)) → Q r s') : Sp_Md_canAll s Q := by
  have pp := p2_pos (min 8 m)
  refine Md_takesRoots_ok h37 m0 hr (fun s1 hf1 h38 hs => ?_)
  have hI : itm (min 8 m) (s1.2 84) (s1.2 85) (s1.2 86) := fun k k0 k1 => by
    obtain ⟨a, b, c⟩ := hs k k0 k1
    rw [a, b, c]
    exact hi k k0 (by omega)
  refine Md_fillEarliest_ok h38 (by omega) (by omega) hI (by rw [hf1.2 59 rfl]; exact hD) (fun i => by rw [hf1.2 83 rfl]; exact hE i) (fun s2 hf2 hg hF => ?_)
  have e84 : s2.2 84 = s1.2 84 := hf2.2 84 rfl
  have e85 : s2.2 85 = s1.2 85 := hf2.2 85 rfl
  have e86 : s2.2 86 = s1.2 86 := hf2.2 86 rfl
  have e38 : s2.1 38 = min 8 m := by rw [hf2.1 38 rfl, h38]
  rw [hf1.2 59 rfl] at hF
  have hw : mkd (min 8 m) (s.2 59) s2 := ⟨e38, by rw [e84, e85, e86]; exact hF, hg⟩
  have ff : frm [38] [83, 84, 85, 86] s s2 := frm_tr (frm_mono hf1 (by decide) (by decide)) (frm_mono hf2 (by decide) (by decide))
  rw [e38, p2_shl (by omega) (by omega)]
  refine cb_B (by omega) (by omega) hw (by omega) (by omega) _ (fun c => ⟨Or.inr rfl, ?_⟩) (fun c => ⟨Or.inl rfl, ?_⟩)
  · exact hk 1 s2 ff hw (by rw [e84, e85, e86]; exact hs) (Or.inr rfl) ⟨fun _ => c, fun _ => rfl⟩
  · exact hk 0 s2 ff hw (by rw [e84, e85, e86]; exact hs) (Or.inl rfl) ⟨fun z => absurd z (by decide), fun z => absurd z c⟩
end
