section
/-! root, eyes, last -/
def mN2 : List Nat := [33, 34, 35, 37]
def mA2 : List Nat := [67, 68, 69, 70, 72, 73, 74, 82]
def hN : List Nat := [6, 9, 10, 11, 12, 13, 14, 15, 16, 33, 34, 35, 37]
def hA : List Nat := [13, 14, 15, 27, 33, 34, 35, 67, 68, 69, 70, 72, 73, 74, 82]
theorem rtB_c {q q' : Int → Bool} {ro : Int → Int} {r : Int} : ∀ k : Nat, (∀ w, 0 ≤ w → w < (k : Int) → q w = q' w) → rtB q ro k r = rtB q' ro k r := by
  intro k
  induction k with
  | zero => intro _; rfl
  | succ k ih =>
    intro h
    rw [rtB_s, rtB_s, ih (fun w a b => h w a (by omega)), h k (by omega) (by omega)]
theorem qOf_name {s : SS} (hb : iBook s) {e d : Int} (e0 : 0 ≤ e) (e1 : e ≤ s.1 1) {w : Int} (w0 : 0 ≤ w) (w1 : w < s.1 7) (hs : st s e d w = true) : (0 ≤ s.2 19 w ∧ s.2 19 w < nmBy s e) ∧ w < wdBy s e := by
  have lt := st_lt (wOk_b hb) w0 w1 hs
  have x := hb.2.2.2.2.2.2.2.2.2.2.2.2.1 w w0 w1
  exact ⟨(nm_iff hb e0 e1 (a := s.2 19 w)).mp ⟨x.2.1.1, x.2.1.2.1, by have := x.2.1.2.2; omega⟩, ((wd_iff hb e0 e1).mp ⟨w0, w1, lt⟩).2⟩
theorem qOf_u {s : SS} (hb : iBook s) {e d a : Int} (e0 : 0 ≤ e) (e1 : e ≤ s.1 1) {P R : Int → Int} (hP : isP (linked s e) (nmBy s e) P) (hR : isP (linked s e) (nmBy s e) R) (ha : 0 ≤ a ∧ a < nmBy s e) : ∀ w, 0 ≤ w → w < s.1 7 → qOf s e d P (P a) w = qOf s e d R (R a) w := by
  intro w w0 w1
  unfold qOf
  by_cases hs : st s e d w = true
  · have cn := (qOf_name hb e0 e1 w0 w1 hs).1
    rw [isP_uniq hP hR cn.1 cn.2, isP_uniq hP hR ha.1 ha.2]
  · rw [Bool.not_eq_true] at hs
    rw [hs, Bool.false_and, Bool.false_and]
theorem Md_hear_ok {a x e : Int} {t : SS} {A B : SS → Prop} (hb : iBook t) (hy : iKeys t) (ra : rng a) (rx : rng x) (he : okE t x e) (h0 : ¬ (0 ≤ a ∧ a < nmBy t e) → ∀ s', frm mN2 mA2 t s' → A s') (h1 : (0 ≤ a ∧ a < nmBy t e) → ∀ P s', isP (linked t e) (nmBy t e) P → frm mN2 mA2 t s' → enumP (rtB (qOf t e e P (P a)) (t.2 24) (t.1 7).toNat) (t.1 7) (s'.1 37) (s'.2 82) → B s') : Sp_Md_isThere a x t (fun r s1 => rng r ∧ ((¬ r = 0 → (0 ≤ a ∧ a < 20) ∧ Sp_Md_findRoots (s1.2 72 a) s1 (fun s3 => B s3)) ∧ (r = 0 → A s1))) := by
  obtain ⟨b1, b2, b3, b4, b5, b6, b7, b8, b9, b10, b11, b12, b13, b14⟩ := id hb
  have hc := bkN_cnt b6 he.1 he.2.1
  have hc : 0 ≤ nmBy t e ∧ nmBy t e ≤ t.1 4 := hc
  have hcW := bkN_cnt b7 he.1 he.2.1
  have hcW : 0 ≤ wdBy t e ∧ wdBy t e ≤ t.1 7 := hcW
  refine Md_there_ok hb hy ra rx he (fun c s' hf => b0' (h0 c s' (frm_mono hf (by decide) (by decide)))) (fun c s1 hl => b1' ⟨by omega, ?_⟩)
  obtain ⟨lf, l34, -, lP, l70⟩ := hl
  have pa := lP.2.1 a c.1 c.2
  have e81 : s1.2 81 = t.2 24 := by rw [lf.2 81 rfl, ← b14.2.2.2.2.2.2]
  have e76 : s1.2 76 = t.2 19 := by rw [lf.2 76 rfl, ← b14.2.1]
  refine Md_findRoots_ok (c := wdBy t e) (q := qOf t e e (s1.2 72) (s1.2 72 a)) ⟨by omega, by omega⟩ l34 hcW.1 (by omega) (fun w w0 w1 => ?_) (fun s3 hf3 hE => ?_)
  · have x := b13 w w0 (by omega)
    have wt := ((wd_iff hb he.1 he.2.1 (x := w)).mpr ⟨w0, w1⟩).2.2
    have cn := (nm_iff hb he.1 he.2.1 (a := t.2 19 w)).mp ⟨x.2.1.1, x.2.1.2.1, by have := x.2.1.2.2; omega⟩
    have pn := lP.2.1 _ cn.1 cn.2
    rw [l70 w w0 (by omega), e81, e76]
    refine ⟨by split <;> decide, ⟨by omega, by omega⟩, by omega, ⟨by omega, by omega⟩, ?_⟩
    unfold qOf
    rw [Bool.and_eq_true, decide_eq_true_eq]
    refine and_congr_left (fun _ => ?_)
    by_cases y : st t e e w = true
    · rw [if_pos ⟨w1, y⟩]; exact ⟨fun _ => by decide, fun _ => y⟩
    · rw [if_neg (fun z => y z.2)]; exact ⟨fun z => absurd z y, fun z => absurd rfl z⟩
  · rw [e81] at hE
    refine h1 c (s1.2 72) s3 lP (frm_tr (frm_mono lf (by decide) (by decide)) (frm_mono hf3 (by decide) (by decide))) ?_
    have qlt : ∀ w, 0 ≤ w → w < t.1 7 → qOf t e e (s1.2 72) (s1.2 72 a) w = true → w < wdBy t e := fun w w0 w1 hq => by
      unfold qOf at hq
      rw [Bool.and_eq_true] at hq
      exact (qOf_name hb he.1 he.2.1 w0 w1 hq.1).2
    refine enumP_c hE hcW.1 hcW.2 (fun r r0 r1 => ?_) (fun r r0 r1 z => ?_)
    · rw [Bool.eq_iff_iff, rtB_iff, rtB_iff]
      constructor
      · rintro ⟨w, w0, w1, w2⟩
        exact ⟨w, w0, by omega, w2⟩
      · rintro ⟨w, w0, w1, w2⟩
        have := qlt w w0 (by omega) w2.1
        exact ⟨w, w0, by omega, w2⟩
    · obtain ⟨w, w0, w1, w2, w3⟩ := (rtB_iff _).mp z
      have := qlt w w0 (by omega) w2
      have x := b13 w w0 (by omega)
      omega
theorem Md_hear_no {a x : Int} {t : SS} {A B : SS → Prop} (hb : iBook t) (ra : rng a) (rx : rng x) (hn : ¬ (-1 ≤ x ∧ x ≤ t.1 1)) (h0 : A t) : Sp_Md_isThere a x t (fun r s1 => rng r ∧ ((¬ r = 0 → (0 ≤ a ∧ a < 20) ∧ Sp_Md_findRoots (s1.2 72 a) s1 (fun s3 => B s3)) ∧ (r = 0 → A s1))) := Md_isThere_no hb ra rx hn (b0' h0)
/-- what holds after the class has opened: as at the beginning -/
theorem hrd_t {s t : SS} {e d a : Int} {P : Int → Int} (h : hrd s e d a P t) (hb : iBook s) (hy : iKeys s) : iBook t ∧ iKeys t ∧ (∀ x, okE s x e → okE t x e) ∧ nmBy t e = nmBy s e ∧ linked t e = linked s e ∧ (∀ R p, qOf t e d R p = qOf s e d R p) ∧ t.2 24 = s.2 24 ∧ t.1 7 = s.1 7 := by
  have hf := h.1
  refine ⟨iBook_agr (agr_of hf (by decide)) hb, iKeys_agr (agr_of hf (by decide)) hy, fun x hx => by unfold okE; rw [hf.1 1 rfl]; exact hx, by unfold nmBy; rw [hf.2 60 rfl], ?_, fun R p => ?_, hf.2 24 rfl, hf.1 7 rfl⟩
  · funext u v
    unfold linked
    rw [lk_agr (agr_of hf (by decide))]
  · funext w
    unfold qOf
    rw [st_agr (agr_of hf (by decide)), hf.2 19 rfl]
/-- the class's list and the model's -/
theorem roots_u {s t t3 : SS} {e a : Int} {P R : Int → Int} (hb : iBook s) (hy : iKeys s) (e0 : 0 ≤ e) (e1 : e ≤ s.1 1) (ha : 0 ≤ a ∧ a < nmBy s e) (h : hrd s e e a P t) (hR : isP (linked t e) (nmBy t e) R) (hE : enumP (rtB (qOf t e e R (R a)) (t.2 24) (t.1 7).toNat) (t.1 7) (t3.1 37) (t3.2 82)) : t.1 9 = t3.1 37 ∧ (∀ j, 0 ≤ j → j < t.1 9 → t.2 35 j = t3.2 82 j) ∧ enumP (rtB (qOf s e e P (P a)) (s.2 24) (s.1 7).toNat) (s.1 7) (t3.1 37) (t3.2 82) := by
  obtain ⟨-, -, -, hn, hL, hq, h24, h7⟩ := hrd_t h hb hy
  obtain ⟨-, -, hP, -, -, -, -, -, -, hE1, -⟩ := h
  rw [hn, hL] at hR
  rw [hq, h24, h7] at hE
  have b3 := hb.2.2.1
  have eq : rtB (qOf s e e R (R a)) (s.2 24) (s.1 7).toNat = rtB (qOf s e e P (P a)) (s.2 24) (s.1 7).toNat := by
    funext r
    exact rtB_c _ (fun w w0 w1 => qOf_u hb e0 e1 hR hP ha w w0 (by omega))
  rw [eq] at hE
  obtain ⟨u1, u2⟩ := enumP_u hE1 hE
  exact ⟨u1, u2, hE⟩
end
