section
/-! RULES: the digit, of the class and of the model -/
theorem Ru_asks_B {r : Int} {s : SS} (h : txB s r) : isB (∃ i, txr s r i = 99) s (Sp_Ru_asksWhetherCan r s) := by
  intro K h1 h0 X2 g2
  obtain ⟨b1, b2⟩ := id h
  have key : ∀ (t : Nat) (i : Int), 0 ≤ i → i ≤ s.2 37 r → s.2 37 r - i < t → (∀ j, 0 ≤ j → j < i → txr s r j ≠ 99) → X2 r i s := by
    intro t
    induction t with
    | zero => intro i a b c; omega
    | succ t ih =>
      intro i i0 i1 ht hI
      refine g2 _ _ _ ⟨b1, ⟨by omega, by omega⟩, ⟨by omega, by omega⟩, fun c => h0 (fun q => ?_), fun c => Ru_textAt_ok h ⟨by omega, by omega⟩ ⟨txr_r, fun d => ih (i + 1) (by omega) (by omega) (by omega) (fun j j0 j1 => ?_), fun d => h1 ⟨i, d⟩⟩⟩
      · obtain ⟨j, hj⟩ := q
        have := txr_in (s := s) (r := r) (i := j) (by omega)
        exact hI j this.1 (by omega) hj
      · by_cases e : j = i
        · rw [e]; exact d
        · exact hI j j0 (by omega)
  exact key (s.2 37 r + 1).toNat 0 (by omega) (by omega) (by omega) (fun j a b => by omega)
/-- what the model finds wherever it has looked so -/
def DV (s : SS) (r e d a v : Int) : Prop := ∀ (s1 : SS) (Q : Int → SS → Prop), mlk s e d s1 → iEar s1 → (∀ s2, frm [37, 38] [82, 83, 84, 85, 86, 92, 93] s1 s2 → iEar s2 → Q v s2) → Sp_Md_digitOf r (s1.2 72 a) s1 Q
def dN : List Nat := [6, 8, 9, 10, 11, 12, 13, 14, 15, 16, 17, 23]
def dA : List Nat := [13, 14, 15, 27, 28, 29, 30, 31, 32, 33, 34, 35, 40, 41, 42]
theorem LS_digitOf_ok {r a e d : Int} {s : SS} {Q : Int → SS → Prop} (hl : iLand s) (hb : iBook s) (hy : iKeys s) (hr : iRule s) (r0 : 0 ≤ r) (r1 : r < s.1 39) (e0 : 0 ≤ e) (e1 : e ≤ s.1 1) (rd : rng d) (ca : 0 ≤ a ∧ a < nmBy s e) (hk : ∀ v t, (0 ≤ v ∧ v ≤ 9) → frm dN dA s t → dg s t → DV s r e d a v → Q v t) : Sp_LS_digitOf r a e d s Q := by
  obtain ⟨b1, b2, b3, b4, b5, b6, b7, b8, b9, b10, b11, b12, b13, b14⟩ := id hb
  obtain ⟨L, c', k', R1, R2, R3, R4, R5, R6, R7, R8, R9⟩ := hr r r0 r1
  have hr20 : 0 ≤ r ∧ r < 20 := by omega
  refine He_open_ok hb hy e0 e1 rd ca (fun P t ht => ?_)
  have f1 := ht.1
  have etx : txr t r = txr s r := by funext i; unfold txr; rw [f1.2 36 rfl, f1.2 37 rfl]
  have htb : txB t r := by unfold txB; rw [f1.2 37 rfl]; exact ⟨hr20, R7⟩
  obtain ⟨m0, hm⟩ := hrd_roots hb ht
  obtain ⟨d1, d2, d3⟩ := iLand_d (t := t) hl (f1.2 4 rfl) (f1.2 59 rfl)
  have hP := ht.2.2.1
  have hEn := ht.2.2.2.2.2.2.2.2.2.1
  have h12 := ht.2.2.2.2.2.2.1
  have h10 := ht.2.2.2.2.2.2.2.1
  have h11 := ht.2.2.2.2.2.2.2.2.2.2.1
  have h13 := ht.2.2.2.2.2.2.2.2.2.2.2.1
  have hlast := ht.2.2.2.2.2.2.2.2.2.2.2.2
  have hcN := bkN_cnt b6 e0 e1
  have hcN : 0 ≤ nmBy s e ∧ nmBy s e ≤ s.1 4 := hcN
  -- the class's facts are the model's
  have same : ∀ (s1 s2 : SS) (u : SS), mlk s e d s1 → fcts s e d a (s1.2 72) (s2.1 37) (s2.2 82) (s2.2 93) → frm wN wA t u → (∀ l, lt7 l → l ≠ 99 → Fc u l = s2.2 93 l) ∧ s2.1 37 = t.1 9 ∧ (∀ j, 0 ≤ j → j < t.1 9 → s2.2 82 j = t.2 35 j) := by
    intro s1 s2 u hmk hf hu
    obtain ⟨F1, F2, F3, F4, F5, F6, F7⟩ := hf
    have hR := hmk.2.2.1
    have eq : ∀ w, 0 ≤ w → w < s.1 7 → qOf s e d P (P a) w = qOf s e d (s1.2 72) (s1.2 72 a) w := fun w w0 w1 => qOf_u hb e0 e1 hP hR ca w w0 w1
    have eqr : rtB (qOf s e d P (P a)) (s.2 24) (s.1 7).toNat = rtB (qOf s e d (s1.2 72) (s1.2 72 a)) (s.2 24) (s.1 7).toNat := by
      funext x
      exact rtB_c _ (fun w w0 w1 => eq w w0 (by omega))
    rw [← eqr] at F1 F3
    obtain ⟨u1, u2⟩ := enumP_u hEn F1
    have elr : lastR (s.2 22) (t.2 35) (t.1 9).toNat = lastR (s.2 22) (s2.2 82) (s2.1 37).toNat := by
      rw [← u1]
      exact lastR_c _ (fun j j0 j1 => u2 j j0 (by omega))
    rw [elr] at h13
    rw [← h13] at F6 F7
    have x9 : u.1 9 = t.1 9 := hu.1 9 rfl
    have x10 : u.1 10 = t.1 10 := hu.1 10 rfl
    have x11 : u.1 11 = t.1 11 := hu.1 11 rfl
    have x12 : u.1 12 = t.1 12 := hu.1 12 rfl
    have x14 : u.1 14 = t.1 14 := hu.1 14 rfl
    have x15 : u.1 15 = t.1 15 := hu.1 15 rfl
    have hq10 : cntP (fun w => qOf s e d P (P a) w && decide (0 ≤ s.2 23 w)) (s.1 7).toNat = cntP (fun w => qOf s e d (s1.2 72) (s1.2 72 a) w && decide (0 ≤ s.2 23 w)) (s.1 7).toNat := cntP_c _ (fun w w0 w1 => by
      show (_ && _) = (_ && _)
      rw [eq w w0 (by omega)])
    have hq12 : cntP (fun x => decide (P x = P a)) (nmBy s e).toNat = cntP (fun x => decide (s1.2 72 x = s1.2 72 a)) (nmBy s e).toNat := cntP_c _ (fun x x0 x1 => by
      show decide _ = decide _
      rw [isP_uniq hP hR x0 (by omega), isP_uniq hP hR ca.1 ca.2])
    have hl14 : u.1 14 = s2.2 93 108 ∧ u.1 15 = s2.2 93 107 := by
      rw [x14, x15]
      rcases Int.lt_or_le (t.1 13) 0 with z | z
      · obtain ⟨y1, y2⟩ := hlast.2 z
        obtain ⟨y3, y4⟩ := F7 z
        rw [y1, y2, y3, y4]; exact ⟨rfl, rfl⟩
      · obtain ⟨y1, y2⟩ := hlast.1 z
        obtain ⟨y3, y4⟩ := F6 z
        rw [y1, y2, y3, y4]; exact ⟨rfl, rfl⟩
    refine ⟨fun l h7 h99 => ?_, u1.symm, fun j j0 j1 => (u2 j j0 j1).symm⟩
    unfold Fc
    rw [if_neg h99]
    rcases h7 with z | z | z | z | z | z | z <;> subst z
    · rw [if_neg (by decide), if_neg (by decide), if_neg (by decide), if_neg (by decide), if_neg (by decide), x9, u1, F2]
    · rw [if_pos rfl, x11, h11, F3]
    · rw [if_neg (by decide), if_pos rfl, x10, h10, hq10, F4]
    · exact absurd rfl h99
    · rw [if_neg (by decide), if_neg (by decide), if_neg (by decide), if_neg (by decide), if_pos rfl, x12, h12, hq12, F5]
    · rw [if_neg (by decide), if_neg (by decide), if_neg (by decide), if_pos rfl, hl14.1]
    · rw [if_neg (by decide), if_neg (by decide), if_pos rfl, hl14.2]
  -- both are in range
  have rngs : ∀ u, frm wN wA t u → ((∃ i, txr u r i = 99) → rng (u.1 17)) → fcR u r := by
    intro u hu h17
    have cb9 := cntP_b (rtB (qOf s e d P (P a)) (s.2 24) (s.1 7).toNat) (s.1 7).toNat
    have c10 := cntP_b (fun w => qOf s e d P (P a) w && decide (0 ≤ s.2 23 w)) (s.1 7).toNat
    have c12 := cntP_b (fun x => decide (P x = P a)) (nmBy s e).toNat
    have lt := seenW_lt (rt := rtB (qOf s e d P (P a)) (s.2 24) (s.1 7).toNat) (wi := s.2 18) (s.1 7).toNat (fun w w0 w1 => (b13 w w0 (by omega)).1)
    have pl := popN_le (n := seenW (rtB (qOf s e d P (P a)) (s.2 24) (s.1 7).toNat) (s.2 18) (s.1 7).toNat) (by omega)
    have x9 : u.1 9 = t.1 9 := hu.1 9 rfl
    have x10 : u.1 10 = t.1 10 := hu.1 10 rfl
    have x11 : u.1 11 = t.1 11 := hu.1 11 rfl
    have x12 : u.1 12 = t.1 12 := hu.1 12 rfl
    have x14 : u.1 14 = t.1 14 := hu.1 14 rfl
    have x15 : u.1 15 = t.1 15 := hu.1 15 rfl
    have l14 : rng (t.1 14) ∧ rng (t.1 15) := by
      rcases Int.lt_or_le (t.1 13) 0 with z | z
      · obtain ⟨y1, y2⟩ := hlast.2 z
        rw [y1, y2]; exact ⟨by decide, by decide⟩
      · obtain ⟨y1, y2⟩ := hlast.1 z
        have lo := lastR_ok (la := s.2 22) (a := t.2 35) (t.1 9).toNat (fun j j0 j1 => (hEn.2 j j0 (by omega)).1)
        rw [← h13] at lo
        rcases lo with q | ⟨q, j, j0, j1, j2⟩
        · omega
        · have z2 := hEn.2 j j0 (by omega)
          rw [j2] at z2
          have x := b13 _ z z2.2.1
          have pp := popN_le (n := (s.2 20 (t.1 13)).toNat) (by omega)
          rw [y1, y2]
          exact ⟨⟨by omega, by omega⟩, ⟨by omega, by omega⟩⟩
    exact ⟨h17, by rw [x11, h11]; exact ⟨by omega, by omega⟩, by rw [x10, h10]; exact ⟨by omega, by omega⟩, by rw [x15]; exact l14.2, by rw [x14]; exact l14.1, by rw [x12, h12]; exact ⟨by omega, by omega⟩, by rw [x9]; exact ⟨by omega, by omega⟩⟩
  -- the rest, when it is decided whether to weigh
  have rest : ∀ u, frm wN wA t u → ((∃ i, txr u r i = 99) → (u.1 17 = 0 ∨ u.1 17 = 1) ∧ ∀ (s1 s2 : SS), mlk s e d s1 → fcts s e d a (s1.2 72) (s2.1 37) (s2.2 82) (s2.2 93) → fctC s (s2.1 37) (s2.2 82) (s2.2 93) s2 → s2.2 93 99 = u.1 17) → Sp_Ru_decide r u Q := by
    intro u hu h99
    have etu : txr u r = txr s r := by rw [← etx]; funext i; unfold txr; rw [hu.2 36 rfl, hu.2 37 rfl]
    have hub : txB u r := by unfold txB; rw [hu.2 37 rfl]; exact htb
    have fsu : frm [6, 8, 9, 10, 11, 12, 13, 14, 15, 16, 17] [13, 14, 15, 27, 28, 29, 30, 31, 32, 33, 34, 35] s u := frm_tr (frm_mono f1 (by decide) (by decide)) (frm_mono hu (by decide) (by decide))
    have hfu := rngs u hu (fun q => by have := (h99 q).1; exact ⟨by omega, by omega⟩)
    refine Ru_decide_ok (L := L) (F := Fc u) (c' := c') (els := s.2 91 r) hub hfu (fun _ _ => rfl) (by rw [etu]; exact R1) (by rw [fsu.2 38 rfl]; exact R6) R4 (by rw [etu, fsu.2 37 rfl]; exact R8) (fun u2 hf2 => ?_)
    refine hk _ u2 (pick_b R9 L 0 R1) (frm_tr (frm_mono fsu (by decide) (by decide)) (frm_mono hf2 (by decide) (by decide))) (dg_tr ht.2.1 (fun i _ _ => by rw [hf2.2 13 rfl, hu.2 13 rfl])) ?_
    intro s1 Q' hmk hE hq X10 g10
    have la := hmk.2.2.2.2
    refine Md_findFacts_ok hb (by rw [← f1.2 59 rfl]; exact d2) hE e0 e1 hmk ca (fun s2 hf2' hE2 hfc hfC => ?_)
    have ag : ∀ j, j = 87 ∨ j = 88 ∨ j = 89 ∨ j = 90 ∨ j = 91 → s2.2 j = s.2 j := by
      intro j hj
      rcases hj with rfl | rfl | rfl | rfl | rfl
      · rw [hf2'.2 87 rfl, la.2 87 (by decide)]
      · rw [hf2'.2 88 rfl, la.2 88 (by decide)]
      · rw [hf2'.2 89 rfl, la.2 89 (by decide)]
      · rw [hf2'.2 90 rfl, la.2 90 (by decide)]
      · rw [hf2'.2 91 rfl, la.2 91 (by decide)]
    obtain ⟨S1, S2, S3⟩ := same s1 s2 u hmk hfc hu
    have all7 : ∀ l, lt7 l → rng (s2.2 93 l) := by
      intro l h7
      by_cases z : l = 99
      · rw [z]; have := hfC.2.2.1; exact ⟨by omega, by omega⟩
      · rw [← S1 l h7 z]; exact Fc_r hfu l
    have ep : pick (Fc u) L (s.2 91 r) = pick (s2.2 93) L (s.2 91 r) := pick_cg (tx := txr s r) (fun i h7 => by
      by_cases z : txr s r i = 99
      · have h17 := h99 ⟨i, by rw [etu]; exact z⟩
        rw [z, h17.2 s1 s2 hmk hfc hfC]
        show (if u.1 17 = 0 then (0 : Int) else 1) = _
        rcases h17.1 with q | q
        · rw [q, if_pos rfl]
        · rw [q, if_neg (by decide)]
      · exact S1 _ h7 z) L 0 R1
    rw [ep] at hq
    refine Md_digits_ok (Q := Q') g10 hr20 all7 R3 (by rw [ag 87 (by omega), ag 88 (by omega), ag 89 (by omega)]; exact R2) (by rw [ag 90 (by omega)]; exact R5) R4 (by rw [ag 91 (by omega)]) (fun s3 hf3 => ?_)
    exact hq s3 (frm_tr (frm_mono hf2' (by decide) (by decide)) (frm_mono hf3 (by decide) (by decide))) (by unfold iEar; rw [hf3.2 83 rfl]; exact hE2)
  refine isB_a (Ru_asks_B htb) (fun no => rest t (frm_rf _ _ _) (fun q => absurd q no)) (fun yes => ?_)
  refine He_weigh_ok (m := t.1 9) rfl m0 (fun j j0 j1 => (hm j j0 j1).1) d1 (fun j j0 j1 => (hm j j0 j1).2) (fun u hu hw hs h17 hwk => ?_)
  refine rest u hu (fun _ => ⟨h17, fun s1 s2 hmk hfc hfC => ?_⟩)
  obtain ⟨S1, S2, S3⟩ := same s1 s2 u hmk hfc hu
  obtain ⟨C1, C2, C3, C4⟩ := hfC
  have pp := p2_pos (min 8 (t.1 9))
  rw [S2] at C1 C2 C4
  have sm := wk_cb (by omega) (by omega) hw C1 (fun k k0 k1 => by
    obtain ⟨a1, a2, a3⟩ := hs k k0 k1
    obtain ⟨c1, c2, c3⟩ := C2 k k0 k1
    rw [a1, a2, a3, c1, c2, c3, S3 k k0 (by omega), f1.2 20 rfl, f1.2 21 rfl, f1.2 22 rfl]
    exact ⟨rfl, rfl, rfl⟩) d1 (by rw [← f1.2 59 rfl]; exact d3) (x := p2 (min 8 (t.1 9)) - 1) (by omega) (by omega)
  have := hwk.trans (sm.trans C4.symm)
  omega
end
