section
/-! ALL CALLS: what always holds, and the law's loop -/
def Inv (n : Int) (s : SS) : Prop := iBones s ∧ iLand s ∧ iTape s ∧ iBook s ∧ iKeys s ∧ dg0 s ∧ iGrv n s ∧ iEar s ∧ iRule s ∧ iFind s
theorem iGrv_up {n : Int} {s : SS} (h : iGrv n s) : iGrv (n + 1) s := by
  obtain ⟨x1, x2, x3, x4⟩ := h
  exact ⟨x1, x2, ⟨x3.1, x3.2.1, by omega⟩, x4⟩
theorem Inv_up {n : Int} {s : SS} (h : Inv n s) : Inv (n + 1) s := by
  obtain ⟨h1, h2, h3, h4, h5, h6, h7, h8⟩ := h
  exact ⟨h1, h2, h3, h4, h5, h6, iGrv_up h7, h8⟩
theorem dg0_d {s t : SS} (h : dg0 s) (d : dg s t) : dg0 t := fun u u0 u1 => (d u u0 u1).trans (h u u0 u1)
theorem dg0_f {s t : SS} (h : dg0 s) (d : t.2 13 = s.2 13) : dg0 t := fun u u0 u1 => by rw [d]; exact h u u0 u1
theorem iEar_f {s t : SS} (h : iEar s) (d : t.2 83 = s.2 83) : iEar t := by unfold iEar; rw [d]; exact h
theorem iGrv_mono {n : Int} {s t : SS} (h : agr [25, 26, 27, 46, 47, 48] gvAr s t) (h4 : s.1 4 ≤ t.1 4) (q : iGrv n s) : iGrv n t := by
  unfold iGrv at q ⊢
  rw [h.1 25 (by decide), h.1 26 (by decide), h.1 27 (by decide), h.1 46 (by decide), h.1 47 (by decide), h.1 48 (by decide), h.2 45 (by decide), h.2 46 (by decide), h.2 47 (by decide), h.2 48 (by decide), h.2 49 (by decide), h.2 50 (by decide), h.2 51 (by decide), h.2 52 (by decide), h.2 53 (by decide), h.2 54 (by decide), h.2 55 (by decide), h.2 99 (by decide), h.2 100 (by decide), h.2 101 (by decide), h.2 102 (by decide), h.2 103 (by decide), h.2 104 (by decide), h.2 105 (by decide), h.2 106 (by decide), h.2 107 (by decide), h.2 108 (by decide), h.2 109 (by decide)]
  obtain ⟨x1, x2, x3, x4, x5, x6, x7⟩ := q
  exact ⟨x1, x2, x3, x4, x5, fun m m0 m1 => by
    obtain ⟨y1, y2⟩ := x6 m m0 m1
    exact ⟨⟨y1.1, y1.2.1, by omega⟩, y2⟩, x7⟩
/-- the calls that look and tell -/
def HN : List Nat := [6, 8, 9, 10, 11, 12, 13, 14, 15, 16, 17, 23, 33, 34, 35, 37, 38]
def HA : List Nat := [13, 14, 15, 16, 27, 28, 29, 30, 31, 32, 33, 34, 35, 40, 41, 42, 56, 57, 58, 67, 68, 69, 70, 71, 72, 73, 74, 82, 83, 84, 85, 86, 92, 93, 110, 111, 112]
theorem Inv_hear {n : Int} {s t : SS} (h : Inv n s) (d : dg s t) (hf : frm HN HA s t) (hE : iEar t) : Inv (n + 1) t := by
  obtain ⟨h1, h2, h3, h4, h5, h6, h7, h8, h9, h10⟩ := h
  exact ⟨iBones_agr (agr_of hf (by decide)) h1, iLand_agr (agr_of hf (by decide)) h2, iTape_agr (agr_of hf (by decide)) h3, iBook_agr (agr_of hf (by decide)) h4, iKeys_agr (agr_of hf (by decide)) h5, dg0_d h6 d, iGrv_up (iGrv_agr (agr_of hf (by decide)) h7), hE, iRule_agr (agr_of hf (by decide)) h9, iFind_g (agr_of hf (by decide)) (grw_f (hf.1 29 rfl) (hf.2 60 rfl)) h10⟩
theorem Inv_bone {n : Int} {s t : SS} (h : Inv n s) (hb : iBones t) (hf : frm [24, 45] [43, 44, 97, 98] s t) : Inv (n + 1) t := by
  obtain ⟨h1, h2, h3, h4, h5, h6, h7, h8, h9, h10⟩ := h
  exact ⟨hb, iLand_agr (agr_of hf (by decide)) h2, iTape_agr (agr_of hf (by decide)) h3, iBook_agr (agr_of hf (by decide)) h4, iKeys_agr (agr_of hf (by decide)) h5, dg0_f h6 (hf.2 13 rfl), iGrv_up (iGrv_agr (agr_of hf (by decide)) h7), iEar_f h8 (hf.2 83 rfl), iRule_agr (agr_of hf (by decide)) h9, iFind_g (agr_of hf (by decide)) (grw_f (hf.1 29 rfl) (hf.2 60 rfl)) h10⟩
theorem Inv_road {n : Int} {s t : SS} (h : Inv n s) (hb : iLand t) (hf : frm [2, 28] [4, 59] s t) : Inv (n + 1) t := by
  obtain ⟨h1, h2, h3, h4, h5, h6, h7, h8, h9, h10⟩ := h
  exact ⟨iBones_agr (agr_of hf (by decide)) h1, hb, iTape_agr (agr_of hf (by decide)) h3, iBook_agr (agr_of hf (by decide)) h4, iKeys_agr (agr_of hf (by decide)) h5, dg0_f h6 (hf.2 13 rfl), iGrv_up (iGrv_agr (agr_of hf (by decide)) h7), iEar_f h8 (hf.2 83 rfl), iRule_agr (agr_of hf (by decide)) h9, iFind_g (agr_of hf (by decide)) (grw_f (hf.1 29 rfl) (hf.2 60 rfl)) h10⟩
theorem Inv_feed {n : Int} {s t : SS} (h : Inv n s) (hb : iTape t) (hf : frm [3, 30] [5, 63] s t) : Inv (n + 1) t := by
  obtain ⟨h1, h2, h3, h4, h5, h6, h7, h8, h9, h10⟩ := h
  exact ⟨iBones_agr (agr_of hf (by decide)) h1, iLand_agr (agr_of hf (by decide)) h2, hb, iBook_agr (agr_of hf (by decide)) h4, iKeys_agr (agr_of hf (by decide)) h5, dg0_f h6 (hf.2 13 rfl), iGrv_up (iGrv_agr (agr_of hf (by decide)) h7), iEar_f h8 (hf.2 83 rfl), iRule_agr (agr_of hf (by decide)) h9, iFind_g (agr_of hf (by decide)) (grw_f (hf.1 29 rfl) (hf.2 60 rfl)) h10⟩
theorem Inv_name {n : Int} {s t : SS} (h : Inv n s) (ht : iTape t) (hb : iBook t) (hy : iKeys t) (h44 : s.1 4 ≤ t.1 4) (hf : frm [1, 3, 4, 29, 30, 31, 32] [6, 7, 8, 17, 60, 61, 62, 64, 65, 66] s t) (hg : grw s t) : Inv (n + 1) t := by
  obtain ⟨h1, h2, h3, h4, h5, h6, h7, h8, h9, h10⟩ := h
  exact ⟨iBones_agr (agr_of hf (by decide)) h1, iLand_agr (agr_of hf (by decide)) h2, ht, hb, hy, dg0_f h6 (hf.2 13 rfl), iGrv_up (iGrv_mono (agr_of hf (by decide)) h44 h7), iEar_f h8 (hf.2 83 rfl), iRule_agr (agr_of hf (by decide)) h9, iFind_g (agr_of hf (by decide)) hg h10⟩
theorem Inv_book {n : Int} {s t : SS} (h : Inv n s) (hb : iBook t) (hf : frm [1, 5, 7, 29, 33, 34, 35, 36] [9, 10, 11, 12, 18, 19, 20, 21, 22, 23, 24, 25, 26, 27, 60, 61, 62, 67, 68, 69, 70, 72, 75, 76, 77, 78, 79, 80, 81] s t) (hg : grw s t) : Inv (n + 1) t := by
  obtain ⟨h1, h2, h3, h4, h5, h6, h7, h8, h9, h10⟩ := h
  exact ⟨iBones_agr (agr_of hf (by decide)) h1, iLand_agr (agr_of hf (by decide)) h2, iTape_agr (agr_of hf (by decide)) h3, hb, iKeys_agr (agr_of hf (by decide)) h5, dg0_f h6 (hf.2 13 rfl), iGrv_up (iGrv_agr (agr_of hf (by decide)) h7), iEar_f h8 (hf.2 83 rfl), iRule_agr (agr_of hf (by decide)) h9, iFind_g (agr_of hf (by decide)) hg h10⟩
theorem Inv_rule {n : Int} {s t : SS} (h : Inv n s) (ht : iTape t) (hb : iBook t) (hr : iRule t) (hf : frm ruN ruA s t) (hg : grw s t) : Inv (n + 1) t := by
  obtain ⟨h1, h2, h3, h4, h5, h6, h7, h8, h9, h10⟩ := h
  exact ⟨iBones_agr (agr_of hf (by decide)) h1, iLand_agr (agr_of hf (by decide)) h2, ht, hb, iKeys_agr (agr_of hf (by decide)) h5, dg0_f h6 (hf.2 13 rfl), iGrv_up (iGrv_agr (agr_of hf (by decide)) h7), iEar_f h8 (hf.2 83 rfl), hr, iFind_g (agr_of hf (by decide)) hg h10⟩
theorem Inv_find {n : Int} {s t : SS} (h : Inv n s) (d : dg s t) (hf : frm ffN ffA s t) (hE : iEar t) (hF : iFind t) : Inv (n + 1) t := by
  obtain ⟨h1, h2, h3, h4, h5, h6, h7, h8, h9, h10⟩ := h
  exact ⟨iBones_agr (agr_of hf (by decide)) h1, iLand_agr (agr_of hf (by decide)) h2, iTape_agr (agr_of hf (by decide)) h3, iBook_agr (agr_of hf (by decide)) h4, iKeys_agr (agr_of hf (by decide)) h5, dg0_d h6 d, iGrv_up (iGrv_agr (agr_of hf (by decide)) h7), hE, iRule_agr (agr_of hf (by decide)) h9, hF⟩
theorem Inv_grv {n : Int} {s t : SS} (h : Inv n s) (d : dg s t) (hf : frm [6, 25, 26, 27, 33, 34, 35, 46, 47, 48] [13, 14, 15, 45, 46, 47, 48, 49, 50, 51, 52, 53, 54, 55, 56, 57, 58, 67, 68, 69, 70, 72, 99, 100, 101, 102, 103, 104, 105, 106, 107, 108, 109, 110, 111, 112] s t) (hg : iGrv (n + 1) t) : Inv (n + 1) t := by
  obtain ⟨h1, h2, h3, h4, h5, h6, h7, h8, h9, h10⟩ := h
  exact ⟨iBones_agr (agr_of hf (by decide)) h1, iLand_agr (agr_of hf (by decide)) h2, iTape_agr (agr_of hf (by decide)) h3, iBook_agr (agr_of hf (by decide)) h4, iKeys_agr (agr_of hf (by decide)) h5, dg0_d h6 d, hg, iEar_f h8 (hf.2 83 rfl), iRule_agr (agr_of hf (by decide)) h9, iFind_g (agr_of hf (by decide)) (grw_f (hf.1 29 rfl) (hf.2 60 rfl)) h10⟩
/-! the start -/
theorem fLa_v {p q : Int} (hp : pP p) (hq : pP q) : fLa (10 * p + q) = if p = q then 0 else 1000000 := by
  obtain ⟨p0, p1⟩ := hp
  obtain ⟨q0, q1⟩ := hq
  unfold fLa
  rw [if_pos (by omega), show (10 * p + q) / 10 = p by omega, show (10 * p + q) % 10 = q by omega]
theorem fMf_v {p q : Int} (hp : pP p) (hq : pP q) : fMf (10 * p + q) = if p = q then 0 else 100000 := by
  obtain ⟨p0, p1⟩ := hp
  obtain ⟨q0, q1⟩ := hq
  unfold fMf
  rw [if_pos (by omega)]
  by_cases c : p = q
  · rw [if_pos c, if_pos (by omega)]
  · rw [if_neg c, if_neg (by omega)]
theorem sg0_4 : sg0.2 4 = fLa := rfl
theorem sg0_59 : sg0.2 59 = fMf := rfl
theorem sg0_104 : sg0.2 104 = fMg := rfl
theorem iLand_0 : iLand sg0 := by
  unfold iLand
  rw [sg0_4, sg0_59]
  refine ⟨rfl, by decide, ⟨fun p q hp hq => ?_, fun p hp => ?_, fun p q r hp hq hr => ?_⟩, fun x y hx hy hne => ?_, fun x y hx hy hne => Or.inl ?_, fun p q hp hq => ?_⟩
  · rw [fLa_v hp hq, fLa_v hq hp]
    by_cases c : p = q
    · rw [if_pos c, if_pos c.symm]; omega
    · rw [if_neg c, if_neg (fun z => c z.symm)]; omega
  · rw [fLa_v hp hp, if_pos rfl]
  · rw [fLa_v hp hr, fLa_v hp hq, fLa_v hq hr]
    by_cases c1 : p = q <;> by_cases c2 : q = r <;> by_cases c3 : p = r <;> simp only [c1, c2, c3, if_true, if_false] <;> (repeat' split) <;> omega
  · rw [fLa_v hx hy, if_neg hne]; omega
  · rw [fLa_v hx hy, if_neg hne]
  · rw [fLa_v hp hq, fMf_v hp hq]
    by_cases c : p = q
    · rw [if_pos c, if_pos c]; rfl
    · rw [if_neg c, if_neg c]; rfl
theorem iBook_0 : iBook sg0 := by
  refine ⟨⟨rfl, by decide, by decide⟩, ⟨rfl, by decide, by decide⟩, ⟨rfl, by decide, by decide⟩, ⟨rfl, by decide, by decide⟩, by decide, ⟨rfl, fun k a b => ?_⟩, ⟨rfl, fun k a b => ?_⟩, ⟨rfl, fun k a b => ?_⟩, ⟨rfl, fun k a b => ?_⟩, ⟨fun k a b => ?_, fun k a b => ?_⟩, fun k a b => ?_, fun k a b => ?_, fun k a b => ?_, rfl, rfl, rfl, rfl, rfl, rfl, rfl⟩
  all_goals exact absurd (show k < 0 from b) (by omega)
theorem Inv_0 : Inv 0 sg0 := by
  refine ⟨⟨rfl, by decide, rfl, rfl, fun k _ _ => ⟨Int.le_refl 0, (by decide : (0 : Int) ≤ 12)⟩, fun x => ⟨Int.le_refl 0, (by decide : (0 : Int) ≤ 99)⟩⟩, iLand_0, ⟨rfl, by decide, fun i a b => absurd (show i < 0 from b) (by omega)⟩, iBook_0, fun k a b => absurd (show k < 0 from b) (by omega), fun u _ _ => rfl, ?_, fun i => (by decide : rng (0 : Int)), fun r a b => absurd (show r < 0 from b) (by omega), ⟨rfl, by decide, fun f a b => absurd (show f < 0 from b) (by omega)⟩⟩
  refine ⟨⟨rfl, by decide⟩, ⟨rfl, by decide⟩, ⟨rfl, by decide⟩, fun k a b => absurd (show k < 0 from b) (by omega), fun k a b => ?_, fun m a b => absurd (show m < 0 from b) (by omega), fun m k a b => absurd (show m < 0 from b) (by omega)⟩
  rw [sg0_104]
  have a : 0 ≤ k := a
  unfold fMg
  rw [if_pos ⟨a, b⟩]
/-! the loop -/
theorem ti_r (x : Int32) : rng x.toInt := ⟨by have := Int32.le_toInt x; omega, by have := Int32.toInt_lt x; omega⟩
theorem scF_r (xs : Nat → Int32) (i : Int) : rng (scF xs i) := ti_r _
theorem sim_count {n x : Int} {s : SS} {K : Int → Int → SS → Prop} (rx : rng x) (h : Inv n s) (hk : ∀ r s', rng r → Inv (n + 1) s' → K r r s') : Sp_LS_count x s (fun p s1 => Sp_Md_count x s1 (fun q s2 => K p q s2)) := by
  obtain ⟨h1, h2, h3, h4, h5, h6, h7, h8, h9, h10⟩ := id h
  have b1 := h4.1
  have b2 := h4.2.1
  have b3 := h4.2.2.1
  have b4 := h4.2.2.2.1
  have g1 := h7.1
  have g2 := h7.2.1
  have f1 := h10.1
  have f2 := h10.2.1
  have t1 := h3.1
  have t2 := h3.2.1
  have st : ∀ r, rng r → K r r s := fun r rr => hk r s rr (Inv_up h)
  by_cases c0 : x = 0
  · subst c0; exact sim_count0 b1.1.symm (st _ ⟨by omega, by omega⟩)
  by_cases c1 : x = 1
  · subst c1; exact sim_count1 b2.1.symm (st _ ⟨by omega, by omega⟩)
  by_cases c2 : x = 2
  · subst c2; exact sim_count2 h4 h5 (fun r s' rr d hf => hk r s' rr (Inv_hear h d (frm_mono hf (by decide) (by decide)) (iEar_f h8 (hf.2 83 rfl))))
  by_cases c3 : x = 3
  · subst c3; exact sim_count3 b3.1.symm (st _ ⟨by omega, by omega⟩)
  by_cases c4 : x = 4
  · subst c4; exact sim_count4 h4 h5 (fun r s' rr hf => hk r s' rr (Inv_hear h (fun u _ _ => by rw [hf.2 13 rfl]) (frm_mono hf (by decide) (by decide)) (iEar_f h8 (hf.2 83 rfl))))
  by_cases c5 : x = 5
  · subst c5; exact sim_count5 b4.1.symm (st _ ⟨by omega, by omega⟩)
  by_cases c6 : x = 6
  · subst c6; exact sim_count6 f1.symm (st _ ⟨by omega, by omega⟩)
  by_cases c7 : x = 7
  · subst c7; exact sim_count7 h2 h4 h5 h9 h8 h10 (fun r s' rr d hf hE => hk r s' rr (Inv_hear h d (frm_mono hf (by decide) (by decide)) hE))
  by_cases c8 : x = 8
  · subst c8; exact sim_count8 g1.1.symm (st _ ⟨by omega, by omega⟩)
  by_cases c9 : x = 9
  · subst c9; exact sim_count9 g2.1.symm (st _ ⟨by omega, by omega⟩)
  by_cases c10 : x = 10
  · subst c10; exact sim_count10 h7 b2.2.2 st
  by_cases c11 : x = 11
  · subst c11; exact sim_count11 t1.symm (st _ ⟨by omega, by omega⟩)
  exact sim_countx rx (by omega) (st _ (by decide))
set_option maxHeartbeats 8000000 in
theorem pure_main : PureMain := by
  intro L xs hL X18 h18
  have key : ∀ (t : Nat) (n : Int) (s : SS), 0 ≤ n → n ≤ 520 → (L : Int) + 4000 - 7 * n < t → Inv n s → X18 (7 * n) s := by
    intro t
    induction t with
    | zero => intro n s n0 n1 nt hI; omega
    | succ t ih =>
      intro n s n0 n1 nt hI
      obtain ⟨h1, h2, h3, h4, h5, h6, h7, h8, h9, h10⟩ := id hI
      have b2 := h4.2.1
      refine h18 _ _ ?_
      unfold B_Lw_18
      refine ⟨⟨by omega, by omega⟩, ⟨by omega, by omega⟩, fun c => rfl, fun c => ?_⟩
      have nx : ∀ s', Inv (n + 1) s' → X18 (7 * n + 7) s' := fun s' hs' => by
        have := ih (n + 1) s' (by omega) (by omega) (by omega) hs'
        rw [show 7 * (n + 1) = 7 * n + 7 by omega] at this
        exact this
      have i1 : (0 ≤ 7 * n + 1 ∧ 7 * n + 1 < (L : Int)) = True := eq_true ⟨by omega, by omega⟩
      have i2 : (0 ≤ 7 * n + 2 ∧ 7 * n + 2 < (L : Int)) = True := eq_true ⟨by omega, by omega⟩
      have i3 : (0 ≤ 7 * n + 3 ∧ 7 * n + 3 < (L : Int)) = True := eq_true ⟨by omega, by omega⟩
      have i4 : (0 ≤ 7 * n + 4 ∧ 7 * n + 4 < (L : Int)) = True := eq_true ⟨by omega, by omega⟩
      have i5 : (0 ≤ 7 * n + 5 ∧ 7 * n + 5 < (L : Int)) = True := eq_true ⟨by omega, by omega⟩
      have i6 : (0 ≤ 7 * n + 6 ∧ 7 * n + 6 < (L : Int)) = True := eq_true ⟨by omega, by omega⟩
      have sr := scF_r xs
      have ir : ∀ i, rng (scF xs i) = True := fun i => eq_true (sr i)
      have look : ∀ (K : Int → Int → SS → Prop), (∀ r s', rng r → Inv (n + 1) s' → K r r s') → ∀ r s', rng r → dg s s' → frm HN HA s s' → iEar s' → K r r s' := fun K hK r s' rr d hf hE => hK r s' rr (Inv_hear hI d hf hE)
      have stay : Inv (n + 1) s := Inv_up hI
      have e83 : ∀ {s' : SS}, s'.2 83 = s.2 83 → iEar s' := fun q => iEar_f h8 q
      refine ⟨⟨by omega, by omega⟩, ti_r _, fun _ => ?_, fun _ => ?_, fun _ => ?_, fun _ => ?_, fun _ => ?_, fun _ => ?_, fun _ => ?_, fun _ => ?_, fun _ => ?_, fun _ => ?_, fun _ => ?_, fun _ => ?_, fun _ => ?_, fun _ => ?_, fun _ => ?_, fun _ => ?_, fun _ => ?_, fun _ => ?_, fun _ => ?_, fun _ => ?_, fun _ => ?_, fun _ => ?_, fun _ => ?_, fun _ => ?_, fun _ => ?_, fun _ => ?_, fun _ => ?_, fun _ => ?_, fun _ => ?_, fun _ => ?_, fun _ => ?_, fun _ => ?_, fun _ => ?_, fun _ => ?_, fun _ => ?_, fun _ => ?_, ?_⟩
      all_goals (try simp only [i1, i2, i3, i4, i5, i6, ir, true_and])
      · exact sim_road (sr _) (sr _) (sr _) h2 (fun r s' rr hl hf => ⟨rr, rr, fun _ => nx s' (Inv_road hI hl hf), fun q => absurd rfl q⟩)
      · exact sim_far (sr _) (sr _) h2 (fun r rr => ⟨rr, rr, fun _ => nx s stay, fun q => absurd rfl q⟩)
      · exact sim_feed (sr _) h3 (fun r s' rr hl hf => ⟨rr, rr, fun _ => nx s' (Inv_feed hI hl hf), fun q => absurd rfl q⟩)
      · exact sim_name h3 h4 h5 (fun r s' rr ht hb hy hle _ _ hf hg => ⟨rr, rr, fun _ => nx s' (Inv_name hI ht hb hy hle hf hg), fun q => absurd rfl q⟩)
      · exact sim_key (sr _) (sr _) h4 h5 (fun r rr => ⟨rr, rr, fun _ => nx s stay, fun q => absurd rfl q⟩)
      · exact sim_decree (k := 1) (u := 2) (sr _) (sr _) (Or.inl ⟨rfl, rfl⟩) h4 (fun r s' rr hb hf hg => ⟨rr, rr, fun _ => nx s' (Inv_book hI hb (frm_mono hf (by decide) (by decide)) hg), fun q => absurd rfl q⟩)
      · exact sim_decree (k := 2) (u := 3) (sr _) (sr _) (Or.inr ⟨rfl, rfl⟩) h4 (fun r s' rr hb hf hg => ⟨rr, rr, fun _ => nx s' (Inv_book hI hb (frm_mono hf (by decide) (by decide)) hg), fun q => absurd rfl q⟩)
      · exact sim_link (sr _) (sr _) (sr _) h4 h5 (fun r s' rr d hf => ⟨rr, rr, fun _ => nx s' (Inv_hear hI d (frm_mono hf (by decide) (by decide)) (e83 (hf.2 83 rfl))), fun q => absurd rfl q⟩)
      · exact sim_person (sr _) (sr _) h4 h5 (fun r s' rr d hf => ⟨rr, rr, fun _ => nx s' (Inv_hear hI d (frm_mono hf (by decide) (by decide)) (e83 (hf.2 83 rfl))), fun q => absurd rfl q⟩)
      · exact sim_tie (sr _) (sr _) (sr _) h4 h5 h6 (fun r s' rr d hf => ⟨rr, rr, fun _ => nx s' (Inv_hear hI d (frm_mono hf (by decide) (by decide)) (e83 (hf.2 83 rfl))), fun q => absurd rfl q⟩)
      · exact sim_word (sr _) (sr _) (sr _) (sr _) (sr _) (sr _) h4 (fun r s' rr hb hf hg => ⟨rr, rr, fun _ => nx s' (Inv_book hI hb (frm_mono hf (by decide) (by decide)) hg), fun q => absurd rfl q⟩)
      · exact sim_withdraw (sr _) h4 h5 (fun r s' rr hb hf hg => ⟨rr, rr, fun _ => nx s' (Inv_book hI hb (frm_mono hf (by decide) (by decide)) hg), fun q => absurd rfl q⟩)
      · exact sim_about (sr _) (sr _) (sr _) h4 h5 (fun r s' rr d hf => ⟨rr, rr, fun _ => nx s' (Inv_hear hI d (frm_mono hf (by decide) (by decide)) (e83 (hf.2 83 rfl))), fun q => absurd rfl q⟩)
      · exact sim_root (sr _) (sr _) (sr _) h4 h5 (fun r s' rr d => ⟨rr, rr, fun _ => nx s' (Inv_hear hI d.1 (frm_mono d.2 (by decide) (by decide)) (e83 (d.2.2 83 rfl))), fun q => absurd rfl q⟩)
      · exact sim_eyes (sr _) (sr _) h4 h5 (fun r s' rr d => ⟨rr, rr, fun _ => nx s' (Inv_hear hI d.1 (frm_mono d.2 (by decide) (by decide)) (e83 (d.2.2 83 rfl))), fun q => absurd rfl q⟩)
      · exact sim_can (sr _) (sr _) h2 h4 h5 h8 (fun r s' rr d hf hE => ⟨rr, rr, fun _ => nx s' (Inv_hear hI d (frm_mono hf (by decide) (by decide)) hE), fun q => absurd rfl q⟩)
      · exact sim_quarrel (sr _) (sr _) (sr _) h2 h4 h5 h8 (fun r s' rr d hf hE => ⟨rr, rr, fun _ => nx s' (Inv_hear hI d (frm_mono hf (by decide) (by decide)) hE), fun q => absurd rfl q⟩)
      · exact sim_could (sr _) (sr _) (sr _) (sr _) h2 h4 h5 h8 (fun r s' rr d hf hE => ⟨rr, rr, fun _ => nx s' (Inv_hear hI d (frm_mono hf (by decide) (by decide)) hE), fun q => absurd rfl q⟩)
      · exact sim_last (sr _) (sr _) h4 h5 (fun r s' rr d => ⟨rr, rr, fun _ => nx s' (Inv_hear hI d.1 (frm_mono d.2 (by decide) (by decide)) (e83 (d.2.2 83 rfl))), fun q => absurd rfl q⟩)
      · exact sim_rule h3 h4 h9 (fun r s' rr ht hb hr hf hg => ⟨rr, rr, fun _ => nx s' (Inv_rule hI ht hb hr hf hg), fun q => absurd rfl q⟩)
      · exact sim_finding (sr _) (sr _) h2 h4 h5 h9 h8 (fun r s' rr d hf hE => ⟨rr, rr, fun _ => nx s' (Inv_hear hI d (frm_mono hf (by decide) (by decide)) hE), fun q => absurd rfl q⟩)
      · exact sim_find (sr _) h2 h4 h5 h9 h8 h10 (fun r s' rr d hf hE hF => ⟨rr, rr, fun _ => nx s' (Inv_find hI d hf hE hF), fun q => absurd rfl q⟩)
      · exact sim_found (sr _) (sr _) h2 h4 h5 h9 h8 h10 (fun r s' rr d hf hE => ⟨rr, rr, fun _ => nx s' (Inv_hear hI d (frm_mono hf (by decide) (by decide)) hE), fun q => absurd rfl q⟩)
      · exact sim_bone (sr _) (sr _) (sr _) (sr _) h1 (fun r s' rr hb hf => ⟨rr, rr, fun _ => nx s' (Inv_bone hI hb hf), fun q => absurd rfl q⟩)
      · exact sim_bound (sr _) h1 (fun r s' rr hb hf => ⟨rr, rr, fun _ => nx s' (Inv_bone hI hb hf), fun q => absurd rfl q⟩)
      · exact sim_least (sr _) h1 (fun r rr => ⟨rr, rr, fun _ => nx s stay, fun q => absurd rfl q⟩)
      · exact sim_set (sr _) (sr _) (sr _) (sr _) (sr _) h7 (fun r s' rr hg hf => ⟨rr, rr, fun _ => nx s' (Inv_grv hI (fun u _ _ => by rw [hf.2 13 rfl]) (frm_mono hf (by decide) (by decide)) (iGrv_up hg)), fun q => absurd rfl q⟩)
      · exact sim_missing (sr _) (sr _) (sr _) (sr _) h4 h7 (fun r s' rr hg hf => ⟨rr, rr, fun _ => nx s' (Inv_grv hI (fun u _ _ => by rw [hf.2 13 rfl]) (frm_mono hf (by decide) (by decide)) (iGrv_up hg)), fun q => absurd rfl q⟩)
      · exact sim_fit (sr _) (sr _) h7 b2.2.2 (fun r rr => ⟨rr, rr, fun _ => nx s stay, fun q => absurd rfl q⟩)
      · exact sim_namings (sr _) h4 h5 h7 (fun r s' rr d hf => ⟨rr, rr, fun _ => nx s' (Inv_hear hI d (frm_mono hf (by decide) (by decide)) (e83 (hf.2 83 rfl))), fun q => absurd rfl q⟩)
      · exact sim_only (sr _) (sr _) h4 h5 h7 (fun r s' rr d hf => ⟨rr, rr, fun _ => nx s' (Inv_hear hI d (frm_mono hf (by decide) (by decide)) (e83 (hf.2 83 rfl))), fun q => absurd rfl q⟩)
      · exact sim_why (sr _) h4 h5 h7 (fun r s' rr d hf => ⟨rr, rr, fun _ => nx s' (Inv_hear hI d (frm_mono hf (by decide) (by decide)) (e83 (hf.2 83 rfl))), fun q => absurd rfl q⟩)
      · exact sim_give (sr _) h4 h5 h7 (by omega) (fun r s' rr d hf hg => ⟨rr, rr, fun _ => nx s' (Inv_grv hI d (frm_mono hf (by decide) (by decide)) hg), fun q => absurd rfl q⟩)
      · exact sim_take (sr _) h7 (by omega) b2.2.2 (fun r s' rr hg hf => ⟨rr, rr, fun _ => nx s' (Inv_grv hI (fun u _ _ => by rw [hf.2 13 rfl]) (frm_mono hf (by decide) (by decide)) (iGrv_up hg)), fun q => absurd rfl q⟩)
      · exact sim_named (sr _) h7 b2.2.2 (fun r rr => ⟨rr, rr, fun _ => nx s stay, fun q => absurd rfl q⟩)
      · exact sim_count (sr _) hI (fun r s' rr hI' => ⟨rr, rr, fun _ => nx s' hI', fun q => absurd rfl q⟩)
      · intros; exact nx s stay
  have := key (L + 4001) 0 sg0 (by omega) (by omega) (by omega) Inv_0
  exact this
end
