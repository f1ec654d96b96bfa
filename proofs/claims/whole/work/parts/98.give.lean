section
/-! GRAVES: namings, why, only, give: both -/
theorem Gr_areSets_B {n x : Int} {s : SS} (hx : rng x) (h : iGrv n s) : isB (0 ≤ x ∧ x.toNat < 2 ^ (s.1 25).toNat) s (Sp_Gr_areSets x s) := by
  intro K h1 h0
  have g1 := h.1
  refine ⟨hx, fun c => h0 (fun q => by omega), fun c => ?_⟩
  have hx2 := rL hx
  obtain ⟨a1, a2⟩ := areSets_ok (x := x) c (by have := hx.2; omega) g1.2.1 g1.2.2
  exact ⟨⟨by omega, by omega⟩, fun d => h0 (fun q => d (a2.mpr q.2)), fun d => h1 ⟨c, a2.mp d⟩⟩
theorem Md_areSets_B {n x : Int} {s v : SS} (hx : rng x) (h : iGrv n s) (e : v.1 46 = s.1 25) : isB (0 ≤ x ∧ x.toNat < 2 ^ (s.1 25).toNat) v (Sp_Md_areSets x v) := by
  intro K h1 h0
  have g1 := h.1
  obtain ⟨pn1, pn2, pn3⟩ := p2n g1.2.1 g1.2.2
  unfold Sp_Md_areSets
  rw [e, pn3]
  refine ⟨hx, ⟨by omega, by omega⟩, Md_isIn_B hx (by decide) ⟨by omega, by omega⟩ v _ (fun q => ⟨Or.inr rfl, h1 ⟨q.1, by omega⟩⟩) (fun q => ⟨Or.inl rfl, h0 (fun z => q ⟨z.1, by omega⟩)⟩)⟩
def mrd (s : SS) (P : Int → Int) (t v : SS) : Prop := agr mgSc mgAr s v ∧ (∀ a, 0 ≤ a → a < s.1 4 → v.2 72 a = P a) ∧ ∀ m : Nat, (m : Int) < s.1 27 → v.2 110 m = (fOne t m : Int) ∧ fOne t m < 10
theorem mrd_up {s t v v' : SS} {P : Int → Int} (h : mrd s P t v) (hf : frm [] [111, 112] v v') : mrd s P t v' := by
  obtain ⟨m1, m2, m3⟩ := h
  refine ⟨⟨fun k hk => by rw [hf.1 k rfl]; exact m1.1 k hk, fun j hj => ?_⟩, fun a a0 a1 => by rw [hf.2 72 rfl]; exact m2 a a0 a1, fun m hm => by rw [hf.2 110 rfl]; exact m3 m hm⟩
  have : ∀ j ∈ mgAr, ([111, 112] : List Nat).contains j = false := by decide
  rw [hf.2 j (this j hj)]
  exact m1.2 j hj
/-- both have read: the class first -/
def gN0 : List Nat := [6]
def gA0 : List Nat := [13, 14, 15, 56, 57, 58]
def gN1 : List Nat := [6, 26]
def gA1 : List Nat := [13, 14, 15, 50, 51, 56, 57, 58]
def gN2 : List Nat := [6, 33, 34, 35]
def gA2 : List Nat := [13, 14, 15, 56, 57, 58, 67, 68, 69, 70, 72, 110, 111, 112]
theorem firsts_ok {n : Int} {s t u : SS} {P : Int → Int} {Q : SS → Prop} (hb : iBook s) (hy : iKeys s) (h : iGrv n s) (hP : isP (linked s (s.1 1)) (nmBy s (s.1 1)) P) (hr : rdy s P t) (hu : frm gN1 gA1 s u) (hk : ∀ v, frm [33, 34, 35] [67, 68, 69, 70, 72, 110] u v → mrd s P t v → Q v) : Sp_Md_findFirsts u Q := by
  have ha : agr mgSc mgAr s u := agr_of hu (by decide)
  refine Md_findFirsts_ok hb (iKeys_agr (agr_of hu (by decide)) hy) h ha (agr_of hu (by decide)) hP (fun v hv h72 h110 => hk v hv ⟨⟨fun k hk => ?_, fun j hj => ?_⟩, h72, fun m hm => ?_⟩)
  · have : ∀ k ∈ mgSc, ([33, 34, 35] : List Nat).contains k = false := by decide
    rw [hv.1 k (this k hk)]; exact ha.1 k hk
  · have : ∀ j ∈ mgAr, ([67, 68, 69, 70, 72, 110] : List Nat).contains j = false := by decide
    rw [hv.2 j (this j hj)]; exact ha.2 j hj
  · have f1 := h110 m (by omega) hm
    have f2 := hr.2.2.1 m (by omega) hm
    have fl := fOne_le hr (m := m) hm
    have g2 := h.2.1
    exact ⟨by rw [fl.2]; exact (fst1_eq f1 f2).mpr rfl, by omega⟩
theorem ways_r {n which one alone : Int} {s t v : SS} {P : Int → Int} {G : Nat → Nat → Bool} {Q : Int → SS → Prop} (hb : iBook s) (h : iGrv n s) (hP : isP (linked s (s.1 1)) (nmBy s (s.1 1)) P) (hm : mrd s P t v) (hG : ∀ k m : Nat, (k : Int) < s.1 25 → (m : Int) < s.1 27 → (G k m = true ↔ mayG s P k m ∧ ((k : Int) ≠ one ∨ (m : Int) = alone))) (r1 : rng one) (r2 : rng alone) (w0 : 0 ≤ which) (w1 : which < 2147483648) (hk : ∀ u, frm [] [111, 112] v u → mrd s P t u → Q (min (Vw G (fOne t) (s.1 27).toNat (lsf which.toNat.testBit 0 (s.1 25).toNat) (fun _ => false) : Nat) 1000000) u) : Sp_Md_waysOf which one alone v Q := by
  have b2 := hb.2.1
  have hnm : nmBy s (s.1 1) = s.1 4 := hb.2.2.2.2.2.1.1
  exact Md_waysOf_ok h (by omega) hm.1 hm.2.1 (fun a a0 a1 => by
    have := hP.2.1 a a0 (by rw [hnm]; exact a1)
    exact ⟨by omega, by omega⟩) hm.2.2 hG r1 r2 w0 w1 (fun u hu => hk u hu (mrd_up hm hu))
theorem get_iff {s t : SS} {P : Int → Int} (hr : rdy s P t) (h2 : s.1 27 ≤ 10) (k m : Nat) (hk : (k : Int) < s.1 25) (hm : (m : Int) < s.1 27) : gGet t k m = true ↔ mayG s P k m := by
  have := (hr.2.2.2 k (by omega) hk).2 m (by omega) (by omega)
  rw [show ((m : Int)).toNat = m by omega] at this
  unfold gGet
  rw [this]
  exact ⟨fun q => q.2, fun q => ⟨hm, q⟩⟩
theorem rdy_of {s t : SS} {P : Int → Int} (hf : frm [6] [13, 14, 15, 56, 57] s t) (hc : chs s P t) : rdy s P t := ⟨hf.1 25 rfl, hf.1 27 rfl, hc⟩
theorem sim_namings {n x : Int} {s : SS} {K : Int → Int → SS → Prop} (rx : rng x) (hb : iBook s) (hy : iKeys s) (h : iGrv n s) (hk : ∀ r s', rng r → dg s s' → frm gN2 gA2 s s' → K r r s') : Sp_LS_namings x s (fun p s1 => Sp_Md_namings x s1 (fun q s2 => K p q s2)) := by
  have g1 := h.1
  have g2 := h.2.1
  refine isB_b (Gr_areSets_B rx h) (fun no => ?_) (fun yes => ?_)
  · exact isB_b (Md_areSets_B rx h g1.1.symm) (fun _ => hk _ s (by decide) (dg_rf _) (frm_rf _ _ _)) (fun q => absurd q no)
  · obtain ⟨pn1, pn2, pn3⟩ := p2n g1.2.1 g1.2.2
    refine Gr_readChoices_ok hb hy h (fun t P hf hd hP hc => ?_)
    have hr := rdy_of hf hc
    refine Gr_ways_ok h hr yes.1 yes.2 (fun u hu => ?_)
    have fu : frm gN0 gA0 s u := frm_tr (frm_mono hf (by decide) (by decide)) (frm_mono hu (by decide) (by decide))
    refine isB_b (Md_areSets_B rx h (by rw [fu.1 46 rfl]; exact g1.1.symm)) (fun q => absurd yes q) (fun _ => ?_)
    refine firsts_ok hb hy h hP hr (frm_mono fu (by decide) (by decide)) (fun v hv2 hm => ?_)
    refine ways_r (G := gGet t) hb h hP hm (fun k m k1 m1 => by
      rw [get_iff hr g2.2.2 k m k1 m1]
      exact ⟨fun q => ⟨q, Or.inl (by omega)⟩, fun q => q.1⟩) (by decide) (by decide) yes.1 (by omega) (fun w hw _ => ?_)
    exact hk _ w ⟨by omega, by omega⟩ (dg_tr hd (fun i _ _ => by rw [hw.2 13 rfl, hv2.2 13 rfl, hu.2 13 rfl])) (frm_tr (frm_mono fu (by decide) (by decide)) (frm_tr (frm_mono hv2 (by decide) (by decide)) (frm_mono hw (by decide) (by decide))))
theorem sim_why {n x : Int} {s : SS} {K : Int → Int → SS → Prop} (rx : rng x) (hb : iBook s) (hy : iKeys s) (h : iGrv n s) (hk : ∀ r s', rng r → dg s s' → frm gN2 gA2 s s' → K r r s') : Sp_LS_why x s (fun p s1 => Sp_Md_why x s1 (fun q s2 => K p q s2)) := by
  have g1 := h.1
  have g2 := h.2.1
  refine isB_b (Gr_areSets_B rx h) (fun no => ?_) (fun yes => ?_)
  · intro X19 h19
    exact isB_b (Md_areSets_B rx h g1.1.symm) (fun _ => hk _ s (by decide) (dg_rf _) (frm_rf _ _ _)) (fun q => absurd q no)
  · obtain ⟨pn1, pn2, pn3⟩ := p2n g1.2.1 g1.2.2
    refine Gr_readChoices_ok hb hy h (fun t P hf hd hP hc => ?_)
    have hr := rdy_of hf hc
    have hB := rdy_f hr g2.2.2
    refine Gr_shortage_ok h hr yes.1 yes.2 (by decide) (by decide) (fun L u hu hL hbest => ?_)
    have e0 : ((0 : Int).toNat).testBit = fun _ => false := by funext q; exact Nat.zero_testBit q
    rw [e0] at hbest
    have fu : frm gN0 gA0 s u := frm_tr (frm_mono hf (by decide) (by decide)) (frm_mono hu (by decide) (by decide))
    intro X19 h19
    refine isB_b (Md_areSets_B rx h (by rw [fu.1 46 rfl]; exact g1.1.symm)) (fun q => absurd yes q) (fun _ => ?_)
    refine firsts_ok hb hy h hP hr (frm_mono fu (by decide) (by decide)) (fun v hv2 hm => ?_)
    have key : ∀ (b : Nat) (X B : Nat) (w : SS), 1 ≤ X → X ≤ x.toNat + 1 → x.toNat + 1 - X < b → B < X → frm [] [111, 112] v w → mrd s P t w → Best (pZ (gGet t) (fOne t) (s.1 27).toNat (s.1 25).toNat x.toNat) X B → X19 x B X w := by
      intro b
      induction b with
      | zero => intro X B w a c d; omega
      | succ b ih =>
        intro X B w X1 X2 Xb BX hw hmw hbb
        refine h19 _ _ _ _ ⟨⟨by omega, by omega⟩, rx, fun c => ?_, fun c => ?_⟩
        · rw [show X = x.toNat + 1 by omega] at hbb
          have e := best_eq (by omega) hB yes.2 hbest hbb
          rw [← e]
          exact hk _ w ⟨by omega, by omega⟩ (dg_tr hd (fun i _ _ => by rw [hw.2 13 rfl, hv2.2 13 rfl, hu.2 13 rfl])) (frm_tr (frm_mono fu (by decide) (by decide)) (frm_tr (frm_mono hv2 (by decide) (by decide)) (frm_mono hw (by decide) (by decide))))
        · have so := sub_ok (x := X) (y := x) (by omega) (by omega) yes.1 (by omega)
          have nb' := not_b (x := X) (y := x) (by omega) (by omega) yes.1 (by omega)
          rw [show ((X : Int)).toNat = X by omega] at so
          have nxt : ∀ (B' : Nat) (w' : SS), B' < X + 1 → frm [] [111, 112] v w' → mrd s P t w' → Best (pZ (gGet t) (fOne t) (s.1 27).toNat (s.1 25).toNat x.toNat) (X + 1) B' → X19 x B' ((X : Int) + 1) w' := fun B' w' l1 l2 l3 l4 => by
            have := ih (X + 1) B' w' (by omega) (by omega) (by omega) l1 l2 l3 l4
            rw [show ((X + 1 : Nat) : Int) = (X : Int) + 1 by omega] at this
            exact this
          refine ⟨⟨by omega, by omega⟩, fun d => nxt B w (by omega) hw hmw (Best_no hbb (fun q => d (so.mpr q.1))), fun d => ?_⟩
          have hsub := so.mp d
          have ways : (B = 0 ∨ popN X < popN B) → Sp_Md_waysOf X (-1) (-1) w (fun r5 s4 => rng r5 ∧ ((¬ r5 = 0 → X19 x B ((X : Int) + 1) s4) ∧ (r5 = 0 → X19 x X ((X : Int) + 1) s4))) := by
            intro hl
            refine ways_r (G := gGet t) hb h hP hmw (fun k m k1 m1 => by
              rw [get_iff hr g2.2.2 k m k1 m1]
              exact ⟨fun q => ⟨q, Or.inl (by omega)⟩, fun q => q.1⟩) (by decide) (by decide) (by omega) (by omega) (fun w' hw' hmw' => ?_)
            rw [show ((X : Int)).toNat = X by omega]
            have hw2 := frm_tr hw hw'
            refine ⟨⟨by omega, by omega⟩, fun q => nxt B w' (by omega) hw2 hmw' (Best_no hbb (fun z => q (by rw [z.2]; rfl))), fun q => nxt X w' (by omega) hw2 hmw' (Best_take hbb X1 ⟨hsub, by omega⟩ hl)⟩
          refine ⟨⟨by omega, by omega⟩, fun e => ways (Or.inl (by omega)), fun e => Md_bits_ok (by omega) (by omega) (Md_bits_ok (by omega) (by omega) ?_)⟩
          rw [show ((X : Int)).toNat = X by omega, show ((B : Int)).toNat = B by omega]
          have c1 := popN_le (n := X) (by omega)
          have c2 := popN_le (n := B) (by omega)
          exact ⟨⟨by omega, by omega⟩, ⟨by omega, by omega⟩, fun f => ways (Or.inr (by omega)), fun f => nxt B w (by omega) hw hmw (Best_keep hbb (by omega) (by omega))⟩
    exact key (x.toNat + 2) 1 0 v (by omega) (by omega) (by omega) (by omega) (frm_rf _ _ _) hm (Or.inl ⟨rfl, fun X a b => by omega⟩)
/-! the only one -/
def soleR (ok : Int → Prop) (M r : Int) : Prop := (0 ≤ r ∧ r < M ∧ ok r ∧ ∀ b, 0 ≤ b → b < M → ok b → b = r) ∨ (r = -1 ∧ ∀ a, 0 ≤ a → a < M → ok a → ∃ b, 0 ≤ b ∧ b < M ∧ ok b ∧ b ≠ a)
theorem soleR_u {ok : Int → Prop} {M r r' : Int} (h : soleR ok M r) (h' : soleR ok M r') : r = r' := by
  rcases h with ⟨a, b, c, d⟩ | ⟨a, b⟩ <;> rcases h' with ⟨a', b', c', d'⟩ | ⟨a', b'⟩
  · exact d' r a b c
  · obtain ⟨x, x0, x1, x2, x3⟩ := b' r a b c
    exact absurd (d x x0 x1 x2) x3
  · obtain ⟨x, x0, x1, x2, x3⟩ := b r' a' b' c'
    exact absurd (d' x x0 x1 x2) x3
  · rw [a, a']
def okM (s t : SS) (S k : Nat) (m : Int) : Prop := gGet t k m.toNat = true ∧ 0 < Vw (gGet t) (fOne t) (s.1 27).toNat (lsf (but S.testBit k) 0 (s.1 25).toNat) (2 ^ fOne t m.toNat).testBit
theorem nov {g : Nat → Nat → Bool} {f : Nat → Nat} {M n S : Nat} {K : Nat → Bool} (hB : ∀ m, m < M → f m < 10) : (∀ X, 1 ≤ X → X < 2 ^ n → ¬ pH g f M n K S X) ↔ 0 < Vw g f M (lsf S.testBit 0 n) K := by
  rw [Vw_hall hB]
  constructor
  · rintro hno ⟨Yp, y1, y2⟩
    obtain ⟨Y, y3, y4⟩ := mask (p := Yp) n
    have hv := viol_c (fun i hi => (y4 i hi).symm) y2
    have pos : 0 < cnB Y.testBit n := by unfold viol at hv; omega
    obtain ⟨i, i1, i2⟩ := (cnB_pos n).mp pos
    have nz : 1 ≤ Y := by
      rcases Nat.eq_zero_or_pos Y with z | z
      · rw [z, Nat.zero_testBit] at i2; exact absurd i2 (by decide)
      · exact z
    refine hno Y nz y3 ⟨fun j hj => ?_, hv⟩
    by_cases c : j < n
    · exact y1 j c (by rw [← y4 j c]; exact hj)
    · rw [tb_lt y3 (by omega)] at hj; exact absurd hj (by decide)
  · rintro hno X x1 x2 ⟨p1, p2⟩
    exact hno ⟨X.testBit, fun i _ q => p1 i q, p2⟩
theorem Gr_soleChoice_ok {n k S : Int} {s t : SS} {P : Int → Int} {Q : Int → SS → Prop} (h : iGrv n s) (hr : rdy s P t) (k0 : 0 ≤ k) (k1 : k < s.1 25) (S0 : 0 ≤ S) (S1 : S.toNat < 2 ^ (s.1 25).toNat) (hk : ∀ r u, frm [] [58] t u → soleR (okM s t S.toNat k.toNat) (s.1 27) r → Q r u) : Sp_Gr_soleChoice k S t Q := by
  have g1 := h.1
  have g2 := h.2.1
  obtain ⟨r1, r2, r3, r4⟩ := id hr
  obtain ⟨pn1, pn2, pn3⟩ := p2n g1.2.1 g1.2.2
  have hB := rdy_f hr g2.2.2
  have kb := (r4 k k0 k1).1
  intro X5 h5
  have rdu : ∀ {u : SS}, frm [] [58] t u → rdy s P u ∧ gGet u = gGet t ∧ fOne u = fOne t := fun {u} hu => by
    refine ⟨⟨by rw [hu.1 25 rfl]; exact r1, by rw [hu.1 27 rfl]; exact r2, ?_⟩, by unfold gGet; rw [hu.2 57 rfl], by unfold fOne; rw [hu.2 56 rfl]⟩
    unfold chs
    rw [hu.2 56 rfl, hu.2 57 rfl]
    exact ⟨r3, r4⟩
  have key : ∀ (b : Nat) (m : Int) (c : Int) (u : SS), 0 ≤ m → m ≤ s.1 27 → s.1 27 - m < b → frm [] [58] t u → ((c = -1 ∧ ∀ a, 0 ≤ a → a < m → ¬ okM s t S.toNat k.toNat a) ∨ (0 ≤ c ∧ c < m ∧ okM s t S.toNat k.toNat c ∧ ∀ a, 0 ≤ a → a < m → okM s t S.toNat k.toNat a → a = c)) → X5 k S c m u := by
    intro b
    induction b with
    | zero => intro m c u a d e; omega
    | succ b ih =>
      intro m c u m0 m1 mb hu hc
      obtain ⟨ru, eu1, eu2⟩ := rdu hu
      have e27 : u.1 27 = s.1 27 := by rw [hu.1 27 rfl, r2]
      refine h5 _ _ _ _ _ ⟨⟨by omega, by omega⟩, by rw [e27]; exact ⟨by omega, by omega⟩, fun d => ?_, fun d => ⟨by omega, ?_⟩⟩
      · refine hk c u hu ?_
        rcases hc with ⟨c1, c2⟩ | ⟨c1, c2, c3, c4⟩
        · exact Or.inr ⟨c1, fun a a0 a1 q => absurd q (c2 a a0 (by omega))⟩
        · exact Or.inl ⟨c1, by omega, c3, fun a a0 a1 q => c4 a a0 (by omega) q⟩
      · rw [e27] at d
        have bo := bit_ok (x := t.2 57 k) (k := m) kb.1 (by omega) m0 (by omega)
        have eg : gGet t k.toNat m.toNat = (t.2 57 k).toNat.testBit m.toNat := by
          unfold gGet
          rw [show ((k.toNat : Nat) : Int) = k by omega]
        rw [← eg] at bo
        rw [hu.2 57 rfl]
        have rc : rng c := by rcases hc with z | z <;> exact ⟨by omega, by omega⟩
        have nono : ¬ okM s t S.toNat k.toNat m → ∀ u', frm [] [58] t u' → X5 k S c (m + 1) u' := fun hno u' hu' => by
          refine ih (m + 1) c u' (by omega) (by omega) (by omega) hu' ?_
          rcases hc with ⟨c1, c2⟩ | ⟨c1, c2, c3, c4⟩
          · exact Or.inl ⟨c1, fun a a0 a1 => by
              by_cases z : a = m
              · rw [z]; exact hno
              · exact c2 a a0 (by omega)⟩
          · exact Or.inr ⟨c1, by omega, c3, fun a a0 a1 q => by
              by_cases z : a = m
              · rw [z] at q; exact absurd q hno
              · exact c4 a a0 (by omega) q⟩
        have fm := fOne_le hr (m := m.toNat) (by omega)
        rw [show ((m.toNat : Nat) : Int) = m by omega] at fm
        refine ⟨by rw [bo]; split <;> decide, fun e => ⟨by omega, ?_⟩, fun e => nono (fun q => by rw [bo, if_pos q.1] at e; exact absurd e (by decide)) u hu⟩
        have yg : gGet t k.toNat m.toNat = true := by
          by_cases z : gGet t k.toNat m.toNat = true
          · exact z
          · rw [bo, if_neg z] at e; exact absurd rfl e
        rw [hu.2 56 rfl, ← fm.2]
        have bu := but_ok (x := S) (k := k) S0 (by omega) k0 (by omega)
        have es := shl1_ok (k := (fOne t m.toNat : Int)) (by omega) (by omega)
        rw [show ((fOne t m.toNat : Int)).toNat = fOne t m.toNat by omega] at es
        have lt10 : 2 ^ fOne t m.toNat < 2 ^ 10 := Nat.pow_lt_pow_right (by decide) (by omega)
        rw [es]
        refine Gr_shortage_ok h ru bu.1.1 (by omega) (Int.natCast_nonneg _) (Int.ofNat_lt.mpr (show 2 ^ fOne t m.toNat < 1024 from lt10)) (fun L u2 hu2 hL hbest => ?_)
        rw [eu1, eu2, Int.toNat_natCast] at hbest
        have hu02 := frm_tr hu hu2
        have okiff : (L = 0) ↔ okM s t S.toNat k.toNat m := by
          have hn := nov (g := gGet t) (f := fOne t) (M := (s.1 27).toNat) (n := (s.1 25).toNat) (S := (bnd S (bxr (shl 1 k) (-1))).toNat) (K := (2 ^ fOne t m.toNat).testBit) hB
          rw [bu.2] at hn
          unfold okM
          constructor
          · intro z
            rcases hbest with ⟨w1, w2⟩ | ⟨w1, _⟩
            · exact ⟨yg, hn.mp w2⟩
            · omega
          · rintro ⟨-, z⟩
            rcases hbest with ⟨w1, w2⟩ | ⟨w1, w2, w3⟩
            · exact w1
            · exact absurd w2 (hn.mpr z L w1.1 w1.2)
        refine ⟨⟨by omega, by omega⟩, fun z => ⟨rc, fun y => ?_, fun y => ?_⟩, fun z => nono (fun q => z (by rw [okiff.mpr q]; rfl)) u2 hu02⟩
        · have om := okiff.mp (by omega)
          refine ih (m + 1) m u2 (by omega) (by omega) (by omega) hu02 (Or.inr ⟨m0, by omega, om, fun a a0 a1 q => ?_⟩)
          rcases hc with ⟨c1, c2⟩ | ⟨c1, c2, c3, c4⟩
          · by_cases w : a = m
            · exact w
            · exact absurd q (c2 a a0 (by omega))
          · omega
        · have om := okiff.mp (by omega)
          refine hk (-1) u2 hu02 (Or.inr ⟨rfl, fun a a0 a1 q => ?_⟩)
          rcases hc with ⟨c1, c2⟩ | ⟨c1, c2, c3, c4⟩
          · omega
          · by_cases w : a = m
            · exact ⟨c, c1, by omega, c3, by omega⟩
            · exact ⟨m, m0, d, om, fun z => w z.symm⟩
  exact key ((s.1 27).toNat + 1) 0 (-1) t (by omega) (by omega) (by omega) (frm_rf _ _ _) (Or.inl ⟨rfl, fun a a0 a1 => by omega⟩)
/-- one set has this one alone -/
theorem sole_iff {g : Nat → Nat → Bool} {f : Nat → Nat} {M n S k m : Nat} (hk : k < n) (hm : m < M) (hS : S.testBit k = true) : 0 < Vw (fun a b => g a b && (!decide (a = k) || decide (b = m))) f M (lsf S.testBit 0 n) (fun _ => false) ↔ g k m = true ∧ 0 < Vw g f M (lsf (but S.testBit k) 0 n) (2 ^ f m).testBit := by
  rw [Vw_PM, Vw_PM]
  constructor
  · rintro ⟨φ, h1, h2⟩
    obtain ⟨w1, w2⟩ := h1 k (by omega) (by omega) hS
    obtain ⟨m', m1, m2, m3⟩ := aOf_iff.mp w1
    simp only [Bool.and_eq_true, Bool.or_eq_true, Bool.not_eq_true', decide_eq_false_iff_not, decide_eq_true_eq] at m2
    have em : m' = m := by
      rcases m2.2 with z | z
      · exact absurd trivial z
      · exact z
    subst em
    refine ⟨m2.1, φ, fun s s0 s1 ps => ?_, fun a b a0 a1 b0 b1 pa pb => h2 a b a0 a1 b0 b1 (by unfold but at pa; rw [Bool.and_eq_true] at pa; exact pa.1) (by unfold but at pb; rw [Bool.and_eq_true] at pb; exact pb.1)⟩
    have hs : S.testBit s = true ∧ s ≠ k := by
      unfold but at ps
      simp only [Bool.and_eq_true, Bool.not_eq_true', decide_eq_false_iff_not] at ps
      exact ps
    obtain ⟨v1, v2⟩ := h1 s s0 s1 hs.1
    obtain ⟨x, x1, x2, x3⟩ := aOf_iff.mp v1
    simp only [Bool.and_eq_true] at x2
    refine ⟨aOf_iff.mpr ⟨x, x1, x2.1, x3⟩, ?_⟩
    rw [Nat.testBit_two_pow, decide_eq_false_iff_not, m3]
    exact h2 k s (by omega) (by omega) s0 s1 hS hs.1 (fun q => hs.2 q.symm)
  · rintro ⟨hg, φ, h1, h2⟩
    refine ⟨fun s => if s = k then f m else φ s, fun s s0 s1 ps => ⟨?_, rfl⟩, fun a b a0 a1 b0 b1 pa pb hne => ?_⟩
    · by_cases z : s = k
      · simp only [if_pos z]
        exact aOf_iff.mpr ⟨m, hm, by rw [z]; simp [hg], rfl⟩
      · simp only [if_neg z]
        obtain ⟨v1, v2⟩ := h1 s s0 s1 (by rw [but_n z]; exact ps)
        obtain ⟨x, x1, x2, x3⟩ := aOf_iff.mp v1
        exact aOf_iff.mpr ⟨x, x1, by simp [x2, z], x3⟩
    · have far : ∀ y, 0 ≤ y → y < 0 + n → S.testBit y = true → y ≠ k → φ y ≠ f m := fun y y0 y1 py hy q => by
        obtain ⟨v1, v2⟩ := h1 y y0 y1 (by rw [but_n hy]; exact py)
        rw [q, Nat.testBit_two_pow_self] at v2
        exact absurd v2 (by decide)
      by_cases z : a = k <;> by_cases y : b = k
      · omega
      · simp only [if_pos z, if_neg y]; exact fun q => far b b0 b1 pb y q.symm
      · simp only [if_neg z, if_pos y]; exact far a a0 a1 pa z
      · simp only [if_neg z, if_neg y]; exact h2 a b a0 a1 b0 b1 (by rw [but_n z]; exact pa) (by rw [but_n y]; exact pb) hne
theorem Md_onlyOf_ok {n k S : Int} {s t u : SS} {P : Int → Int} {Q : Int → SS → Prop} (hb : iBook s) (hy : iKeys s) (h : iGrv n s) (hP : isP (linked s (s.1 1)) (nmBy s (s.1 1)) P) (hr : rdy s P t) (hu : frm gN1 gA1 s u) (k0 : 0 ≤ k) (k1 : k < s.1 25) (S0 : 0 ≤ S) (S1 : S.toNat < 2 ^ (s.1 25).toNat) (hS : S.toNat.testBit k.toNat = true) (hk : ∀ r v, frm [33, 34, 35] [67, 68, 69, 70, 72, 110, 111, 112] u v → soleR (okM s t S.toNat k.toNat) (s.1 27) r → Q r v) : Sp_Md_onlyOf k S u Q := by
  have g1 := h.1
  have g2 := h.2.1
  obtain ⟨pn1, pn2, pn3⟩ := p2n g1.2.1 g1.2.2
  intro X9 h9
  refine firsts_ok hb hy h hP hr hu (fun v hv2 hm => ?_)
  have key : ∀ (b : Nat) (m : Int) (c : Int) (w : SS), 0 ≤ m → m ≤ s.1 27 → s.1 27 - m < b → frm [] [111, 112] v w → mrd s P t w → ((c = -1 ∧ ∀ a, 0 ≤ a → a < m → ¬ okM s t S.toNat k.toNat a) ∨ (0 ≤ c ∧ c < m ∧ okM s t S.toNat k.toNat c ∧ ∀ a, 0 ≤ a → a < m → okM s t S.toNat k.toNat a → a = c)) → X9 k S c m w := by
    intro b
    induction b with
    | zero => intro m c u a d e; omega
    | succ b ih =>
      intro m c w m0 m1 mb hw hmw hc
      have e47 : w.1 47 = s.1 27 := by rw [hmw.1.1 47 (by decide)]; exact g2.1.symm
      have fin : ∀ {w'}, frm [] [111, 112] v w' → frm [33, 34, 35] [67, 68, 69, 70, 72, 110, 111, 112] u w' := fun hw' => frm_tr (frm_mono hv2 (by decide) (by decide)) (frm_mono hw' (by decide) (by decide))
      refine h9 _ _ _ _ _ ⟨⟨by omega, by omega⟩, by rw [e47]; exact ⟨by omega, by omega⟩, fun d => ?_, fun d => ?_⟩
      · rw [e47] at d
        refine hk c w (fin hw) ?_
        rcases hc with ⟨c1, c2⟩ | ⟨c1, c2, c3, c4⟩
        · exact Or.inr ⟨c1, fun a a0 a1 q => absurd q (c2 a a0 (by omega))⟩
        · exact Or.inl ⟨c1, by omega, c3, fun a a0 a1 q => c4 a a0 (by omega) q⟩
      · rw [e47] at d
        have rc : rng c := by rcases hc with z | z <;> exact ⟨by omega, by omega⟩
        refine ways_r (G := fun a b => gGet t a b && (!decide (a = k.toNat) || decide (b = m.toNat))) hb h hP hmw (fun a b a1 b1 => ?_) ⟨by omega, by omega⟩ ⟨by omega, by omega⟩ S0 (by omega) (fun w2 hw2 hmw2 => ?_)
        · simp only [Bool.and_eq_true, Bool.or_eq_true, Bool.not_eq_true', decide_eq_false_iff_not, decide_eq_true_eq]
          rw [get_iff hr g2.2.2 a b a1 b1]
          refine and_congr_right (fun _ => ?_)
          constructor
          · rintro (z | z)
            · exact Or.inl (by omega)
            · exact Or.inr (by omega)
          · rintro (z | z)
            · exact Or.inl (by omega)
            · exact Or.inr (by omega)
        · have si := sole_iff (g := gGet t) (f := fOne t) (M := (s.1 27).toNat) (n := (s.1 25).toNat) (S := S.toNat) (k := k.toNat) (m := m.toNat) (by omega) (by omega) hS
          generalize hV : Vw (fun a b => gGet t a b && (!decide (a = k.toNat) || decide (b = m.toNat))) (fOne t) (s.1 27).toNat (lsf S.toNat.testBit 0 (s.1 25).toNat) (fun _ => false) = V at si ⊢
          have okiff : 0 < V ↔ okM s t S.toNat k.toNat m := si
          have hw02 := frm_tr hw hw2
          refine ⟨⟨by omega, by omega⟩, fun z => ⟨rc, fun y => ?_, fun y => ?_⟩, fun z => ?_⟩
          · have om := okiff.mp (by omega)
            refine ih (m + 1) m w2 (by omega) (by omega) (by omega) hw02 hmw2 (Or.inr ⟨m0, by omega, om, fun a a0 a1 q => ?_⟩)
            rcases hc with ⟨c1, c2⟩ | ⟨c1, c2, c3, c4⟩
            · by_cases w : a = m
              · exact w
              · exact absurd q (c2 a a0 (by omega))
            · omega
          · have om := okiff.mp (by omega)
            refine hk (-1) w2 (fin hw02) (Or.inr ⟨rfl, fun a a0 a1 q => ?_⟩)
            rcases hc with ⟨c1, c2⟩ | ⟨c1, c2, c3, c4⟩
            · omega
            · by_cases w : a = m
              · exact ⟨c, c1, by omega, c3, by omega⟩
              · exact ⟨m, m0, d, om, fun z => w z.symm⟩
          · have nok : ¬ okM s t S.toNat k.toNat m := fun q => by have := okiff.mpr q; omega
            refine ih (m + 1) c w2 (by omega) (by omega) (by omega) hw02 hmw2 ?_
            rcases hc with ⟨c1, c2⟩ | ⟨c1, c2, c3, c4⟩
            · exact Or.inl ⟨c1, fun a a0 a1 => by
                by_cases z : a = m
                · rw [z]; exact nok
                · exact c2 a a0 (by omega)⟩
            · exact Or.inr ⟨c1, by omega, c3, fun a a0 a1 q => by
                by_cases z : a = m
                · rw [z] at q; exact absurd q nok
                · exact c4 a a0 (by omega) q⟩
  exact key ((s.1 27).toNat + 1) 0 (-1) v (by omega) (by omega) (by omega) (frm_rf _ _ _) hm (Or.inl ⟨rfl, fun a a0 a1 => by omega⟩)
theorem sim_only {n k x : Int} {s : SS} {K : Int → Int → SS → Prop} (rk : rng k) (rx : rng x) (hb : iBook s) (hy : iKeys s) (h : iGrv n s) (hk : ∀ r s', rng r → dg s s' → frm gN2 gA2 s s' → K r r s') : Sp_LS_only k x s (fun p s1 => Sp_Md_only k x s1 (fun q s2 => K p q s2)) := by
  have g1 := h.1
  have g2 := h.2.1
  have g6 := h.2.2.2.2.2.1
  have b2 := hb.2.1
  obtain ⟨pn1, pn2, pn3⟩ := p2n g1.2.1 g1.2.2
  have stay : ∀ v, rng v → K v v s := fun v rv => hk v s rv (dg_rf _) (frm_rf _ _ _)
  refine isB_b (LS_isSet_B rk h) (fun no => ?_) (fun ys => ?_)
  · exact isB_b (Md_isSet_B rk h) (fun _ => stay _ (by decide)) (fun q => absurd q no)
  · refine isB_a (Gr_areSets_B rx h) (fun no => ?_) (fun yx => ?_)
    · exact isB_b (Md_isSet_B rk h) (fun q => absurd ys q) (fun _ => isB_a (Md_areSets_B rx h g1.1.symm) (fun _ => stay _ (by decide)) (fun q => absurd q no))
    · have bo := bit_ok (x := x) (k := k) yx.1 (by omega) ys.1 (by omega)
      have rb : rng (bnd (shr x k) 1) := by rw [bo]; split <;> decide
      refine ⟨rb, fun c => ?_, fun c => ?_⟩
      · have hS : x.toNat.testBit k.toNat = true := by
          by_cases z : x.toNat.testBit k.toNat = true
          · exact z
          · rw [bo, if_neg z] at c; exact absurd rfl c
        refine Gr_readChoices_ok hb hy h (fun t P hf hd hP hc => ?_)
        have hr := rdy_of hf hc
        refine Gr_soleChoice_ok h hr ys.1 ys.2 yx.1 yx.2 (fun r u hu hs => ?_)
        have fu : frm gN0 gA0 s u := frm_tr (frm_mono hf (by decide) (by decide)) (frm_mono hu (by decide) (by decide))
        have rr : rng r ∧ (0 ≤ r → r < s.1 27) := by rcases hs with z | z <;> exact ⟨⟨by omega, by omega⟩, fun _ => by omega⟩
        have md : ∀ v, rng v → (0 ≤ r → v = s.2 52 r) → (r < 0 → v = -5) → Sp_Md_only k x u (fun q s2 => K v q s2) := by
          intro v rv v1 v2
          have hgu := iGrv_agr (agr_of fu (by decide)) h
          have eu : u.1 25 = s.1 25 := fu.1 25 rfl
          refine isB_b (Md_isSet_B rk hgu) (fun q => absurd (by rw [eu]; exact ys) q) (fun _ => isB_a (Md_areSets_B rx h (by rw [fu.1 46 rfl]; exact g1.1.symm)) (fun q => absurd yx q) (fun _ => ⟨rb, fun _ => ?_, fun q => absurd q c⟩))
          refine Md_onlyOf_ok hb hy h hP hr (frm_mono fu (by decide) (by decide)) ys.1 ys.2 yx.1 yx.2 hS (fun r' w hw2 hs' => ?_)
          rw [soleR_u hs' hs]
          have hw : frm gN2 gA2 s w := frm_tr (frm_mono fu (by decide) (by decide)) (frm_mono hw2 (by decide) (by decide))
          have fin := hk v w rv (dg_tr hd (fun i _ _ => by rw [hw2.2 13 rfl, hu.2 13 rfl])) hw
          refine ⟨rr.1, fun d => ⟨by have := rr.2 d; omega, ?_⟩, fun d => ?_⟩
          · rw [hw.2 106 rfl, (g6 r d (rr.2 d)).1.1, ← v1 d]; exact fin
          · rw [← v2 d]; exact fin
        refine ⟨rr.1, fun d => ⟨by have := rr.2 d; omega, ?_⟩, fun d => md _ (by decide) (fun q => by omega) (fun _ => rfl)⟩
        have x52 := (g6 r d (rr.2 d)).1
        rw [fu.2 52 rfl]
        exact md _ ⟨by omega, by omega⟩ (fun _ => rfl) (fun q => by omega)
      · exact isB_b (Md_isSet_B rk h) (fun q => absurd ys q) (fun _ => isB_a (Md_areSets_B rx h g1.1.symm) (fun q => absurd yx q) (fun _ => ⟨rb, fun q => absurd c q, fun _ => stay _ (by decide)⟩))
/-- the sets of the same grave -/
def besM (s : SS) (k : Int) (m : Nat) (v : Int) : Prop := 0 ≤ v ∧ v.toNat < 2 ^ m ∧ ∀ j : Nat, j < m → (v.toNat.testBit j = true ↔ s.2 45 j = s.2 45 k)
theorem besM_s {s : SS} {k v : Int} {m : Nat} (h : besM s k m v) (hm : m < 8) : (s.2 45 m = s.2 45 k → besM s k (m + 1) (bor v (shl 1 m))) ∧ (¬ s.2 45 m = s.2 45 k → besM s k (m + 1) v) := by
  obtain ⟨h1, h2, h3⟩ := h
  have l8 : 2 ^ m < 2 ^ 8 := Nat.pow_lt_pow_right (by decide) hm
  have ls : (2 : Nat) ^ (m + 1) = 2 ^ m * 2 := Nat.pow_succ ..
  obtain ⟨o1, o2, o3⟩ := bor1_ok (x := v) (k := m) h1 (by omega) (by omega) (by omega)
  rw [show ((m : Int)).toNat = m by omega] at o2 o3
  refine ⟨fun e => ⟨o1.1, ?_, fun j hj => ?_⟩, fun e => ⟨h1, by omega, fun j hj => ?_⟩⟩
  · rw [o2]
    exact Nat.or_lt_two_pow (by omega) (by omega)
  · rw [o3]
    unfold wth
    rw [Bool.or_eq_true, decide_eq_true_eq]
    by_cases z : j = m
    · rw [z]; exact ⟨fun _ => e, fun _ => Or.inr rfl⟩
    · rw [h3 j (by omega)]
      exact ⟨fun q => q.elim id (fun y => absurd y z), fun q => Or.inl q⟩
  · by_cases z : j = m
    · rw [z, tb_lt h2 (Nat.le_refl _)]
      exact ⟨fun q => absurd q (by decide), fun q => absurd q e⟩
    · exact h3 j (by omega)
theorem besM_u {s : SS} {k v v' : Int} {m : Nat} (h : besM s k m v) (h' : besM s k m v') : v = v' := by
  obtain ⟨h1, h2, h3⟩ := h
  obtain ⟨g1, g2, g3⟩ := h'
  have : v.toNat = v'.toNat := by
    apply Nat.eq_of_testBit_eq
    intro j
    by_cases c : j < m
    · rw [Bool.eq_iff_iff, h3 j c, g3 j c]
    · rw [tb_lt h2 (by omega), tb_lt g2 (by omega)]
  omega
theorem Gr_setsBeside_ok {n k : Int} {s t : SS} {Q : Int → SS → Prop} (h : iGrv n s) (hag : agr gvSc gvAr s t) (k0 : 0 ≤ k) (k1 : k < s.1 25) (hk : ∀ v, besM s k (s.1 25).toNat v → Q v t) : Sp_Gr_setsBeside k t Q := by
  obtain ⟨g1, g2, g3, g4, g5, g6, g7⟩ := id h
  have e25 : t.1 25 = s.1 25 := hag.1 25 (by decide)
  have e45 : t.2 45 = s.2 45 := hag.2 45 (by decide)
  intro X4 h4
  have key : ∀ (b : Nat) (m : Nat) (v : Int), (m : Int) ≤ s.1 25 → s.1 25 - m < b → besM s k m v → X4 k v m t := by
    intro b
    induction b with
    | zero => intro m v a c; omega
    | succ b ih =>
      intro m v m1 mb hv
      refine h4 _ _ _ _ ⟨⟨by omega, by omega⟩, by rw [e25]; exact ⟨by omega, by omega⟩, fun c => ?_, fun c => ?_⟩
      · rw [e25] at c
        rw [show m = (s.1 25).toNat by omega] at hv
        exact hk v hv
      · rw [e25] at c
        rw [e45]
        have q1 := (g4 m (by omega) c).1
        have q2 := (g4 k k0 k1).1
        obtain ⟨s1, s2⟩ := besM_s hv (by omega)
        refine ⟨⟨by omega, by omega⟩, by omega, ⟨by omega, by omega⟩, ⟨by omega, by omega⟩, fun d => ?_, fun d => ?_⟩
        · have nx := ih (m + 1) v (by omega) (by omega) (s2 d)
          rw [show ((m + 1 : Nat) : Int) = (m : Int) + 1 by omega] at nx
          exact nx
        · have nx := ih (m + 1) _ (by omega) (by omega) (s1 d)
          rw [show ((m + 1 : Nat) : Int) = (m : Int) + 1 by omega] at nx
          exact nx
  exact key ((s.1 25).toNat + 1) 0 0 (by omega) (by omega) ⟨by decide, by decide, fun j hj => by omega⟩
def vN : List Nat := [6, 26, 33, 34, 35, 48]
def vA : List Nat := [13, 14, 15, 50, 51, 56, 57, 58, 67, 68, 69, 70, 72, 104, 105, 110, 111, 112]
theorem sim_give {n k : Int} {s : SS} {K : Int → Int → SS → Prop} (rk : rng k) (hb : iBook s) (hy : iKeys s) (h : iGrv n s) (hn : n ≤ 2147483646) (hk : ∀ r s', rng r → dg s s' → frm vN vA s s' → iGrv (n + 1) s' → K r r s') : Sp_LS_give k s (fun p s1 => Sp_Md_give k s1 (fun q s2 => K p q s2)) := by
  obtain ⟨g1, g2, g3, g4, g5, g6, g7⟩ := id h
  have b2 := hb.2.1
  obtain ⟨pn1, pn2, pn3⟩ := p2n g1.2.1 g1.2.2
  have up : ∀ {t : SS}, iGrv n t → iGrv (n + 1) t := fun hh => by
    obtain ⟨x1, x2, x3, x4⟩ := hh
    exact ⟨x1, x2, ⟨x3.1, x3.2.1, by omega⟩, x4⟩
  have stay : ∀ v, rng v → K v v s := fun v rv => hk v s rv (dg_rf _) (frm_rf _ _ _) (up h)
  -- the model, from where the class has come to
  have md : ∀ (v : Int) (u : SS), agr mgSc mgAr s u → 0 ≤ k → k < s.1 25 →
      ∀ G : Int → SS → Prop, (∀ r w, G r w → rng r ∧ ((0 ≤ r → (0 ≤ r ∧ r < 10) ∧ (0 ≤ k ∧ k < 8) ∧ ∀ s5, s5 = sA w 104 k (w.2 106 r) → ∀ s6, s6 = sF s5 48 ((s5.1 48) + 1) → (0 ≤ k ∧ k < 8) ∧ ∀ s7, s7 = sA s6 105 k (s6.1 48) → (0 ≤ r ∧ r < 10) ∧ K v (s7.2 106 r) s7) ∧ (r < 0 → K v (-3) w))) →
      (s.2 104 k < 0 → ∀ a, besM s k (s.1 25).toNat a → ∀ B : Int → SS → Prop, (∀ r w, G r w → B r w) → Sp_Md_onlyOf k a u B) → (0 ≤ s.2 104 k → G (-1) u) → Sp_Md_give k u (fun q s2 => K v q s2) := by
    intro v u hag k0 k1 G hG hA1 hA2 X14 X72 h14 h72
    have e46 : u.1 46 = s.1 25 := by rw [hag.1 46 (by decide)]; exact g1.1.symm
    have e99 : u.2 99 = s.2 99 := hag.2 99 (by decide)
    have e104 : u.2 104 = s.2 104 := hag.2 104 (by decide)
    have c72 : ∀ r w, G r w → X72 k r w := fun r w hh => h72 _ _ _ (hG r w hh)
    have key : ∀ (b : Nat) (m : Nat) (a : Int), (m : Int) ≤ s.1 25 → s.1 25 - m < b → besM s k m a → X14 k a m u := by
      intro b
      induction b with
      | zero => intro m a c d; omega
      | succ b ih =>
        intro m a m1 mb ha
        have a6 := (g4 k k0 k1).2.2.2.2.2
        have r104 : rng (s.2 104 k) := by
          rcases a6 with z | z
          · rw [z.2]; decide
          · have y := (g6 _ z.1 z.2.1).1
            exact ⟨by omega, by omega⟩
        refine h14 _ _ _ _ ⟨⟨by omega, by omega⟩, by rw [e46]; exact ⟨by omega, by omega⟩, fun c => ?_, fun c => ?_⟩
        · rw [e46] at c
          rw [show m = (s.1 25).toNat by omega] at ha
          rw [e104]
          exact ⟨by omega, r104, fun d => hA1 d a ha _ c72, fun d => c72 _ _ (hA2 d)⟩
        · rw [e46] at c
          rw [e99]
          have q1 := (g4 m (by omega) c)
          have q2 := (g4 k k0 k1)
          rw [q1.2.2.2.2.1.1, q2.2.2.2.2.1.1]
          obtain ⟨s1, s2⟩ := besM_s ha (by omega)
          have o0 : bor a 0 = a := by
            have l8 : 2 ^ m < 2 ^ 8 := Nat.pow_lt_pow_right (by decide) (by omega)
            have hh := ha.2.1
            have h0 := ha.1
            have := bor_m (x := a) (y := 0) h0 (by omega) (by decide) (by decide)
            have e : (bor a 0).toNat = a.toNat := by rw [this.2]; exact Nat.or_zero _
            omega
          refine ⟨⟨by omega, by omega⟩, by omega, ⟨by omega, by omega⟩, ⟨by omega, by omega⟩, fun d => ?_, fun d => ?_⟩
          · rw [o0]
            have nx := ih (m + 1) a (by omega) (by omega) (s2 d)
            rw [show ((m + 1 : Nat) : Int) = (m : Int) + 1 by omega] at nx
            exact nx
          · have nx := ih (m + 1) _ (by omega) (by omega) (s1 d)
            rw [show ((m + 1 : Nat) : Int) = (m : Int) + 1 by omega] at nx
            exact nx
    have body : X14 k 0 0 u := key ((s.1 25).toNat + 1) 0 0 (by omega) (by omega) ⟨by decide, by decide, fun j hj => by omega⟩
    exact ⟨rk, fun c => by omega, fun c => ⟨rk, by rw [e46]; exact ⟨by omega, by omega⟩, fun d => by rw [e46] at d; omega, fun _ => ⟨by decide, fun _ => body, fun q => absurd q (by decide)⟩⟩⟩
  refine isB_b (LS_isSet_B rk h) (fun no => ?_) (fun ys => ?_)
  · intro X14 X72 h14 h72
    exact isB_b (Md_isSet_B rk h) (fun _ => stay _ (by decide)) (fun q => absurd q no)
  · have a6 := (g4 k ys.1 ys.2).2.2.2.2.2
    have r50 : rng (s.2 50 k) := by rcases a6 with z | z <;> exact ⟨by omega, by omega⟩
    refine ⟨⟨by omega, by omega⟩, r50, fun c => ?_, fun c => ?_⟩
    · have m104 : s.2 104 k < 0 := by rcases a6 with z | z <;> omega
      refine Gr_readChoices_ok hb hy h (fun t P hf hd hP hc => ?_)
      have hr := rdy_of hf hc
      refine Gr_setsBeside_ok h (agr_of hf (by decide)) ys.1 ys.2 (fun a ha => ?_)
      have hS : a.toNat.testBit k.toNat = true := (ha.2.2 k.toNat (by omega)).mpr (by rw [show ((k.toNat : Nat) : Int) = k by omega])
      refine Gr_soleChoice_ok h hr ys.1 ys.2 ha.1 ha.2.1 (fun r u hu hs => ?_)
      have fu : frm gN0 gA0 s u := frm_tr (frm_mono hf (by decide) (by decide)) (frm_mono hu (by decide) (by decide))
      have rr : rng r ∧ (0 ≤ r → r < s.1 27) := by rcases hs with z | z <;> exact ⟨⟨by omega, by omega⟩, fun _ => by omega⟩
      refine ⟨rr.1, fun d => ?_, fun d => ?_⟩
      · -- it gets its name
        have r27 := rr.2 d
        have x52 := (g6 r d r27).1
        refine ⟨by omega, fun s1 h1 => ⟨by omega, fun s2 h2 s3 h3 => ⟨by omega, ?_⟩⟩⟩
        have f3 : frm [26] [50, 51] u s3 := by rw [h3, h2, h1]; exact frm_tr (frm_tr (frm_A _ _ _ (by decide)) (frm_A _ _ _ (by decide))) (frm_F _ _ (by decide))
        have fs3 : frm gN1 gA1 s s3 := frm_tr (frm_mono fu (by decide) (by decide)) (frm_mono f3 (by decide) (by decide))
        have e26 : s1.1 26 = s.1 26 := by rw [h1, sA_1, fu.1 26 rfl]
        have w50 : s3.2 50 = updF (s.2 50) k r := by rw [h3, sF_2, h2, sA_n _ _ _ (by decide), h1, sA_u, fu.2 50 rfl]
        have w51 : s3.2 51 = updF (s.2 51) k (s.1 26) := by rw [h3, sF_2, h2, sA_u, e26, h1, sA_n _ _ _ (by decide), fu.2 51 rfl]
        have w26 : s3.1 26 = s.1 26 + 1 := by rw [h3, sF_s, h2, sA_1, e26]
        have w52 : s3.2 52 = s.2 52 := fs3.2 52 rfl
        rw [w52]
        refine md (s.2 52 r) s3 (agr_of fs3 (by decide)) ys.1 ys.2 (fun r' w => r' = r ∧ frm [33, 34, 35] [67, 68, 69, 70, 72, 110, 111, 112] s3 w) (fun r' w hw => ?_) (fun _ a' ha' B hB => ?_) (fun q => by omega)
        · obtain ⟨rfl, hw2⟩ := hw
          refine ⟨rr.1, fun _ => ⟨by omega, by omega, fun s5 h5 s6 h6 => ⟨by omega, fun s7 h7 => ⟨by omega, ?_⟩⟩⟩, fun q => by omega⟩
          have f7 : frm [48] [104, 105] w s7 := by rw [h7, h6, h5]; exact frm_tr (frm_tr (frm_A _ _ _ (by decide)) (frm_F _ _ (by decide))) (frm_A _ _ _ (by decide))
          have y48 : w.1 48 = s.1 26 := by rw [hw2.1 48 rfl, fs3.1 48 rfl]; exact g3.1.symm
          have y106 : w.2 106 r' = s.2 52 r' := by rw [hw2.2 106 rfl, fs3.2 106 rfl]; exact x52.1
          have z48 : s7.1 48 = s.1 26 + 1 := by rw [h7, sA_1, h6, sF_s, h5, sA_1, y48]
          have z104 : s7.2 104 = updF (s.2 104) k (s.2 52 r') := by rw [h7, sA_n _ _ _ (by decide), h6, sF_2, h5, sA_u, y106, hw2.2 104 rfl, fs3.2 104 rfl]
          have z105 : s7.2 105 = updF (s.2 105) k (s.1 26 + 1) := by
            have : s6.1 48 = s.1 26 + 1 := by rw [h6, sF_s, h5, sA_1, y48]
            rw [h7, sA_u, this, h6, sF_2, h5, sA_n _ _ _ (by decide), hw2.2 105 rfl, fs3.2 105 rfl]
          have fr : frm vN vA s s7 := frm_tr (frm_mono fs3 (by decide) (by decide)) (frm_tr (frm_mono hw2 (by decide) (by decide)) (frm_mono f7 (by decide) (by decide)))
          have z26 : s7.1 26 = s.1 26 + 1 := by rw [f7.1 26 rfl, hw2.1 26 rfl, w26]
          have z50 : s7.2 50 = updF (s.2 50) k r' := by rw [f7.2 50 rfl, hw2.2 50 rfl, w50]
          have z51 : s7.2 51 = updF (s.2 51) k (s.1 26) := by rw [f7.2 51 rfl, hw2.2 51 rfl, w51]
          rw [fr.2 106 rfl, x52.1]
          refine hk _ s7 ⟨by omega, by omega⟩ (dg_tr hd (fun i _ _ => by rw [f7.2 13 rfl, hw2.2 13 rfl, f3.2 13 rfl, hu.2 13 rfl])) fr ?_
          refine ⟨by rw [fr.1 25 rfl, fr.1 46 rfl]; exact g1, by rw [fr.1 27 rfl, fr.1 47 rfl]; exact g2, by rw [z26, z48]; omega, fun x x0 x1 => ?_, fun x x0 x1 => ?_, ?_, ?_⟩
          · rw [fr.1 25 rfl] at x1
            obtain ⟨y1, y2, y3, y4, y5, y6⟩ := g4 x x0 x1
            rw [fr.2 45 rfl, fr.2 46 rfl, fr.2 47 rfl, fr.2 48 rfl, fr.2 49 rfl, fr.2 99 rfl, fr.2 100 rfl, fr.2 101 rfl, fr.2 102 rfl, fr.2 103 rfl, fr.1 27 rfl, fr.2 52 rfl, z26, z50, z51, z104, z105]
            refine ⟨y1, y2, y3, y4, y5, ?_⟩
            by_cases z : x = k
            · rw [z, updF_s, updF_s, updF_s, updF_s]
              exact Or.inr ⟨d, r27, rfl, by omega, by omega, rfl⟩
            · rw [updF_n _ _ z, updF_n _ _ z, updF_n _ _ z, updF_n _ _ z]
              rcases y6 with q | ⟨q1, q2, q3, q4, q5, q6⟩
              · exact Or.inl q
              · exact Or.inr ⟨q1, q2, q3, q4, by omega, q6⟩
          · rw [fr.1 25 rfl] at x0
            rw [z104, updF_n _ _ (by omega)]
            exact g5 x x0 x1
          · rw [fr.1 27 rfl, fr.2 106 rfl, fr.2 52 rfl, fr.1 4 rfl, fr.2 107 rfl, fr.2 53 rfl, fr.2 108 rfl, fr.2 54 rfl, fr.2 109 rfl, fr.2 55 rfl]
            exact g6
          · rw [fr.1 27 rfl, fr.2 52 rfl]
            exact g7
        · rw [besM_u ha' ha]
          exact Md_onlyOf_ok hb hy h hP hr fs3 ys.1 ys.2 ha.1 ha.2.1 hS (fun r' w hw2 hs' => hB r' w ⟨soleR_u hs' hs, hw2⟩)
      · -- none, or more than one
        refine md (-3) u (agr_of fu (by decide)) ys.1 ys.2 (fun r' w => r' = r ∧ frm [33, 34, 35] [67, 68, 69, 70, 72, 110, 111, 112] u w) (fun r' w hw => ?_) (fun _ a' ha' B hB => ?_) (fun q => by omega)
        · obtain ⟨rfl, hw2⟩ := hw
          refine ⟨rr.1, fun q => by omega, fun _ => ?_⟩
          have fr : frm gN2 gA2 s w := frm_tr (frm_mono fu (by decide) (by decide)) (frm_mono hw2 (by decide) (by decide))
          exact hk _ w (by decide) (dg_tr hd (fun i _ _ => by rw [hw2.2 13 rfl, hu.2 13 rfl])) (frm_mono fr (by decide) (by decide)) (up (iGrv_agr (agr_of fr (by decide)) h))
        · rw [besM_u ha' ha]
          exact Md_onlyOf_ok hb hy h hP hr (frm_mono fu (by decide) (by decide)) ys.1 ys.2 ha.1 ha.2.1 hS (fun r' w hw2 hs' => hB r' w ⟨soleR_u hs' hs, hw2⟩)
    · have m104 : 0 ≤ s.2 104 k := by
        rcases a6 with z | z
        · omega
        · have y := (g6 _ z.1 z.2.1).1
          omega
      exact md (-3) s ⟨fun _ _ => rfl, fun _ _ => rfl⟩ ys.1 ys.2 (fun r w => r = -1 ∧ w = s) (fun r w hw => by
        obtain ⟨rfl, rfl⟩ := hw
        exact ⟨by decide, fun q => absurd q (by decide), fun _ => stay _ (by decide)⟩) (fun q => by omega) (fun _ => ⟨rfl, rfl⟩)
end
