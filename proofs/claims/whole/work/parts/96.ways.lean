section
/-! GRAVES: how many ways, by the class and by the model -/
theorem Vw_kc {g : Nat → Nat → Bool} {f : Nat → Nat} {M : Nat} : ∀ (A : List Nat) (K K' : Nat → Bool), (∀ m, m < M → K (f m) = K' (f m)) → Vw g f M A K = Vw g f M A K' := by
  intro A
  induction A with
  | nil => intro K K' _; rfl
  | cons s r ih =>
    intro K K' h
    refine sumN_c M (fun m hm => ?_)
    show (if g s m = true ∧ K (f m) = false then _ else 0) = (if g s m = true ∧ K' (f m) = false then _ else 0)
    rw [h m hm, ih (wth K (f m)) (wth K' (f m)) (fun m' hm' => by unfold wth; rw [h m' hm'])]
theorem lsf_nil {p : Nat → Bool} : ∀ (n j : Nat), lsf p j n = [] ↔ ∀ i, j ≤ i → i < j + n → p i = false := by
  intro n
  induction n with
  | zero => intro j; exact ⟨fun _ i a b => by omega, fun _ => rfl⟩
  | succ n ih =>
    intro j
    by_cases c : p j = true
    · rw [show lsf p j (n + 1) = j :: lsf p (j + 1) n from if_pos c]
      exact ⟨fun q => absurd q (List.cons_ne_nil _ _), fun q => absurd (q j (by omega) (by omega)) (by rw [c]; decide)⟩
    · rw [show lsf p j (n + 1) = lsf p (j + 1) n from if_neg c, ih]
      rw [Bool.not_eq_true] at c
      exact ⟨fun q i a b => by
        by_cases z : i = j
        · rw [z]; exact c
        · exact q i (by omega) (by omega), fun q i a b => q i (by omega) (by omega)⟩
def gGet (t : SS) : Nat → Nat → Bool := fun k m => (t.2 57 k).toNat.testBit m
def fOne (t : SS) : Nat → Nat := fun m => (t.2 56 m).toNat
/-- the class has read who can get whom -/
def rdy (s : SS) (P : Int → Int) (t : SS) : Prop := t.1 25 = s.1 25 ∧ t.1 27 = s.1 27 ∧ chs s P t
theorem fOne_le {s t : SS} {P : Int → Int} (h : rdy s P t) {m : Nat} (hm : (m : Int) < s.1 27) : fOne t m ≤ m ∧ ((fOne t m : Nat) : Int) = t.2 56 m := by
  have := (h.2.2.1 m (by omega) hm).1
  unfold fOne
  omega
theorem fOne_id {s t : SS} {P : Int → Int} (h : rdy s P t) {m : Nat} (hm : (m : Int) < s.1 27) : fOne t (fOne t m) = fOne t m := by
  have h1 := fOne_le h hm
  have f1 := h.2.2.1 m (by omega) hm
  have h2 := fOne_le h (m := fOne t m) (by omega)
  have f2 := h.2.2.1 (fOne t m : Nat) (by omega) (by omega)
  have := (fst1_eq f2 f1).mpr (by rw [h1.2]; exact f1.2.1)
  omega
theorem Gr_spellings_ok {n k w : Int} {s t : SS} {P : Int → Int} {Q : Int → SS → Prop} (h : iGrv n s) (hr : rdy s P t) (k0 : 0 ≤ k) (k1 : k < s.1 25) (w0 : 0 ≤ w) (w1 : w < s.1 27) (hk : Q (spl (gGet t) (fOne t) (s.1 27).toNat w.toNat k.toNat : Nat) t) : Sp_Gr_spellings k w t Q := by
  have g1 := h.1
  have g2 := h.2.1
  obtain ⟨r1, r2, r3, r4⟩ := id hr
  intro X5 h5
  have kb := (r4 k k0 k1).1
  have key : ∀ (b : Nat) (m : Nat), w ≤ m → (m : Int) ≤ s.1 27 → s.1 27 - m < b → X5 k w (spl (gGet t) (fOne t) m w.toNat k.toNat : Nat) m t := by
    intro b
    induction b with
    | zero => intro m a b' c; omega
    | succ b ih =>
      intro m m0 m1 mb
      refine h5 _ _ _ _ _ ⟨⟨by omega, by omega⟩, by rw [r2]; exact ⟨by omega, by omega⟩, fun c => ?_, fun c => ?_⟩
      · rw [r2] at c
        rw [show (s.1 27).toNat = m by omega] at hk
        exact hk
      · rw [r2] at c
        have nx := ih (m + 1) (by omega) (by omega) (by omega)
        have es : spl (gGet t) (fOne t) (m + 1) w.toNat k.toNat = spl (gGet t) (fOne t) m w.toNat k.toNat + if gGet t k.toNat m = true ∧ fOne t m = w.toNat then 1 else 0 := rfl
        have fm := fOne_le hr (m := m) c
        have bo := bit_ok (x := t.2 57 k) (k := m) kb.1 (by omega) (by omega) (by omega)
        have eg : gGet t k.toNat m = (t.2 57 k).toNat.testBit ((m : Int)).toNat := by
          unfold gGet
          rw [show ((k.toNat : Nat) : Int) = k by omega, show ((m : Int)).toNat = m by omega]
        rw [← eg] at bo
        rw [es, show ((m + 1 : Nat) : Int) = (m : Int) + 1 by omega] at nx
        refine ⟨⟨by omega, by omega⟩, by rw [← fm.2]; exact ⟨by omega, by omega⟩, ⟨by omega, by omega⟩, fun d => ?_, fun d => ⟨⟨by omega, by omega⟩, by rw [bo]; split <;> decide, fun e => ?_, fun e => ?_⟩⟩
        · rw [if_neg (fun q => d (by rw [← fm.2, q.2]; omega)), Nat.add_zero] at nx
          exact nx
        · rw [if_neg (fun q => e (by rw [bo, if_pos q.1])), Nat.add_zero] at nx
          exact nx
        · rw [if_pos ⟨by
            by_cases z : gGet t k.toNat m = true
            · exact z
            · rw [bo, if_neg z] at e; exact absurd e (by decide), by omega⟩] at nx
          rw [show ((spl (gGet t) (fOne t) m w.toNat k.toNat + 1 : Nat) : Int) = (spl (gGet t) (fOne t) m w.toNat k.toNat : Nat) + 1 by omega] at nx
          exact nx
  have z : ∀ m : Nat, (m : Int) ≤ w → spl (gGet t) (fOne t) m w.toNat k.toNat = 0 := by
    intro m
    induction m with
    | zero => intro _; rfl
    | succ m ih =>
      intro hm
      have fm := fOne_le hr (m := m) (by omega)
      show spl (gGet t) (fOne t) m w.toNat k.toNat + (if gGet t k.toNat m = true ∧ fOne t m = w.toNat then 1 else 0) = 0
      rw [ih (by omega), if_neg (fun q => by omega)]
  have := key (s.1 27 + 1).toNat w.toNat (by omega) (by omega) (by omega)
  rw [z w.toNat (by omega), show ((w.toNat : Nat) : Int) = w by omega] at this
  exact this
/-- what the rows of the class say when all persons before w are looked at -/
def rowW (s t : SS) (w X : Nat) : Nat := Vw (gGet t) (fOne t) (s.1 27).toNat (lsf X.testBit 0 (s.1 25).toNat) (fun x => decide (w ≤ x))
theorem rowW_b {n : Int} {s t : SS} (h : iGrv n s) (w X : Nat) : rowW s t w X ≤ 100000000 := by
  have g1 := h.1
  have g2 := h.2.1
  have h1 := Vw_le (g := gGet t) (f := fOne t) (M := (s.1 27).toNat) (by omega) (lsf X.testBit 0 (s.1 25).toNat) (fun x => decide (w ≤ x))
  have h2 := lsf_len (p := X.testBit) (s.1 25).toNat 0
  have h3 : 10 ^ (lsf X.testBit 0 (s.1 25).toNat).length ≤ 10 ^ 8 := Nat.pow_le_pow_right (by decide) (by omega)
  unfold rowW
  omega
theorem Gr_waysWith_ok {n x w : Int} {s t : SS} {P : Int → Int} {Q : Int → SS → Prop} (h : iGrv n s) (hr : rdy s P t) (x0 : 0 ≤ x) (x1 : x < 256) (w0 : 0 ≤ w) (w1 : w < s.1 27) (hrow : ∀ k : Nat, (k : Int) < s.1 25 → x.toNat.testBit k = true → t.2 58 (bnd x (bxr (shl 1 k) (-1))) = (rowW s t w.toNat (bnd x (bxr (shl 1 k) (-1))).toNat : Nat)) (hk : Q (sumN (fun i => if x.toNat.testBit i = true then spl (gGet t) (fOne t) (s.1 27).toNat w.toNat i * Vw (gGet t) (fOne t) (s.1 27).toNat (lsf (but x.toNat.testBit i) 0 (s.1 25).toNat) (fun y => decide (w.toNat ≤ y)) else 0) (s.1 25).toNat : Nat) t) : Sp_Gr_waysWith x w t Q := by
  have g1 := h.1
  have g2 := h.2.1
  obtain ⟨r1, r2, r3, r4⟩ := id hr
  intro X5 h5
  have key : ∀ (b : Nat) (k : Nat), (k : Int) ≤ s.1 25 → s.1 25 - k < b → X5 x w (sumN (fun i => if x.toNat.testBit i = true then spl (gGet t) (fOne t) (s.1 27).toNat w.toNat i * Vw (gGet t) (fOne t) (s.1 27).toNat (lsf (but x.toNat.testBit i) 0 (s.1 25).toNat) (fun y => decide (w.toNat ≤ y)) else 0) k : Nat) k t := by
    intro b
    induction b with
    | zero => intro k a c; omega
    | succ b ih =>
      intro k k1 kb
      refine h5 _ _ _ _ _ ⟨⟨by omega, by omega⟩, by rw [r1]; exact ⟨by omega, by omega⟩, fun c => ?_, fun c => ?_⟩
      · rw [r1] at c
        rw [show (s.1 25).toNat = k by omega] at hk ⊢
        exact hk
      · rw [r1] at c
        have nx := ih (k + 1) (by omega) (by omega)
        rw [sumN_s, show ((k + 1 : Nat) : Int) = (k : Int) + 1 by omega] at nx
        have bo := bit_ok (x := x) (k := k) x0 (by omega) (by omega) (by omega)
        rw [show ((k : Int)).toNat = k by omega] at bo
        refine ⟨by rw [bo]; split <;> decide, fun d => ?_, fun d => ?_⟩
        · have hb : x.toNat.testBit k = true := by
            by_cases z : x.toNat.testBit k = true
            · exact z
            · rw [bo, if_neg z] at d; exact absurd rfl d
          have bu := but_ok (x := x) (k := k) x0 (by omega) (by omega) (by omega)
          rw [show ((k : Int)).toNat = k by omega] at bu
          have hro := hrow k c hb
          have hle := rowW_b (t := t) h w.toNat (bnd x (bxr (shl 1 k) (-1))).toNat
          have er : rowW s t w.toNat (bnd x (bxr (shl 1 k) (-1))).toNat = Vw (gGet t) (fOne t) (s.1 27).toNat (lsf (but x.toNat.testBit k) 0 (s.1 25).toNat) (fun y => decide (w.toNat ≤ y)) := by
            unfold rowW
            rw [bu.2]
          rw [if_pos hb, ← er] at nx
          refine ⟨⟨bu.1.1, by omega⟩, by rw [hro]; exact ⟨by omega, by omega⟩, fun e => ?_, fun e => Gr_spellings_ok h hr (by omega) c w0 w1 ?_⟩
          · rw [hro] at e
            rw [show rowW s t w.toNat (bnd x (bxr (shl 1 k) (-1))).toNat = 0 by omega, Nat.mul_zero, Nat.add_zero] at nx
            exact nx
          · rw [hro, show ((k : Int)).toNat = k by omega]
            rw [Nat.mul_comm, Int.natCast_add, Int.natCast_mul] at nx
            exact nx
        · have hb : ¬ x.toNat.testBit k = true := fun z => by rw [bo, if_pos z] at d; exact absurd d (by decide)
          rw [if_neg hb, Nat.add_zero] at nx
          exact nx
  exact key (s.1 25 + 1).toNat 0 (by omega) (by omega)
theorem Gr_ways_ok {n x : Int} {s t : SS} {P : Int → Int} {Q : Int → SS → Prop} (h : iGrv n s) (hr : rdy s P t) (x0 : 0 ≤ x) (x1 : x.toNat < 2 ^ (s.1 25).toNat) (hk : ∀ u, frm [] [58] t u → Q (min (Vw (gGet t) (fOne t) (s.1 27).toNat (lsf x.toNat.testBit 0 (s.1 25).toNat) (fun _ => false) : Nat) 1000000) u) : Sp_Gr_ways x t Q := by
  have g1 := h.1
  have g2 := h.2.1
  obtain ⟨r1, r2, r3, r4⟩ := id hr
  obtain ⟨pn1, pn2, pn3⟩ := p2n g1.2.1 g1.2.2
  intro X7 X33 X64 h7 h33 h64
  have rdu : ∀ {u : SS}, frm [] [58] t u → rdy s P u ∧ gGet u = gGet t ∧ fOne u = fOne t := fun {u} hu => by
    refine ⟨⟨by rw [hu.1 25 rfl]; exact r1, by rw [hu.1 27 rfl]; exact r2, ?_⟩, by unfold gGet; rw [hu.2 57 rfl], by unfold fOne; rw [hu.2 56 rfl]⟩
    unfold chs
    rw [hu.2 56 rfl, hu.2 57 rfl]
    exact ⟨r3, r4⟩
  have rowu : ∀ {u : SS} (w X : Nat), frm [] [58] t u → rowW s u w X = rowW s t w X := fun {u} w X hu => by
    obtain ⟨_, e1, e2⟩ := rdu hu
    unfold rowW
    rw [e1, e2]
  -- the sets among those that are asked for
  have l33 : ∀ (b : Nat) (w : Nat) (u : SS), (w : Int) ≤ s.1 27 → s.1 27 - w < b → frm [] [58] t u → (∀ X : Nat, X < 2 ^ (s.1 25).toNat → (∀ j, X.testBit j = true → x.toNat.testBit j = true) → u.2 58 X = (rowW s t w X : Nat)) → X33 x w u := by
    intro b
    induction b with
    | zero => intro w u a b' ; omega
    | succ b ih =>
      intro w u w1 wb hfu hrow
      have e27 : u.1 27 = s.1 27 := by rw [hfu.1 27 rfl, r2]
      refine h33 _ _ _ ⟨⟨by omega, by omega⟩, by rw [hfu.1 27 rfl, r2]; exact ⟨by omega, by omega⟩, fun c => ⟨⟨by omega, by omega⟩, ?_⟩, fun c => ⟨⟨by omega, by omega⟩, ?_⟩⟩
      · rw [hfu.1 27 rfl, r2] at c
        have e := hrow x.toNat x1 (fun j q => q)
        rw [show ((x.toNat : Nat) : Int) = x by omega] at e
        have hle := rowW_b (t := t) h w x.toNat
        have ek : rowW s t w x.toNat = Vw (gGet t) (fOne t) (s.1 27).toNat (lsf x.toNat.testBit 0 (s.1 25).toNat) (fun _ => false) := Vw_kc _ _ _ (fun m hm => by
          have := fOne_le hr (m := m) (by omega)
          show decide (w ≤ fOne t m) = false
          rw [decide_eq_false_iff_not]
          omega)
        rw [e, ek]
        rw [ek] at hle
        exact ⟨⟨by omega, by omega⟩, hk u hfu⟩
      · rw [hfu.1 27 rfl, r2] at c
        have fw := fOne_le hr (m := w) c
        rw [hfu.2 56 rfl]
        refine ⟨by rw [← fw.2]; exact ⟨by omega, by omega⟩, ⟨by omega, by omega⟩, fun d => ?_, fun d => ?_⟩
        · -- one person more
          have l64 : ∀ (b' : Nat) (y : Nat) (v : SS), y < 2 ^ (s.1 25).toNat → y < b' → frm [] [58] t v → (∀ X : Nat, X < 2 ^ (s.1 25).toNat → (∀ j, X.testBit j = true → x.toNat.testBit j = true) → v.2 58 X = if y < X then ((rowW s t (w + 1) X : Nat) : Int) else (rowW s t w X : Nat)) → X64 x w y v := by
            intro b'
            induction b' with
            | zero => intro y v a b'; omega
            | succ b' ih2 =>
              intro y v y1 yb hfv hrv
              refine h64 _ _ _ _ ⟨⟨by omega, by omega⟩, fun e => ?_, fun e => ?_⟩
              · have nx := ih (w + 1) v (by omega) (by omega) hfv (fun X X1 X2 => by
                  rw [hrv X X1 X2]
                  by_cases z : y < X
                  · rw [if_pos z]
                  · rw [if_neg z]
                    have : X = 0 := by omega
                    subst this
                    have en : lsf (Nat.testBit 0) 0 (s.1 25).toNat = [] := (lsf_nil _ _).mpr (fun i _ _ => Nat.zero_testBit i)
                    unfold rowW
                    rw [en]
                    rfl)
                rw [show ((w + 1 : Nat) : Int) = (w : Int) + 1 by omega] at nx
                exact nx
              · have so := sub_ok (x := y) (y := x) (by omega) (by omega) x0 (by omega)
                have nb := not_b (x := y) (y := x) (by omega) (by omega) x0 (by omega)
                rw [show ((y : Int)).toNat = y by omega] at so
                have st : ∀ v' : SS, frm [] [58] t v' → (∀ X : Nat, X < 2 ^ (s.1 25).toNat → (∀ j, X.testBit j = true → x.toNat.testBit j = true) → v'.2 58 X = if y - 1 < X then ((rowW s t (w + 1) X : Nat) : Int) else (rowW s t w X : Nat)) → X64 x w ((y : Int) + (-1)) v' := fun v' hv' hr' => by
                  have := ih2 (y - 1) v' (by omega) (by omega) hv' hr'
                  rw [show ((y - 1 : Nat) : Int) = (y : Int) + (-1) by omega] at this
                  exact this
                refine ⟨⟨by omega, by omega⟩, fun f => st v hfv (fun X X1 X2 => ?_), fun f => ⟨⟨by omega, by omega⟩, ?_⟩⟩
                · rw [hrv X X1 X2]
                  have : X ≠ y := fun z => f (so.mpr (by rw [← z]; exact X2))
                  by_cases z : y < X
                  · rw [if_pos z, if_pos (by omega)]
                  · rw [if_neg z, if_neg (by omega)]
                · have ysub := so.mp f
                  obtain ⟨rv, ev1, ev2⟩ := rdu hfv
                  have hy := hrv y y1 ysub
                  rw [if_neg (Nat.lt_irrefl y)] at hy
                  refine Gr_waysWith_ok (x := y) (w := w) h rv (by omega) (by omega) (by omega) c (fun k k1 kb => ?_) ⟨⟨by omega, by omega⟩, fun s5 h5 => ?_⟩
                  · have bu := but_ok (x := y) (k := k) (by omega) (by omega) (by omega) (by omega)
                    rw [show ((k : Int)).toNat = k by omega, show ((y : Int)).toNat = y by omega] at bu
                    rw [show ((y : Int)).toNat = y by omega] at kb
                    have lt : (bnd y (bxr (shl 1 k) (-1))).toNat < y := by
                      rcases Nat.lt_or_ge (bnd y (bxr (shl 1 k) (-1))).toNat y with z | z
                      · exact z
                      · have e : (bnd y (bxr (shl 1 k) (-1))).toNat = y := by omega
                        have := congrFun bu.2 k
                        rw [e, kb, but_s] at this
                        exact absurd this (by decide)
                    have hh := hrv (bnd y (bxr (shl 1 k) (-1))).toNat (by omega) (fun j hj => ysub j (by
                      rw [bu.2] at hj
                      unfold but at hj
                      rw [Bool.and_eq_true] at hj
                      exact hj.1))
                    rw [if_neg (by omega), show (((bnd y (bxr (shl 1 k) (-1))).toNat : Nat) : Int) = bnd y (bxr (shl 1 k) (-1)) by omega] at hh
                    rw [hh, show ((w : Int)).toNat = w by omega, rowu w _ hfv]
                  · rw [show ((y : Int)).toNat = y by omega, show ((w : Int)).toNat = w by omega, ev1, ev2, hy] at h5
                    have er : rowW s t (w + 1) y = rowW s t w y + sumN (fun i => if y.testBit i = true then spl (gGet t) (fOne t) (s.1 27).toNat w i * Vw (gGet t) (fOne t) (s.1 27).toNat (lsf (but y.testBit i) 0 (s.1 25).toNat) (fun z => decide (w ≤ z)) else 0) (s.1 25).toNat := Vw_row
                    rw [← Int.natCast_add, ← er] at h5
                    have e58 : s5.2 58 = updF (v.2 58) y (rowW s t (w + 1) y : Nat) := by rw [h5, sA_u]
                    refine st s5 (by rw [h5]; exact frm_tr hfv (frm_A _ _ _ (by decide))) (fun X X1 X2 => ?_)
                    rw [e58]
                    by_cases z : X = y
                    · rw [z, updF_s, if_pos (by omega)]
                    · rw [updF_n _ _ (by omega), hrv X X1 X2]
                      by_cases z2 : y < X
                      · rw [if_pos z2, if_pos (by omega)]
                      · rw [if_neg z2, if_neg (by omega)]
          have := l64 (2 ^ (s.1 25).toNat) (2 ^ (s.1 25).toNat - 1) u (by omega) (by omega) hfu (fun X X1 X2 => by rw [hrow X X1 X2, if_neg (by omega)])
          rw [hfu.1 25 rfl, r1, pn3]
          rw [show ((2 ^ (s.1 25).toNat - 1 : Nat) : Int) = ((2 ^ (s.1 25).toNat : Nat) : Int) - 1 by omega] at this
          exact this
        · have nx := ih (w + 1) u (by omega) (by omega) hfu (fun X X1 X2 => by
            rw [hrow X X1 X2]
            unfold rowW
            rw [Vw_row_no (fun m hm q => d ?_)]
            have := fOne_id hr (m := m) (by omega)
            rw [q] at this
            omega)
          rw [show ((w + 1 : Nat) : Int) = (w : Int) + 1 by omega] at nx
          exact nx
  have l7 : ∀ (b : Nat) (y : Nat) (u : SS), y ≤ 2 ^ (s.1 25).toNat → 2 ^ (s.1 25).toNat - y < b → frm [] [58] t u → (∀ X : Nat, X < y → u.2 58 X = 0) → X7 x y u := by
    intro b
    induction b with
    | zero => intro y u a b'; omega
    | succ b ih =>
      intro y u y1 yb hfu h0
      refine h7 _ _ _ ?_
      unfold B_Gr_ways_7
      rw [hfu.1 25 rfl, r1, pn3]
      refine ⟨⟨by omega, by omega⟩, ⟨by omega, by omega⟩, fun c s1 h1 => ?_, fun c => ⟨⟨by omega, by omega⟩, fun s2 h2 => ?_⟩⟩
      · refine l33 ((s.1 27).toNat + 1) 0 s1 (by omega) (by omega) (by rw [h1]; exact frm_tr hfu (frm_A _ _ _ (by decide))) (fun X X1 X2 => ?_)
        rw [h1, sA_s]
        have ev : rowW s t 0 X = if lsf X.testBit 0 (s.1 25).toNat = [] then 1 else 0 := Vw_none _
        rw [ev]
        by_cases z : X = 0
        · subst z
          rw [if_pos (show ((0 : Nat) : Int) = 0 from rfl), if_pos ((lsf_nil _ _).mpr (fun i _ _ => Nat.zero_testBit i))]
          rfl
        · rw [if_neg (by omega), if_neg, h0 X (by omega)]
          · rfl
          · intro q
            apply z
            apply Nat.eq_of_testBit_eq
            intro i
            rw [Nat.zero_testBit]
            by_cases y : i < (s.1 25).toNat
            · exact (lsf_nil _ _).mp q i (by omega) (by omega)
            · exact tb_lt X1 (by omega)
      · have nx := ih (y + 1) s2 (by omega) (by omega) (by rw [h2]; exact frm_tr hfu (frm_A _ _ _ (by decide))) (fun X hX => by
          rw [h2, sA_s]
          by_cases z : X = y
          · rw [z, if_pos rfl]
          · rw [if_neg (by omega)]; exact h0 X (by omega))
        rw [show ((y + 1 : Nat) : Int) = (y : Int) + 1 by omega] at nx
        exact nx
  exact l7 (2 ^ (s.1 25).toNat + 1) 0 t (by omega) (by omega) (frm_rf _ _ _) (fun X a => by omega)
end
