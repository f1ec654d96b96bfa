section
/-! GRAVES: namings, why, only, give -/
def Best (p : Nat → Prop) (b L : Nat) : Prop := (L = 0 ∧ ∀ X, 1 ≤ X → X < b → ¬ p X) ∨ ((1 ≤ L ∧ L < b) ∧ p L ∧ ∀ X, 1 ≤ X → X < b → p X → popN L < popN X ∨ (popN L = popN X ∧ L ≤ X))
theorem Best_no {p : Nat → Prop} {b L : Nat} (h : Best p b L) (hp : ¬ p b) : Best p (b + 1) L := by
  rcases h with ⟨h1, h2⟩ | ⟨h1, h2, h3⟩
  · exact Or.inl ⟨h1, fun X a c => by
      by_cases z : X = b
      · rw [z]; exact hp
      · exact h2 X a (by omega)⟩
  · exact Or.inr ⟨by omega, h2, fun X a c q => by
      by_cases z : X = b
      · rw [z] at q; exact absurd q hp
      · exact h3 X a (by omega) q⟩
theorem Best_keep {p : Nat → Prop} {b L : Nat} (h : Best p b L) (h0 : L ≠ 0) (hl : popN L ≤ popN b) : Best p (b + 1) L := by
  rcases h with ⟨h1, h2⟩ | ⟨h1, h2, h3⟩
  · exact absurd h1 h0
  · exact Or.inr ⟨by omega, h2, fun X a c q => by
      by_cases z : X = b
      · rw [z]; omega
      · exact h3 X a (by omega) q⟩
theorem Best_take {p : Nat → Prop} {b L : Nat} (h : Best p b L) (b1 : 1 ≤ b) (hp : p b) (hl : L = 0 ∨ popN b < popN L) : Best p (b + 1) b := by
  refine Or.inr ⟨by omega, hp, fun X a c q => ?_⟩
  by_cases z : X = b
  · exact Or.inr ⟨by rw [z], by omega⟩
  · rcases h with ⟨h1, h2⟩ | ⟨h1, h2, h3⟩
    · exact absurd q (h2 X a (by omega))
    · have := h3 X a (by omega) q
      omega
/-- the sets and those that want them -/
theorem sub_le {x y : Nat} (h : ∀ j, x.testBit j = true → y.testBit j = true) : x ≤ y := by
  have e : x &&& y = x := by
    apply Nat.eq_of_testBit_eq
    intro j
    rw [Nat.testBit_and]
    cases hx : x.testBit j
    · rfl
    · rw [h j hx]; rfl
  rw [← e]
  exact Nat.and_le_right
theorem viol_c {g : Nat → Nat → Bool} {f : Nat → Nat} {M n B : Nat} {K Y Y' : Nat → Bool} (h : ∀ i, i < n → Y i = Y' i) (hv : viol g f M n B K Y) : viol g f M n B K Y' := by
  unfold viol at hv ⊢
  rw [← cnB_c h]
  have : ∀ q, nb n (aOf g f M) Y q = nb n (aOf g f M) Y' q := fun q => by
    rw [Bool.eq_iff_iff, nb_iff, nb_iff]
    constructor
    · rintro ⟨s, a, b, c⟩; exact ⟨s, a, by rw [← h s a]; exact b, c⟩
    · rintro ⟨s, a, b, c⟩; exact ⟨s, a, by rw [h s a]; exact b, c⟩
  have e : cnB (fun q => nb n (aOf g f M) Y' q && !K q) B = cnB (fun q => nb n (aOf g f M) Y q && !K q) B := cnB_c (fun q _ => by rw [this q])
  omega
def pH (g : Nat → Nat → Bool) (f : Nat → Nat) (M n : Nat) (K : Nat → Bool) (S X : Nat) : Prop := (∀ j, X.testBit j = true → S.testBit j = true) ∧ viol g f M n 10 K X.testBit
def pZ (g : Nat → Nat → Bool) (f : Nat → Nat) (M n : Nat) (S X : Nat) : Prop := (∀ j, X.testBit j = true → S.testBit j = true) ∧ Vw g f M (lsf X.testBit 0 n) (fun _ => false) = 0
theorem H_Z {g : Nat → Nat → Bool} {f : Nat → Nat} {M n S X : Nat} (hB : ∀ m, m < M → f m < 10) (h : pH g f M n (fun _ => false) S X) : pZ g f M n S X := by
  refine ⟨h.1, ?_⟩
  rcases Nat.eq_zero_or_pos (Vw g f M (lsf X.testBit 0 n) (fun _ => false)) with z | z
  · exact z
  · exact absurd ⟨X.testBit, fun _ _ q => q, h.2⟩ ((Vw_hall hB).mp z)
theorem Z_H {g : Nat → Nat → Bool} {f : Nat → Nat} {M n S X : Nat} (hn : n ≤ 31) (hB : ∀ m, m < M → f m < 10) (hX : X < 2 ^ n) (h : pZ g f M n S X) : ∃ Y, 1 ≤ Y ∧ Y < 2 ^ n ∧ pH g f M n (fun _ => false) S Y ∧ popN Y ≤ popN X ∧ (popN Y = popN X → Y = X) := by
  have hx : ¬ ¬ ∃ Y : Nat → Bool, (∀ i, i < n → Y i = true → X.testBit i = true) ∧ viol g f M n 10 (fun _ => false) Y := fun q => by
    have := (Vw_hall hB).mpr q
    rw [h.2] at this
    exact absurd this (Nat.lt_irrefl 0)
  obtain ⟨Yp, y1, y2⟩ := Classical.not_not.mp hx
  obtain ⟨Y, y3, y4⟩ := mask (p := Yp) n
  have hv := viol_c (fun i hi => (y4 i hi).symm) y2
  have sub : ∀ j, Y.testBit j = true → X.testBit j = true := fun j hj => by
    by_cases c : j < n
    · exact y1 j c (by rw [← y4 j c]; exact hj)
    · rw [tb_lt y3 (by omega)] at hj; exact absurd hj (by decide)
  have pY := pop_cnB y3 hn
  have pX := pop_cnB hX hn
  have pos : 0 < cnB Y.testBit n := by unfold viol at hv; omega
  obtain ⟨i, i1, i2⟩ := (cnB_pos n).mp pos
  have nz : 1 ≤ Y := by
    rcases Nat.eq_zero_or_pos Y with z | z
    · rw [z, Nat.zero_testBit] at i2; exact absurd i2 (by decide)
    · exact z
  refine ⟨Y, nz, y3, ⟨fun j hj => h.1 j (sub j hj), hv⟩, ?_, fun e => ?_⟩
  · rw [pY, pX]; exact cnB_mono n (fun j _ hj => sub j hj)
  · apply Nat.eq_of_testBit_eq
    intro j
    cases hY : Y.testBit j
    · cases hx : X.testBit j
      · rfl
      · exfalso
        by_cases c : j < n
        · have := cnB_lt (p := Y.testBit) (q := X.testBit) (n := n) (a := j) (fun i _ q => sub i q) c (by rw [hY]; decide) hx
          omega
        · rw [tb_lt hX (by omega)] at hx; exact absurd hx (by decide)
    · rw [sub j hY]
theorem best_eq {g : Nat → Nat → Bool} {f : Nat → Nat} {M n S L L' : Nat} (hn : n ≤ 31) (hB : ∀ m, m < M → f m < 10) (hS : S < 2 ^ n) (h : Best (pH g f M n (fun _ => false) S) (2 ^ n) L) (h' : Best (pZ g f M n S) (S + 1) L') : L = L' := by
  have zlt : ∀ X, pZ g f M n S X → X < S + 1 := fun X q => Nat.lt_succ_of_le (sub_le q.1)
  rcases h with ⟨a1, a2⟩ | ⟨a1, a2, a3⟩
  · rcases h' with ⟨b1, b2⟩ | ⟨b1, b2, b3⟩
    · rw [a1, b1]
    · obtain ⟨Y, y1, y2, y3, y4, y5⟩ := Z_H hn hB (by omega) b2
      exact absurd y3 (a2 Y y1 y2)
  · have zL := H_Z hB a2
    rcases h' with ⟨b1, b2⟩ | ⟨b1, b2, b3⟩
    · exact absurd zL (b2 L a1.1 (zlt L zL))
    · obtain ⟨Y, y1, y2, y3, y4, y5⟩ := Z_H hn hB (by omega) b2
      have c1 := a3 Y y1 y2 y3
      have c2 := b3 L a1.1 (zlt L zL) zL
      have e : popN Y = popN L' := by omega
      have := y5 e
      subst this
      omega
theorem rdy_f {s t : SS} {P : Int → Int} (h : rdy s P t) (h2 : s.1 27 ≤ 10) : ∀ m, m < (s.1 27).toNat → fOne t m < 10 := fun m hm => by
  have := fOne_le h (m := m) (by omega)
  omega
/-! the heirs -/
theorem bor_m {x y : Int} (x0 : 0 ≤ x) (x1 : x < 1024) (y0 : 0 ≤ y) (y1 : y < 1024) : (0 ≤ bor x y ∧ bor x y < 1024) ∧ (bor x y).toNat = x.toNat ||| y.toNat := by
  have hh := bor_nat (a := x.toNat) (b := y.toNat) (k := 10) (by omega) (by omega) (by decide)
  rw [show ((x.toNat : Nat) : Int) = x by omega, show ((y.toNat : Nat) : Int) = y by omega] at hh
  have hl : x.toNat ||| y.toNat < 2 ^ 10 := Nat.or_lt_two_pow (by omega) (by omega)
  rw [hh]
  omega
theorem Gr_personsFor_ok {n k : Int} {s t : SS} {P : Int → Int} {Q : Int → SS → Prop} (h : iGrv n s) (hr : rdy s P t) (k0 : 0 ≤ k) (k1 : k < s.1 25) (hk : ∀ v, 0 ≤ v → v < 1024 → (∀ q, v.toNat.testBit q = aOf (gGet t) (fOne t) (s.1 27).toNat k.toNat q) → Q v t) : Sp_Gr_personsFor k t Q := by
  have g1 := h.1
  have g2 := h.2.1
  obtain ⟨r1, r2, r3, r4⟩ := id hr
  intro X4 h4
  have kb := (r4 k k0 k1).1
  have key : ∀ (b : Nat) (m : Nat) (v : Int), (m : Int) ≤ s.1 27 → s.1 27 - m < b → 0 ≤ v → v < 1024 → (∀ q, v.toNat.testBit q = aOf (gGet t) (fOne t) m k.toNat q) → X4 k v m t := by
    intro b
    induction b with
    | zero => intro m v a c; omega
    | succ b ih =>
      intro m v m1 mb v0 v1 hv
      refine h4 _ _ _ _ ⟨⟨by omega, by omega⟩, by rw [r2]; exact ⟨by omega, by omega⟩, fun c => ?_, fun c => ?_⟩
      · rw [r2] at c
        rw [show m = (s.1 27).toNat by omega] at hv
        exact hk v v0 v1 hv
      · rw [r2] at c
        have fm := fOne_le hr (m := m) c
        have bo := bit_ok (x := t.2 57 k) (k := m) kb.1 (by omega) (by omega) (by omega)
        have eg : gGet t k.toNat m = (t.2 57 k).toNat.testBit ((m : Int)).toNat := by
          unfold gGet
          rw [show ((k.toNat : Nat) : Int) = k by omega, show ((m : Int)).toNat = m by omega]
        rw [← eg] at bo
        refine ⟨⟨by omega, by omega⟩, by rw [bo]; split <;> decide, fun e => ?_, fun e => ⟨⟨by omega, by omega⟩, ?_⟩⟩
        · have ng : ¬ gGet t k.toNat m = true := fun z => e (by rw [bo, if_pos z])
          have nx := ih (m + 1) v (by omega) (by omega) v0 v1 (fun q => by
            rw [hv q, Bool.eq_iff_iff, aOf_iff, aOf_iff]
            constructor
            · rintro ⟨a, b1, b2⟩; exact ⟨a, by omega, b2⟩
            · rintro ⟨a, b1, b2, b3⟩
              by_cases z : a = m
              · rw [z] at b2; exact absurd b2 ng
              · exact ⟨a, by omega, b2, b3⟩)
          rw [show ((m + 1 : Nat) : Int) = (m : Int) + 1 by omega] at nx
          exact nx
        · have yg : gGet t k.toNat m = true := by
            by_cases z : gGet t k.toNat m = true
            · exact z
            · rw [bo, if_neg z] at e; exact absurd e (by decide)
          rw [← fm.2]
          obtain ⟨o1, o2, o3⟩ := bor1_ok (x := v) (k := fOne t m) v0 v1 (by omega) (by omega)
          have nx := ih (m + 1) _ (by omega) (by omega) o1.1 o1.2 (fun q => by
            rw [o3, show ((fOne t m : Int)).toNat = fOne t m by omega]
            unfold wth
            rw [hv q, Bool.eq_iff_iff, Bool.or_eq_true, decide_eq_true_eq, aOf_iff, aOf_iff]
            constructor
            · rintro (⟨a, b1, b2⟩ | z)
              · exact ⟨a, by omega, b2⟩
              · exact ⟨m, by omega, yg, z.symm⟩
            · rintro ⟨a, b1, b2, b3⟩
              by_cases z : a = m
              · rw [z] at b3; exact Or.inr b3.symm
              · exact Or.inl ⟨a, by omega, b2, b3⟩)
          rw [show ((m + 1 : Nat) : Int) = (m : Int) + 1 by omega] at nx
          exact nx
  refine key ((s.1 27).toNat + 1) 0 0 (by omega) (by omega) (by decide) (by decide) (fun q => ?_)
  rw [show (0 : Int).toNat = 0 from rfl, Nat.zero_testBit]
  rfl
def hrs (s t : SS) (X : Nat) (v : Int) : Prop := (0 ≤ v ∧ v < 1024) ∧ ∀ q, v.toNat.testBit q = nb (s.1 25).toNat (aOf (gGet t) (fOne t) (s.1 27).toNat) X.testBit q
theorem Gr_readHeirs_ok {n : Int} {s t : SS} {P : Int → Int} {Q : SS → Prop} (h : iGrv n s) (hr : rdy s P t) (hk : ∀ u, frm [] [58] t u → (∀ X : Nat, X < 2 ^ (s.1 25).toNat → hrs s t X (u.2 58 X)) → Q u) : Sp_Gr_readHeirs t Q := by
  have g1 := h.1
  have g2 := h.2.1
  obtain ⟨r1, r2, r3, r4⟩ := id hr
  intro X9 X25 h9 h25 s1 h1
  have rdu : ∀ {u : SS}, frm [] [58] t u → rdy s P u ∧ gGet u = gGet t ∧ fOne u = fOne t := fun {u} hu => by
    refine ⟨⟨by rw [hu.1 25 rfl]; exact r1, by rw [hu.1 27 rfl]; exact r2, ?_⟩, by unfold gGet; rw [hu.2 57 rfl], by unfold fOne; rw [hu.2 56 rfl]⟩
    unfold chs
    rw [hu.2 56 rfl, hu.2 57 rfl]
    exact ⟨r3, r4⟩
  have l9 : ∀ (b : Nat) (k : Nat) (u : SS), (k : Int) ≤ s.1 25 → s.1 25 - k < b → frm [] [58] t u → (∀ X : Nat, X < 2 ^ k → hrs s t X (u.2 58 X)) → X9 k u := by
    intro b
    induction b with
    | zero => intro k u a c; omega
    | succ b ih =>
      intro k u k1 kb hfu hlo
      refine h9 _ _ ⟨⟨by omega, by omega⟩, by rw [hfu.1 25 rfl, r1]; exact ⟨by omega, by omega⟩, fun c => ?_, fun c => ?_⟩
      · rw [hfu.1 25 rfl, r1] at c
        exact hk u hfu (by rw [show (s.1 25).toNat = k by omega]; exact hlo)
      · rw [hfu.1 25 rfl, r1] at c
        obtain ⟨ru, eu1, eu2⟩ := rdu hfu
        obtain ⟨pk1, pk2, pk3⟩ := p2n (n := k) (by omega) (by omega)
        rw [show ((k : Int)).toNat = k by omega] at pk1 pk2 pk3
        have pk4 : 2 ^ k ≤ 128 := by
          have : 2 ^ k ≤ 2 ^ 7 := Nat.pow_le_pow_right (by decide) (by omega)
          omega
        refine Gr_personsFor_ok h ru (by omega) c (fun v v0 v1 hv => ?_)
        rw [eu1, eu2, show ((k : Int)).toNat = k by omega] at hv
        have l25 : ∀ (b' : Nat) (x : Nat) (w : SS), x ≤ 2 ^ k → 2 ^ k - x < b' → frm [] [58] t w → (∀ X : Nat, X < 2 ^ k + x → hrs s t X (w.2 58 X)) → X25 k v x w := by
          intro b'
          induction b' with
          | zero => intro x w a c'; omega
          | succ b' ih2 =>
            intro x w x1 xb hfw hlw
            refine h25 _ _ _ _ ?_
            unfold B_Gr_readHeirs_25
            rw [pk3]
            refine ⟨⟨by omega, by omega⟩, ⟨by omega, by omega⟩, fun d => ?_, fun d => ?_⟩
            · have nx := ih (k + 1) w (by omega) (by omega) hfw (fun X hX => hlw X (by rw [Nat.pow_succ] at hX; omega))
              rw [show ((k + 1 : Nat) : Int) = (k : Int) + 1 by omega] at nx
              exact nx
            · have bm := bor_m (x := ((2 ^ k : Nat) : Int)) (y := x) (by omega) (by omega) (by omega) (by omega)
              rw [show (((2 ^ k : Nat) : Int)).toNat = 2 ^ k by omega, show ((x : Int)).toNat = x by omega] at bm
              have dis : 2 ^ k ||| x = 2 ^ k + x := by
                have := Nat.two_pow_add_eq_or_of_lt (show x < 2 ^ k by omega) 1
                rw [Nat.mul_one] at this
                exact this.symm
              have hx := hlw x (by omega)
              have bv := bor_m (x := w.2 58 x) (y := v) hx.1.1 hx.1.2 v0 v1
              refine ⟨⟨by omega, by omega⟩, ⟨bm.1.1, by omega⟩, fun s4 h4 => ?_⟩
              have ei : bor ((2 ^ k : Nat) : Int) (x : Int) = ((2 ^ k + x : Nat) : Int) := by omega
              rw [ei] at h4
              have nx := ih2 (x + 1) s4 (by omega) (by omega) (by rw [h4]; exact frm_tr hfw (frm_A _ _ _ (by decide))) (fun X hX => by
                rw [h4, sA_s]
                by_cases z : X = 2 ^ k + x
                · rw [if_pos (by rw [z])]
                  refine ⟨bv.1, fun q => ?_⟩
                  rw [bv.2, Nat.testBit_or, hx.2 q, hv q, z, ← dis, Bool.eq_iff_iff, Bool.or_eq_true, nb_iff, nb_iff]
                  constructor
                  · rintro (⟨a, a1, a2, a3⟩ | a)
                    · exact ⟨a, a1, by rw [Nat.testBit_or, a2, Bool.or_true], a3⟩
                    · exact ⟨k, by omega, by rw [Nat.testBit_or, Nat.testBit_two_pow_self, Bool.true_or], a⟩
                  · rintro ⟨a, a1, a2, a3⟩
                    rw [Nat.testBit_or, Nat.testBit_two_pow, Bool.or_eq_true, decide_eq_true_eq] at a2
                    rcases a2 with a2 | a2
                    · rw [← a2] at a3; exact Or.inr a3
                    · exact Or.inl ⟨a, a1, a2, a3⟩
                · rw [if_neg (by omega)]; exact hlw X (by omega))
              rw [show ((x + 1 : Nat) : Int) = (x : Int) + 1 by omega] at nx
              exact nx
        exact l25 (2 ^ k + 1) 0 u (by omega) (by omega) hfu (fun X hX => hlo X (by omega))
  refine l9 ((s.1 25).toNat + 1) 0 s1 (by omega) (by omega) (by rw [h1]; exact frm_A _ _ _ (by decide)) (fun X hX => ?_)
  have : X = 0 := by
    have : (2 : Nat) ^ 0 = 1 := rfl
    omega
  subst this
  rw [h1, sA_s, if_pos (show ((0 : Nat) : Int) = 0 from rfl)]
  refine ⟨by decide, fun q => ?_⟩
  rw [show (0 : Int).toNat = 0 from rfl, Nat.zero_testBit]
  cases hq : nb (s.1 25).toNat (aOf (gGet t) (fOne t) (s.1 27).toNat) (Nat.testBit 0) q
  · rfl
  · obtain ⟨a, a1, a2, a3⟩ := nb_iff.mp hq
    rw [Nat.zero_testBit] at a2
    exact absurd a2 (by decide)
theorem Gr_shortage_ok {n S bar : Int} {s t : SS} {P : Int → Int} {Q : Int → SS → Prop} (h : iGrv n s) (hr : rdy s P t) (S0 : 0 ≤ S) (S1 : S.toNat < 2 ^ (s.1 25).toNat) (b0 : 0 ≤ bar) (b1 : bar < 1024) (hk : ∀ (L : Nat) u, frm [] [58] t u → L < 256 → Best (pH (gGet t) (fOne t) (s.1 27).toNat (s.1 25).toNat bar.toNat.testBit S.toNat) (2 ^ (s.1 25).toNat) L → Q L u) : Sp_Gr_shortage S bar t Q := by
  have g1 := h.1
  have g2 := h.2.1
  obtain ⟨r1, r2, r3, r4⟩ := id hr
  obtain ⟨pn1, pn2, pn3⟩ := p2n g1.2.1 g1.2.2
  intro X9 X63 h9 h63
  refine Gr_readHeirs_ok h hr (fun u hu hH => ?_)
  have u25 : u.1 25 = s.1 25 := by rw [hu.1 25 rfl, r1]
  have key : ∀ (b : Nat) (X L : Nat), 1 ≤ X → X ≤ 2 ^ (s.1 25).toNat → 2 ^ (s.1 25).toNat - X < b → L < X → Best (pH (gGet t) (fOne t) (s.1 27).toNat (s.1 25).toNat bar.toNat.testBit S.toNat) X L → X9 S bar L X u := by
    intro b
    induction b with
    | zero => intro X L a c d; omega
    | succ b ih =>
      intro X L X1 X2 Xb LX hB
      refine h9 _ _ _ _ _ ?_
      unfold B_Gr_shortage_9
      rw [u25, pn3]
      refine ⟨⟨by omega, by omega⟩, ⟨by omega, by omega⟩, fun c => ?_, fun c => ?_⟩
      · rw [show X = 2 ^ (s.1 25).toNat by omega] at hB
        exact hk L u hu (by omega) hB
      · have so := sub_ok (x := X) (y := S) (by omega) (by omega) S0 (by omega)
        have nb' := not_b (x := X) (y := S) (by omega) (by omega) S0 (by omega)
        rw [show ((X : Int)).toNat = X by omega] at so
        have nxt : ∀ L' : Nat, L' < X + 1 → Best (pH (gGet t) (fOne t) (s.1 27).toNat (s.1 25).toNat bar.toNat.testBit S.toNat) (X + 1) L' → X9 S bar L' ((X : Int) + 1) u := fun L' l1 l2 => by
          have := ih (X + 1) L' (by omega) (by omega) (by omega) l1 l2
          rw [show ((X + 1 : Nat) : Int) = (X : Int) + 1 by omega] at this
          exact this
        refine ⟨⟨by omega, by omega⟩, fun d => ?_, fun d => nxt L (by omega) (Best_no hB (fun q => d (so.mpr q.1)))⟩
        have hsub := so.mp d
        have hX := hH X (by omega)
        have hx1 : 0 ≤ u.2 58 X ∧ u.2 58 X < 1024 := hX.1
        have nb2 := not_b (x := u.2 58 X) (y := bar) hX.1.1 (by omega) b0 (by omega)
        have pX : popN X = cnB X.testBit (s.1 25).toNat := pop_cnB (by omega) (by omega)
        have pR : popN (bnd (u.2 58 X) (bxr bar (-1))).toNat = cnB (fun q => nb (s.1 25).toNat (aOf (gGet t) (fOne t) (s.1 27).toNat) X.testBit q && !bar.toNat.testBit q) 10 := by
          rw [pop_cnB (n := 10) (by omega) (by decide)]
          refine cnB_c (fun q _ => ?_)
          rw [not_tb hX.1.1 (by omega) b0 (by omega), hX.2 q]
        refine Jl_bitCount_ok (by omega) (by omega) ⟨⟨by omega, by omega⟩, Jl_bitCount_ok nb2.1 (by omega) ?_⟩
        rw [pR, show ((X : Int)).toNat = X by omega]
        have c1 := popN_le (n := X) (by omega)
        have c2 := popN_le (n := (bnd (u.2 58 X) (bxr bar (-1))).toNat) (by omega)
        rw [pR] at c2
        refine ⟨⟨by omega, by omega⟩, ⟨by omega, by omega⟩, fun e => ?_, fun e => ?_⟩
        · refine h63 _ _ _ _ _ _ _ ⟨by decide, fun _ => nxt L (by omega) (Best_no hB (fun q => ?_)), fun q => absurd rfl q⟩
          have := q.2
          unfold viol at this
          omega
        · have hp : pH (gGet t) (fOne t) (s.1 27).toNat (s.1 25).toNat bar.toNat.testBit S.toNat X := ⟨hsub, by unfold viol; omega⟩
          refine h63 _ _ _ _ _ _ _ ⟨by decide, fun q => absurd q (by decide), fun _ => ⟨⟨by omega, by omega⟩, fun f => nxt X (by omega) (Best_take hB X1 hp (Or.inl (by omega))), fun f => Jl_bitCount_ok (by omega) (by omega) ?_⟩⟩
          rw [show ((L : Int)).toNat = L by omega]
          have c3 := popN_le (n := L) (by omega)
          exact ⟨⟨by omega, by omega⟩, ⟨by omega, by omega⟩, fun y => nxt L (by omega) (Best_keep hB (by omega) (by omega)), fun y => nxt X (by omega) (Best_take hB X1 hp (Or.inr (by omega)))⟩
  exact key (2 ^ (s.1 25).toNat + 1) 1 0 (by omega) (by omega) (by omega) (by omega) (Or.inl ⟨rfl, fun X a b => by omega⟩)
end
