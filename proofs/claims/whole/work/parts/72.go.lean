section
/-! WALK: the class goes -/
def cnd (pl fi la D so : Int → Int) (R k p v : Int) : Prop := bt (pl k) p ∧ fi k ≤ v ∧ fi k ≤ la k ∧ (R = 0 ∨ rq so D R 10 p (min v (la k)))
def soV (n : Int) (so : Int → Int) : Prop := ∀ i, 0 ≤ i → i < p2 n * 10 → so i = 1000000 ∨ (0 ≤ so i ∧ so i ≤ 999)
def soW (n : Int) (pl fi la D so : Int → Int) (T x : Int) : Prop := soV n so ∧ (∀ p, 0 ≤ p → p < 10 → so p = 1000000) ∧ ∀ S p v, 1 ≤ S → S < p2 n → 0 ≤ p → p < 10 → 0 ≤ v → v ≤ 999 → (so (S * 10 + p) ≤ v ↔ ∃ R k, 0 ≤ R ∧ 0 ≤ k ∧ k < n ∧ ¬ bt R k ∧ R + p2 k = S ∧ (R < T ∨ (R = T ∧ k < x)) ∧ cnd pl fi la D so R k p v)
def soF (n : Int) (pl fi la D so : Int → Int) : Prop := soV n so ∧ ∀ S p v, 1 ≤ S → S < p2 n → 0 ≤ p → p < 10 → 0 ≤ v → v ≤ 999 → (so (S * 10 + p) ≤ v ↔ ∃ R k, 0 ≤ R ∧ 0 ≤ k ∧ k < n ∧ ¬ bt R k ∧ R + p2 k = S ∧ cnd pl fi la D so R k p v)
theorem soW_x {n : Int} {pl fi la D so : Int → Int} {T x T' x' : Int} (h : soW n pl fi la D so T x) (e : ∀ R k p v, 0 ≤ R → 0 ≤ k → k < n → R + p2 k < p2 n → 0 ≤ p → p < 10 → 0 ≤ v → v ≤ 999 → ¬ bt R k → cnd pl fi la D so R k p v → ((R < T ∨ (R = T ∧ k < x)) ↔ (R < T' ∨ (R = T' ∧ k < x')))) : soW n pl fi la D so T' x' := by
  refine ⟨h.1, h.2.1, fun S p v S0 S1 p0 p1 v0 v1 => ?_⟩
  rw [h.2.2 S p v S0 S1 p0 p1 v0 v1]
  constructor
  · rintro ⟨R, k, a, b, c, d, f, g, i⟩
    exact ⟨R, k, a, b, c, d, f, (e R k p v a b c (by omega) p0 p1 v0 v1 d i).mp g, i⟩
  · rintro ⟨R, k, a, b, c, d, f, g, i⟩
    exact ⟨R, k, a, b, c, d, f, (e R k p v a b c (by omega) p0 p1 v0 v1 d i).mpr g, i⟩
theorem soW_f {n : Int} {pl fi la D so : Int → Int} {T : Int} (h : soW n pl fi la D so T 0) (hT : p2 n - 1 ≤ T) : soF n pl fi la D so := by
  refine ⟨h.1, fun S p v S0 S1 p0 p1 v0 v1 => ?_⟩
  rw [h.2.2 S p v S0 S1 p0 p1 v0 v1]
  constructor
  · rintro ⟨R, k, a, b, c, d, f, g, i⟩
    exact ⟨R, k, a, b, c, d, f, i⟩
  · rintro ⟨R, k, a, b, c, d, f, i⟩
    have := p2_pos k
    exact ⟨R, k, a, b, c, d, f, Or.inl (by omega), i⟩
theorem rq_c {so so' D : Int → Int} {T m p x : Int} (h : ∀ q, 0 ≤ q → q < m → so (T * 10 + q) = so' (T * 10 + q)) : rq so D T m p x ↔ rq so' D T m p x := by
  constructor
  · rintro ⟨q, a, b, c⟩
    exact ⟨q, a, b, by rw [← h q a b]; exact c⟩
  · rintro ⟨q, a, b, c⟩
    exact ⟨q, a, b, by rw [h q a b]; exact c⟩
theorem soW_step {n : Int} {pl fi la D so so' re : Int → Int} {T x : Int} (n1 : n ≤ 9) (h : soW n pl fi la D so T x) (T0 : 0 ≤ T) (T1 : T < p2 n) (x0 : 0 ≤ x) (x1 : x < n) (hb : ¬ bt T x) (hi : 0 ≤ fi x ∧ fi x ≤ 999 ∧ 0 ≤ la x ∧ la x ≤ 999) (hr : rcW so D T re)
    (hO : ∀ i, (∀ p, 0 ≤ p → p < 10 → i ≠ (T + p2 x) * 10 + p) → so' i = so i) (hN : ∀ p, 0 ≤ p → p < 10 → so' ((T + p2 x) * 10 + p) = if bt (pl x) p ∧ max (fi x) (re p) ≤ la x then min (max (fi x) (re p)) (so ((T + p2 x) * 10 + p)) else so ((T + p2 x) * 10 + p)) : soW n pl fi la D so' T (x + 1) := by
  have lt := bt_lt n1 x0 x1 T0 T1 hb
  have pp := p2_pos x
  have old : ∀ R q, R ≤ T → 0 ≤ q → q < 10 → so' (R * 10 + q) = so (R * 10 + q) := fun R q hR q0 q1 => hO _ (fun p p0 p1 => by omega)
  have cc : ∀ R k p v, R ≤ T → (cnd pl fi la D so' R k p v ↔ cnd pl fi la D so R k p v) := fun R k p v hR => by
    unfold cnd
    rw [rq_c (so := so') (so' := so) (fun q q0 q1 => old R q hR q0 q1)]
  refine ⟨fun i i0 i1 => ?_, fun p p0 p1 => ?_, fun S p v S0 S1 p0 p1 v0 v1 => ?_⟩
  · by_cases c : (T + p2 x) * 10 ≤ i ∧ i < (T + p2 x) * 10 + 10
    · have := hN (i - (T + p2 x) * 10) (by omega) (by omega)
      rw [show (T + p2 x) * 10 + (i - (T + p2 x) * 10) = i by omega] at this
      have hv := h.1 i i0 i1
      have rp := (hr (i - (T + p2 x) * 10) (by omega) (by omega)).1
      rw [this]
      split
      · rename_i z
        have := z.2
        right
        rcases hv with y | y
        · rw [y]; omega
        · omega
      · exact hv
    · rw [hO i (fun p p0 p1 => by omega)]
      exact h.1 i i0 i1
  · rw [hO p (fun q q0 q1 => by omega)]
    exact h.2.1 p p0 p1
  · have hS := h.2.2 S p v S0 S1 p0 p1 v0 v1
    by_cases e : S = T + p2 x
    · have hn := hN p p0 p1
      have rp := hr p p0 p1
      have rv := rp.2 (min v (la x)) (by omega) (by omega)
      have key : so' (S * 10 + p) ≤ v ↔ (so (S * 10 + p) ≤ v ∨ cnd pl fi la D so T x p v) := by
        rw [e, hn]
        unfold cnd
        rw [← rv]
        by_cases c : bt (pl x) p
        · by_cases g : max (fi x) (re p) ≤ la x
          · rw [if_pos ⟨c, g⟩]
            constructor
            · intro z
              by_cases y : so ((T + p2 x) * 10 + p) ≤ v
              · exact Or.inl y
              · exact Or.inr ⟨c, by omega, by omega, by omega⟩
            · rintro (z | ⟨z1, z2, z3, z4⟩)
              · omega
              · omega
          · rw [if_neg (fun z => g z.2)]
            exact ⟨Or.inl, fun z => z.elim id (fun ⟨z1, z2, z3, z4⟩ => by omega)⟩
        · rw [if_neg (fun z => c z.1)]
          exact ⟨Or.inl, fun z => z.elim id (fun ⟨z1, z2, z3, z4⟩ => absurd z1 c)⟩
      rw [key, hS]
      constructor
      · rintro (⟨R, k, a, b, c, d, f, g, i⟩ | z)
        · exact ⟨R, k, a, b, c, d, f, by omega, (cc R k p v (by omega)).mpr i⟩
        · exact ⟨T, x, T0, x0, x1, hb, e.symm, Or.inr ⟨rfl, by omega⟩, (cc T x p v (Int.le_refl _)).mpr z⟩
      · rintro ⟨R, k, a, b, c, d, f, g, i⟩
        have i2 := (cc R k p v (by omega)).mp i
        by_cases y : R = T ∧ k = x
        · rw [y.1, y.2] at i2
          exact Or.inr i2
        · exact Or.inl ⟨R, k, a, b, c, d, f, by omega, i2⟩
    · rw [hO _ (fun q q0 q1 => by omega), hS]
      constructor
      · rintro ⟨R, k, a, b, c, d, f, g, i⟩
        exact ⟨R, k, a, b, c, d, f, by omega, (cc R k p v (by omega)).mpr i⟩
      · rintro ⟨R, k, a, b, c, d, f, g, i⟩
        refine ⟨R, k, a, b, c, d, f, ?_, (cc R k p v (by omega)).mp i⟩
        by_cases y : R = T ∧ k = x
        · rw [y.1, y.2] at f
          exact absurd f.symm e
        · omega
def itm (n : Int) (pl fi la : Int → Int) : Prop := ∀ k, 0 ≤ k → k < n → (0 ≤ pl k ∧ pl k ≤ 1023) ∧ (0 ≤ fi k ∧ fi k ≤ 999) ∧ (0 ≤ la k ∧ la k ≤ 999)
def dOk (D : Int → Int) : Prop := ∀ q p, 0 ≤ q → q < 10 → 0 ≤ p → p < 10 → 0 ≤ D (q * 10 + p) ∧ D (q * 10 + p) ≤ 1000000
theorem Wa_go_ok {n : Int} {s : SS} {Q : SS → Prop} (hn : s.1 8 = n) (n0 : 0 ≤ n) (n1 : n ≤ 9) (hi : itm n (s.2 28) (s.2 29) (s.2 30)) (hD : dOk (s.2 4)) (hk : ∀ s', frm [] [31, 32] s s' → soF n (s.2 28) (s.2 29) (s.2 30) (s.2 4) (s'.2 31) → Q s') : Sp_Wa_go s Q := by
  intro X2 X31 X57 h2 h31 h57
  have p9 := p2_9 n0 n1
  have pn := p2_pos n
  have en : shl 1 n = p2 n := p2_shl n0 (by omega)
  have l31 : ∀ (t : Nat) (T : Int) (s1 : SS), 0 ≤ T → T ≤ p2 n - 1 → p2 n - T < t → frm [] [31, 32] s s1 → soW n (s.2 28) (s.2 29) (s.2 30) (s.2 4) (s1.2 31) T 0 → X31 T s1 := by
    intro t
    induction t with
    | zero => intro T s1 a b c; omega
    | succ t ih =>
      intro T s1 T0 T1 ht hf hI
      have e8 : s1.1 8 = n := by rw [hf.1 8 rfl, hn]
      refine h31 _ _ ?_
      show rng T ∧ rng (shl 1 (s1.1 8) - 1) ∧ _
      rw [e8, en]
      refine ⟨⟨by omega, by omega⟩, ⟨by omega, by omega⟩, fun d => hk s1 hf (soW_f hI (by omega)), fun d => ?_⟩
      have sv : ∀ p, 0 ≤ p → p < 10 → s1.2 31 (T * 10 + p) = 1000000 ∨ (0 ≤ s1.2 31 (T * 10 + p) ∧ s1.2 31 (T * 10 + p) ≤ 999) := fun p p0 p1 => hI.1 _ (by omega) (by omega)
      refine isB_b (Wa_isWalkable_B T0 (by omega) (fun p p0 p1 => by rcases sv p p0 p1 with z | z; (rw [z]; decide); exact ⟨by omega, by omega⟩)) (fun c => ?_) (fun c => ?_)
      · refine ih (T + 1) s1 (by omega) (by omega) (by omega) hf (soW_x hI (fun R k p v R0 k0 k1 hR p0 p1 v0 v1 hb hc => ?_))
        have : R ≠ T := by
          intro z
          rw [z] at hc
          rcases hc.2.2.2 with y | ⟨q, q0, q1, q2⟩
          · exact c (Or.inl y)
          · rcases sv q q0 q1 with w | w
            · have := (hD q p q0 q1 p0 p1).1
              omega
            · exact c (Or.inr ⟨q, q0, q1, by omega⟩)
        omega
      · refine Wa_readReach_ok T0 (by omega) (fun p p0 p1 => by rcases sv p p0 p1 with z | z <;> omega) (by rw [hf.2 4 rfl]; exact hD) (fun s2 hf2 hr => ?_)
        have f2 : frm [] [31, 32] s s2 := frm_tr hf (frm_mono hf2 (by decide) (by decide))
        have e31 : s2.2 31 = s1.2 31 := hf2.2 31 rfl
        have l57 : ∀ (u : Nat) (x : Int) (s3 : SS), 0 ≤ x → x ≤ n → n - x < u → frm [] [31, 32] s s3 → soW n (s.2 28) (s.2 29) (s.2 30) (s.2 4) (s3.2 31) T x → rcW (s3.2 31) (s.2 4) T (s3.2 32) → X57 T x s3 := by
          intro u
          induction u with
          | zero => intro x s3 a b c; omega
          | succ u ih2 =>
            intro x s3 x0 x1 hu hf3 hJ hrc
            have e83 : s3.1 8 = n := by rw [hf3.1 8 rfl, hn]
            refine h57 _ _ _ ?_
            unfold B_Wa_go_57
            rw [e83]
            have b01 := fun (d : x < n) => bt_01 (x := T) (k := x) T0 (by omega) x0 (by omega)
            refine ⟨⟨by omega, by omega⟩, ⟨by omega, by omega⟩, fun d2 => ?_, fun d2 => ⟨by have := b01 d2; exact ⟨by omega, by omega⟩, fun c2 => ?_, fun c2 => ?_⟩⟩
            · refine ih (T + 1) s3 (by omega) (by omega) (by omega) hf3 (soW_x hJ (fun R k p v R0 k0 k1 hR p0 p1 v0 v1 hb hc => by omega))
            · refine ih2 (x + 1) s3 (by omega) (by omega) (by omega) hf3 (soW_x hJ (fun R k p v R0 k0 k1 hR p0 p1 v0 v1 hb hc => ?_)) hrc
              have : ¬ (R = T ∧ k = x) := by
                rintro ⟨z1, z2⟩
                rw [z1, z2] at hb
                exact hb (by unfold bt; have := b01 d2; omega)
              omega
            · have hb : ¬ bt T x := by unfold bt; omega
              have lt := bt_lt n1 x0 d2 T0 (by omega) hb
              have pp := p2_pos x
              rw [((bt_in (x := T) (k := x) x0 (by omega) T0 (by omega)).2 hb).1]
              have ix := hi x x0 d2
              have g28 : s3.2 28 = s.2 28 := hf3.2 28 rfl
              have g29 : s3.2 29 = s.2 29 := hf3.2 29 rfl
              have g30 : s3.2 30 = s.2 30 := hf3.2 30 rfl
              refine Wa_stayAt_ok x0 (by omega) (by omega) (by omega) (by rw [g28]; exact ix.1) (by rw [g29]; exact ix.2.1) (by rw [g30]; exact ix.2.2) (fun p p0 p1 => (hrc p p0 p1).1) (fun p p0 p1 => ?_) (fun s4 hf4 hO hN => ?_)
              · have := hJ.1 ((T + p2 x) * 10 + p) (by omega) (by omega)
                rcases this with z | z
                · rw [z]; decide
                · exact ⟨by omega, by omega⟩
              · refine ih2 (x + 1) s4 (by omega) (by omega) (by omega) (frm_tr hf3 (frm_mono hf4 (by decide) (by decide))) ?_ ?_
                · refine soW_step n1 hJ T0 (by omega) x0 d2 hb ⟨by omega, by omega, by omega, by omega⟩ hrc hO (fun p p0 p1 => ?_)
                  rw [hN p p0 p1]
                  unfold stv
                  rw [g28, g29, g30]
                · rw [hf4.2 32 rfl]
                  intro p p0 p1
                  refine ⟨(hrc p p0 p1).1, fun y y0 y1 => ?_⟩
                  rw [(hrc p p0 p1).2 y y0 y1]
                  rw [rq_c (so := s3.2 31) (so' := s4.2 31) (fun q q0 q1 => (hO _ (fun r r0 r1 => by omega)).symm)]
        refine l57 (n.toNat + 1) 0 s2 (by omega) n0 (by omega) f2 (by rw [e31]; exact hI) (by rw [e31, ← hf.2 4 rfl]; exact hr)
  have l2 : ∀ (t : Nat) (i : Int) (s1 : SS), 0 ≤ i → i ≤ p2 n * 10 → p2 n * 10 - i < t → frm [] [31, 32] s s1 → (∀ j, 0 ≤ j → j < i → s1.2 31 j = 1000000) → X2 i s1 := by
    intro t
    induction t with
    | zero => intro T s1 a b c; omega
    | succ t ih =>
      intro i s1 i0 i1 ht hf hI
      have e8 : s1.1 8 = n := by rw [hf.1 8 rfl, hn]
      refine h2 _ _ ?_
      unfold B_Wa_go_2
      rw [e8, en]
      refine ⟨⟨by omega, by omega⟩, ⟨by omega, by omega⟩, fun d => ?_, fun d => ⟨by omega, fun s2 e2 => ih (i + 1) s2 (by omega) (by omega) (by omega) (by rw [e2]; exact frm_tr hf (frm_A _ _ _ (by decide))) (fun j j0 j1 => ?_)⟩⟩
      · refine l31 (p2 n + 1).toNat 0 s1 (by omega) (by omega) (by omega) hf ⟨fun j j0 j1 => Or.inl (hI j j0 (by omega)), fun p p0 p1 => hI p p0 (by omega), fun S p v S0 S1 p0 p1 v0 v1 => ?_⟩
        rw [hI _ (by omega) (by omega)]
        constructor
        · intro z; omega
        · rintro ⟨R, k, a, b, c, d, f, g, i⟩
          omega
      · rw [e2, sA_s]
        split
        · rfl
        · exact hI j j0 (by omega)
  exact l2 (p2 n * 10 + 1).toNat 0 s (by omega) (by omega) (by omega) (frm_rf _ _ _) (fun j a b => by omega)
end
