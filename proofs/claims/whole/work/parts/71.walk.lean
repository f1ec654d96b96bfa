section
/-! WALK: the class, its pieces -/
theorem Wa_isWalkable_B {x : Int} {s : SS} (x0 : 0 ≤ x) (x1 : x < 512) (h : ∀ p, 0 ≤ p → p < 10 → rng (s.2 31 (x * 10 + p))) : isB (x = 0 ∨ ∃ p, 0 ≤ p ∧ p < 10 ∧ s.2 31 (x * 10 + p) < 1000000) s (Sp_Wa_isWalkable x s) := by
  intro K h1 h0 X8 h8
  have loop : ∀ (t : Nat) (p : Int), 0 ≤ p → p ≤ 10 → 10 - p < t → x ≠ 0 → (∀ q, 0 ≤ q → q < p → 1000000 ≤ s.2 31 (x * 10 + q)) → X8 x p s := by
    intro t
    induction t with
    | zero => intro p a b c; omega
    | succ t ih =>
      intro p p0 p1 ht xn hI
      refine h8 _ _ _ ⟨⟨by omega, by omega⟩, fun d => h0 ?_, fun d => ⟨by omega, h p p0 d, fun c => ih (p + 1) (by omega) (by omega) (by omega) xn (fun q q0 q1 => ?_), fun c => h1 (Or.inr ⟨p, p0, d, c⟩)⟩⟩
      · rintro (z | ⟨q, q0, q1, q2⟩)
        · exact xn z
        · have := hI q q0 (by omega); omega
      · by_cases e : q = p
        · rw [e]; exact c
        · exact hI q q0 (by omega)
  exact ⟨⟨by omega, by omega⟩, fun c => loop 11 0 (by omega) (by omega) (by omega) c (fun q a b => by omega), fun c => h1 (Or.inl c)⟩
def rq (so D : Int → Int) (T m p x : Int) : Prop := ∃ q, 0 ≤ q ∧ q < m ∧ so (T * 10 + q) + D (q * 10 + p) ≤ x
def rcW (so D : Int → Int) (T : Int) (re : Int → Int) : Prop := ∀ p, 0 ≤ p → p < 10 → (0 ≤ re p ∧ re p ≤ 1000000) ∧ ∀ x, 0 ≤ x → x ≤ 999 → (re p ≤ x ↔ (T = 0 ∨ rq so D T 10 p x))
theorem Wa_readReach_ok {T : Int} {s : SS} {Q : SS → Prop} (T0 : 0 ≤ T) (T1 : T < 512) (hso : ∀ p, 0 ≤ p → p < 10 → 0 ≤ s.2 31 (T * 10 + p) ∧ s.2 31 (T * 10 + p) ≤ 1000000) (hD : ∀ q p, 0 ≤ q → q < 10 → 0 ≤ p → p < 10 → 0 ≤ s.2 4 (q * 10 + p) ∧ s.2 4 (q * 10 + p) ≤ 1000000) (hk : ∀ s', frm [] [32] s s' → rcW (s.2 31) (s.2 4) T (s'.2 32) → Q s') : Sp_Wa_readReach T s Q := by
  intro X2 X37 X67 h2 h37 h67
  have l37 : ∀ (t : Nat) (q : Int) (s1 : SS), 0 ≤ q → q ≤ 10 → 10 - q < t → T ≠ 0 → frm [] [32] s s1 → (∀ p, 0 ≤ p → p < 10 → (0 ≤ s1.2 32 p ∧ s1.2 32 p ≤ 1000000) ∧ ∀ x, 0 ≤ x → x ≤ 999 → (s1.2 32 p ≤ x ↔ rq (s.2 31) (s.2 4) T q p x)) → X37 T q s1 := by
    intro t
    induction t with
    | zero => intro q s1 a b c; omega
    | succ t ih =>
      intro q s1 q0 q1 ht Tn hf hI
      have e31 : s1.2 31 = s.2 31 := hf.2 31 rfl
      refine h37 _ _ _ ⟨⟨by omega, by omega⟩, fun d => hk s1 hf (fun p p0 p1 => ⟨(hI p p0 p1).1, fun x x0 x1 => ?_⟩), fun d => ?_⟩
      · rw [(hI p p0 p1).2 x x0 x1, show q = 10 by omega]
        exact ⟨Or.inr, fun z => z.elim (fun y => absurd y Tn) id⟩
      · rw [e31]
        have b := hso q q0 d
        refine ⟨by omega, ⟨by omega, by omega⟩, fun c => ?_, fun c => ih (q + 1) s1 (by omega) (by omega) (by omega) Tn hf (fun p p0 p1 => ⟨(hI p p0 p1).1, fun x x0 x1 => ?_⟩)⟩
        · have l67 : ∀ (u : Nat) (r : Int) (s2 : SS), 0 ≤ r → r ≤ 10 → 10 - r < u → frm [] [32] s s2 → (∀ p, 0 ≤ p → p < 10 → (0 ≤ s2.2 32 p ∧ s2.2 32 p ≤ 1000000) ∧ ∀ x, 0 ≤ x → x ≤ 999 → (s2.2 32 p ≤ x ↔ rq (s.2 31) (s.2 4) T (if p < r then q + 1 else q) p x)) → X67 T q (s.2 31 (T * 10 + q)) r s2 := by
            intro u
            induction u with
            | zero => intro r s2 a b c; omega
            | succ u ih2 =>
              intro r s2 r0 r1 hu hf2 hJ
              have e4 : s2.2 4 = s.2 4 := hf2.2 4 rfl
              refine h67 _ _ _ _ _ ⟨⟨by omega, by omega⟩, fun d2 => ih (q + 1) s2 (by omega) (by omega) (by omega) Tn hf2 (fun p p0 p1 => ?_), fun d2 => ⟨by omega, by omega, ?_⟩⟩
              · have := hJ p p0 p1
                rw [if_pos (by omega)] at this
                exact this
              · rw [e4]
                have dd := hD q r q0 d r0 d2
                have jj := hJ r r0 d2
                rw [if_neg (by omega)] at jj
                refine ⟨⟨by omega, by omega⟩, ⟨by omega, by omega⟩, by omega, fun s5 h5 => ih2 (r + 1) s5 (by omega) (by omega) (by omega) (by rw [h5]; exact frm_tr hf2 (frm_A _ _ _ (by decide))) (fun p p0 p1 => ?_)⟩
                rw [h5, sA_u]
                by_cases e : p = r
                · rw [e, updF_s, if_pos (by omega)]
                  refine ⟨by omega, fun x x0 x1 => ?_⟩
                  have j2 := jj.2 x x0 x1
                  constructor
                  · intro z
                    by_cases y : s2.2 32 r ≤ x
                    · obtain ⟨a, a0, a1, a2⟩ := j2.mp y
                      exact ⟨a, a0, by omega, a2⟩
                    · exact ⟨q, q0, by omega, by omega⟩
                  · rintro ⟨a, a0, a1, a2⟩
                    by_cases y : a = q
                    · rw [y] at a2; omega
                    · have := j2.mpr ⟨a, a0, by omega, a2⟩
                      omega
                · rw [updF_n _ _ e]
                  have := hJ p p0 p1
                  by_cases y : p < r
                  · rw [if_pos y] at this
                    rw [if_pos (by omega)]
                    exact this
                  · rw [if_neg y] at this
                    rw [if_neg (by omega)]
                    exact this
          refine l67 11 0 s1 (by omega) (by omega) (by omega) hf (fun p p0 p1 => ?_)
          rw [if_neg (by omega)]
          exact hI p p0 p1
        · rw [(hI p p0 p1).2 x x0 x1]
          constructor
          · rintro ⟨a, a0, a1, a2⟩
            exact ⟨a, a0, by omega, a2⟩
          · rintro ⟨a, a0, a1, a2⟩
            by_cases y : a = q
            · rw [y] at a2
              have := hD q p q0 d p0 p1
              omega
            · exact ⟨a, a0, by omega, a2⟩
  have l2 : ∀ (t : Nat) (p : Int) (s1 : SS), 0 ≤ p → p ≤ 10 → 10 - p < t → frm [] [32] s s1 → (∀ r, 0 ≤ r → r < p → s1.2 32 r = if T = 0 then 0 else 1000000) → X2 T p s1 := by
    intro t
    induction t with
    | zero => intro p s1 a b c; omega
    | succ t ih =>
      intro p s1 p0 p1 ht hf hI
      have rT : rng T := ⟨by omega, by omega⟩
      refine h2 _ _ _ ⟨⟨by omega, by omega⟩, fun d => ⟨rT, fun c => l37 11 0 s1 (by omega) (by omega) (by omega) c hf (fun r r0 r1 => ?_), fun c => hk s1 hf (fun r r0 r1 => ?_)⟩, fun d => ⟨rT, fun c => ⟨by omega, fun s2 e2 => ?_⟩, fun c => ⟨by omega, fun s2 e2 => ?_⟩⟩⟩
      · rw [hI r r0 (by omega), if_neg c]
        refine ⟨by omega, fun x x0 x1 => ⟨fun z => by omega, ?_⟩⟩
        rintro ⟨a, a0, a1, a2⟩
        omega
      · rw [hI r r0 (by omega), if_pos c]
        exact ⟨by omega, fun x x0 x1 => ⟨fun _ => Or.inl c, fun _ => x0⟩⟩
      · refine ih (p + 1) s2 (by omega) (by omega) (by omega) (by rw [e2]; exact frm_tr hf (frm_A _ _ _ (by decide))) (fun r r0 r1 => ?_)
        rw [e2, sA_s, if_neg c]
        split
        · rfl
        · rw [hI r r0 (by omega), if_neg c]
      · refine ih (p + 1) s2 (by omega) (by omega) (by omega) (by rw [e2]; exact frm_tr hf (frm_A _ _ _ (by decide))) (fun r r0 r1 => ?_)
        rw [e2, sA_s, if_pos c]
        split
        · rfl
        · rw [hI r r0 (by omega), if_pos c]
  exact l2 11 0 s (by omega) (by omega) (by omega) (frm_rf _ _ _) (fun r a b => by omega)
def stv (s : SS) (k b p : Int) : Int := if bt (s.2 28 k) p ∧ max (s.2 29 k) (s.2 32 p) ≤ s.2 30 k then min (max (s.2 29 k) (s.2 32 p)) (s.2 31 (b + p)) else s.2 31 (b + p)
theorem Wa_stayAt_ok {k b : Int} {s : SS} {Q : SS → Prop} (k0 : 0 ≤ k) (k1 : k < 9) (b0 : 0 ≤ b) (b1 : b + 9 < 5120) (hp : 0 ≤ s.2 28 k ∧ s.2 28 k ≤ 1023) (hf1 : 0 ≤ s.2 29 k ∧ s.2 29 k ≤ 999) (hl : 0 ≤ s.2 30 k ∧ s.2 30 k ≤ 999) (hr : ∀ p, 0 ≤ p → p < 10 → 0 ≤ s.2 32 p ∧ s.2 32 p ≤ 1000000) (hs : ∀ p, 0 ≤ p → p < 10 → rng (s.2 31 (b + p))) (hk : ∀ s', frm [] [31] s s' → (∀ i, (∀ p, 0 ≤ p → p < 10 → i ≠ b + p) → s'.2 31 i = s.2 31 i) → (∀ p, 0 ≤ p → p < 10 → s'.2 31 (b + p) = stv s k b p) → Q s') : Sp_Wa_stayAt k b s Q := by
  intro X2 h2
  have loop : ∀ (t : Nat) (p : Int) (s1 : SS), 0 ≤ p → p ≤ 10 → 10 - p < t → frm [] [31] s s1 → (∀ i, (∀ r, 0 ≤ r → r < p → i ≠ b + r) → s1.2 31 i = s.2 31 i) → (∀ r, 0 ≤ r → r < p → s1.2 31 (b + r) = stv s k b r) → X2 k b p s1 := by
    intro t
    induction t with
    | zero => intro p s1 a b c; omega
    | succ t ih =>
      intro p s1 p0 p1 ht hf hO hI
      have e28 : s1.2 28 = s.2 28 := hf.2 28 rfl
      have e29 : s1.2 29 = s.2 29 := hf.2 29 rfl
      have e30 : s1.2 30 = s.2 30 := hf.2 30 rfl
      have e32 : s1.2 32 = s.2 32 := hf.2 32 rfl
      refine h2 _ _ _ _ ⟨⟨by omega, by omega⟩, fun d => hk s1 hf (fun i hi => hO i (fun r r0 r1 => hi r r0 (by omega))) (fun r r0 r1 => hI r r0 (by omega)), fun d => ?_⟩
      have e31 : s1.2 31 (b + p) = s.2 31 (b + p) := hO _ (fun r r0 r1 => by omega)
      have same : stv s k b p = s.2 31 (b + p) → X2 k b (p + 1) s1 := fun hv => ih (p + 1) s1 (by omega) (by omega) (by omega) hf (fun i hi => hO i (fun r r0 r1 => hi r r0 (by omega))) (fun r r0 r1 => by
        by_cases e : r = p
        · rw [e, e31, hv]
        · exact hI r r0 (by omega))
      have b01 := bt_01 (x := s.2 28 k) (k := p) hp.1 (by omega) p0 (by omega)
      have hrp := hr p p0 d
      have hsp := hs p p0 d
      rw [e28, e29, e30, e32, e31]
      have nb : ∀ {c : Prop}, ¬ bt (s.2 28 k) p → ¬ (bt (s.2 28 k) p ∧ c) := fun a z => a z.1
      refine ⟨by omega, ⟨by omega, by omega⟩, fun c => ⟨by omega, by omega, ⟨by omega, by omega⟩, ⟨by omega, by omega⟩, by omega, ⟨by omega, by omega⟩, ⟨by omega, by omega⟩, fun g => same ?_, fun g => ⟨by omega, ⟨by omega, by omega⟩, hsp, fun y => same ?_, fun y => ⟨by omega, fun s2 h2' => ?_⟩⟩⟩, fun c => same ?_⟩
      · unfold stv
        rw [if_neg (fun z => by have := z.2; omega)]
      · unfold stv
        split
        · omega
        · rfl
      · refine ih (p + 1) s2 (by omega) (by omega) (by omega) (by rw [h2']; exact frm_tr hf (frm_A _ _ _ (by decide))) (fun i hi => ?_) (fun r r0 r1 => ?_)
        · rw [h2', sA_s, if_neg (hi p p0 (by omega))]
          exact hO i (fun r r0 r1 => hi r r0 (by omega))
        · rw [h2', sA_s]
          by_cases e : r = p
          · rw [e, if_pos rfl]
            unfold stv
            rw [if_pos ⟨by unfold bt; omega, g⟩]
            omega
          · rw [if_neg (by omega)]
            exact hI r r0 (by omega)
      · unfold stv
        rw [if_neg (nb (by unfold bt; omega))]
  exact loop 11 0 s (by omega) (by omega) (by omega) (frm_rf _ _ _) (fun i _ => rfl) (fun r a b => by omega)
end
