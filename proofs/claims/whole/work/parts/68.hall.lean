section
/-! GRAVES: counting, and the marriage theorem -/
def cnB (p : Nat → Bool) : Nat → Nat
  | 0 => 0
  | n + 1 => cnB p n + if p n = true then 1 else 0
theorem cnB_s (p : Nat → Bool) (n : Nat) : cnB p (n + 1) = cnB p n + if p n = true then 1 else 0 := rfl
theorem cnB_mono {p q : Nat → Bool} : ∀ n : Nat, (∀ i, i < n → p i = true → q i = true) → cnB p n ≤ cnB q n := by
  intro n
  induction n with
  | zero => intro _; exact Nat.le_refl _
  | succ n ih =>
    intro h
    have := ih (fun i hi => h i (by omega))
    have h2 := h n (by omega)
    rw [cnB_s, cnB_s]
    by_cases c : p n = true
    · rw [if_pos c, if_pos (h2 c)]; omega
    · rw [if_neg c]; omega
theorem cnB_c {p q : Nat → Bool} {n : Nat} (h : ∀ i, i < n → p i = q i) : cnB p n = cnB q n :=
  Nat.le_antisymm (cnB_mono n (fun i hi e => by rw [← h i hi]; exact e)) (cnB_mono n (fun i hi e => by rw [h i hi]; exact e))
theorem cnB_or {p q : Nat → Bool} : ∀ n : Nat, (∀ i, i < n → ¬ (p i = true ∧ q i = true)) → cnB (fun i => p i || q i) n = cnB p n + cnB q n := by
  intro n
  induction n with
  | zero => intro _; rfl
  | succ n ih =>
    intro h
    rw [cnB_s, cnB_s, cnB_s, ih (fun i hi => h i (by omega))]
    have h2 := h n (by omega)
    cases hp : p n <;> cases hq : q n
    · simp
    · simp; omega
    · simp; omega
    · exact absurd ⟨hp, hq⟩ h2
theorem cnB_sub {p q : Nat → Bool} : ∀ n : Nat, cnB (fun i => p i || q i) n ≤ cnB p n + cnB q n := by
  intro n
  induction n with
  | zero => exact Nat.le_refl _
  | succ n ih =>
    rw [cnB_s, cnB_s, cnB_s]
    cases hp : p n <;> cases hq : q n <;> simp <;> omega
theorem cnB_pos {p : Nat → Bool} : ∀ n : Nat, 0 < cnB p n ↔ ∃ i, i < n ∧ p i = true := by
  intro n
  induction n with
  | zero => exact ⟨fun h => absurd h (Nat.lt_irrefl 0), fun ⟨i, h, _⟩ => absurd h (by omega)⟩
  | succ n ih =>
    rw [cnB_s]
    constructor
    · intro h
      by_cases c : p n = true
      · exact ⟨n, by omega, c⟩
      · rw [if_neg c] at h
        obtain ⟨i, h1, h2⟩ := ih.mp (by omega)
        exact ⟨i, by omega, h2⟩
    · rintro ⟨i, h1, h2⟩
      by_cases c : i = n
      · rw [← c, if_pos h2]; omega
      · have := ih.mpr ⟨i, by omega, h2⟩; omega
theorem cnB_lt {p q : Nat → Bool} {n a : Nat} (h : ∀ i, i < n → p i = true → q i = true) (ha : a < n) (h1 : ¬ p a = true) (h2 : q a = true) : cnB p n < cnB q n := by
  have := cnB_or (p := p) (q := fun i => decide (i = a)) n (fun i _ => by
    rintro ⟨x, y⟩
    rw [decide_eq_true_eq] at y
    subst y; exact h1 x)
  have hp := (cnB_pos (p := fun i => decide (i = a)) n).mpr ⟨a, ha, by simp⟩
  have hm := cnB_mono (p := fun i => p i || decide (i = a)) (q := q) n (fun i hi e => by
    simp only [Bool.or_eq_true, decide_eq_true_eq] at e
    rcases e with e | e
    · exact h i hi e
    · rw [e]; exact h2)
  omega
theorem cnB_one {a : Nat} : ∀ n : Nat, cnB (fun i => decide (i = a)) n ≤ 1 := by
  intro n
  induction n with
  | zero => exact Nat.zero_le 1
  | succ n ih =>
    rw [cnB_s]
    by_cases c : n = a
    · have : cnB (fun i => decide (i = a)) n = 0 := by
        rcases Nat.eq_zero_or_pos (cnB (fun i => decide (i = a)) n) with z | z
        · exact z
        · obtain ⟨i, h1, h2⟩ := (cnB_pos n).mp z
          simp only [decide_eq_true_eq] at h2
          omega
      rw [this]; split <;> omega
    · rw [if_neg (by simp; exact c)]; exact ih
/-- who can be had by one of Y at least -/
def nb (n : Nat) (a : Nat → Nat → Bool) (Y : Nat → Bool) (q : Nat) : Bool := decide (0 < cnB (fun s => Y s && a s q) n)
theorem nb_iff {n : Nat} {a : Nat → Nat → Bool} {Y : Nat → Bool} {q : Nat} : nb n a Y q = true ↔ ∃ s, s < n ∧ Y s = true ∧ a s q = true := by
  unfold nb
  rw [decide_eq_true_eq, cnB_pos]
  simp only [Bool.and_eq_true]
def mtch (n B : Nat) (a : Nat → Nat → Bool) (X K : Nat → Bool) : Prop := ∃ φ : Nat → Nat, (∀ s, s < n → X s = true → a s (φ s) = true ∧ φ s < B ∧ K (φ s) = false) ∧ ∀ s t, s < n → t < n → X s = true → X t = true → s ≠ t → φ s ≠ φ t
theorem hall {n B : Nat} {a : Nat → Nat → Bool} : ∀ (t : Nat) (X K : Nat → Bool), cnB X n ≤ t → (∀ Y : Nat → Bool, (∀ i, i < n → Y i = true → X i = true) → cnB Y n ≤ cnB (fun q => nb n a Y q && !K q) B) → mtch n B a X K := by
  intro t
  induction t with
  | zero =>
    intro X K h0 _
    have no : ∀ s, s < n → ¬ X s = true := fun s hs e => by
      have := (cnB_pos n).mpr ⟨s, hs, e⟩
      omega
    exact ⟨fun _ => 0, fun s hs e => absurd e (no s hs), fun s t hs _ e => absurd e (no s hs)⟩
  | succ t ih =>
    intro X K hX hH
    by_cases he : ∃ s0, s0 < n ∧ X s0 = true
    · obtain ⟨s0, hs0, hx0⟩ := he
      by_cases ht : ∃ Y : Nat → Bool, (∀ i, i < n → Y i = true → X i = true) ∧ (∃ i, i < n ∧ Y i = true) ∧ ¬ Y s0 = true ∧ cnB (fun q => nb n a Y q && !K q) B ≤ cnB Y n
      · obtain ⟨Y, y1, ⟨i0, y2, y3⟩, y4, y5⟩ := ht
        have cY : cnB Y n < cnB X n := cnB_lt y1 hs0 y4 hx0
        obtain ⟨φ1, p1, p2⟩ := ih Y K (by omega) (fun Z hZ => hH Z (fun i hi e => y1 i hi (hZ i hi e)))
        have cX' : cnB (fun i => X i && !Y i) n < cnB X n := cnB_lt (fun i hi e => by simp only [Bool.and_eq_true] at e; exact e.1) y2 (by simp [y3]) (y1 i0 y2 y3)
        obtain ⟨φ2, r1, r2⟩ := ih (fun i => X i && !Y i) (fun q => K q || nb n a Y q) (by omega) (fun Z hZ => by
          have hZX : ∀ i, i < n → Z i = true → X i = true ∧ Y i = false := fun i hi e => by
            have := hZ i hi e
            simp only [Bool.and_eq_true, Bool.not_eq_true'] at this
            exact this
          have h1 := hH (fun i => Z i || Y i) (fun i hi e => by
            simp only [Bool.or_eq_true] at e
            rcases e with e | e
            · exact (hZX i hi e).1
            · exact y1 i hi e)
          rw [cnB_or n (fun i hi => by
            rintro ⟨e1, e2⟩
            rw [(hZX i hi e1).2] at e2
            exact absurd e2 (by decide))] at h1
          have h2 : cnB (fun q => nb n a (fun i => Z i || Y i) q && !K q) B ≤ cnB (fun q => (nb n a Z q && !(K q || nb n a Y q)) || (nb n a Y q && !K q)) B := cnB_mono B (fun q _ e => by
            simp only [Bool.and_eq_true, Bool.not_eq_true'] at e
            obtain ⟨e1, e2⟩ := e
            by_cases c : nb n a Y q = true
            · simp [c, e2]
            · rw [Bool.not_eq_true] at c
              obtain ⟨s, z1, z2, z3⟩ := nb_iff.mp e1
              simp only [Bool.or_eq_true] at z2
              rcases z2 with z2 | z2
              · have : nb n a Z q = true := nb_iff.mpr ⟨s, z1, z2, z3⟩
                simp [this, e2, c]
              · have := nb_iff.mpr ⟨s, z1, z2, z3⟩
                rw [c] at this
                exact absurd this (by decide))
          have h3 := cnB_sub (p := fun q => nb n a Z q && !(K q || nb n a Y q)) (q := fun q => nb n a Y q && !K q) B
          omega)
        refine ⟨fun s => if Y s = true then φ1 s else φ2 s, fun s hs e => ?_, fun s u hs hu e1 e2 hne => ?_⟩
        · by_cases c : Y s = true
          · simp only [if_pos c]; exact p1 s hs c
          · simp only [if_neg c]
            have := r1 s hs (by simp only [Bool.and_eq_true]; exact ⟨e, by rw [Bool.not_eq_true] at c; rw [c]; rfl⟩)
            obtain ⟨w1, w2, w3⟩ := this
            simp only [Bool.or_eq_false_iff] at w3
            exact ⟨w1, w2, w3.1⟩
        · have cross : ∀ x y, x < n → y < n → Y x = true → ¬ Y y = true → X y = true → φ1 x ≠ φ2 y := fun x y hx hy f1 f2 f3 hq => by
            obtain ⟨w1, w2, w3⟩ := r1 y hy (by simp only [Bool.and_eq_true]; exact ⟨f3, by rw [Bool.not_eq_true] at f2; rw [f2]; rfl⟩)
            simp only [Bool.or_eq_false_iff] at w3
            have := nb_iff.mpr ⟨x, hx, f1, (p1 x hx f1).1⟩
            rw [hq, w3.2] at this
            exact absurd this (by decide)
          by_cases c1 : Y s = true <;> by_cases c2 : Y u = true
          · simp only [if_pos c1, if_pos c2]; exact p2 s u hs hu c1 c2 hne
          · simp only [if_pos c1, if_neg c2]; exact cross s u hs hu c1 c2 e2
          · simp only [if_neg c1, if_pos c2]; exact fun q => cross u s hu hs c2 c1 e1 q.symm
          · simp only [if_neg c1, if_neg c2]
            rw [Bool.not_eq_true] at c1 c2
            exact r2 s u hs hu (by simp [e1, c1]) (by simp [e2, c2]) hne
      · have h1 := hH (fun i => decide (i = s0)) (fun i hi e => by rw [decide_eq_true_eq] at e; rw [e]; exact hx0)
        have h2 := (cnB_pos (p := fun i => decide (i = s0)) n).mpr ⟨s0, hs0, by simp⟩
        obtain ⟨q, q1, q2⟩ := (cnB_pos B).mp (show 0 < cnB (fun q => nb n a (fun i => decide (i = s0)) q && !K q) B by omega)
        simp only [Bool.and_eq_true, Bool.not_eq_true'] at q2
        obtain ⟨s, z1, z2, z3⟩ := nb_iff.mp q2.1
        simp only [decide_eq_true_eq] at z2
        subst z2
        have cX' : cnB (fun i => X i && !decide (i = s)) n < cnB X n := cnB_lt (fun i hi e => by simp only [Bool.and_eq_true] at e; exact e.1) hs0 (by simp) hx0
        obtain ⟨φ2, r1, r2⟩ := ih (fun i => X i && !decide (i = s)) (fun x => K x || decide (x = q)) (by omega) (fun Z hZ => by
          have hZX : ∀ i, i < n → Z i = true → X i = true ∧ ¬ i = s := fun i hi e => by
            have := hZ i hi e
            simp only [Bool.and_eq_true, Bool.not_eq_true', decide_eq_false_iff_not] at this
            exact this
          by_cases hz : ∃ i, i < n ∧ Z i = true
          · have nt : cnB Z n < cnB (fun q => nb n a Z q && !K q) B := by
              rcases Nat.lt_or_ge (cnB Z n) (cnB (fun q => nb n a Z q && !K q) B) with y | y
              · exact y
              · exact absurd ⟨Z, fun i hi e => (hZX i hi e).1, hz, fun e => (hZX s z1 e).2 rfl, y⟩ ht
            have h3 : cnB (fun x => nb n a Z x && !K x) B ≤ cnB (fun x => (nb n a Z x && !(K x || decide (x = q))) || decide (x = q)) B := cnB_mono B (fun x _ e => by
              simp only [Bool.and_eq_true, Bool.not_eq_true'] at e
              by_cases c : x = q
              · simp [c]
              · simp [c, e.1, e.2])
            have h4 := cnB_sub (p := fun x => nb n a Z x && !(K x || decide (x = q))) (q := fun x => decide (x = q)) B
            have h5 := cnB_one (a := q) B
            omega
          · have : cnB Z n = 0 := by
              rcases Nat.eq_zero_or_pos (cnB Z n) with y | y
              · exact y
              · exact absurd ((cnB_pos n).mp y) hz
            omega)
        refine ⟨fun x => if x = s then q else φ2 x, fun x hx e => ?_, fun x y hx hy e1 e2 hne => ?_⟩
        · by_cases c : x = s
          · simp only [if_pos c]; rw [c]; exact ⟨z3, q1, q2.2⟩
          · simp only [if_neg c]
            obtain ⟨w1, w2, w3⟩ := r1 x hx (by simp [e, c])
            simp only [Bool.or_eq_false_iff] at w3
            exact ⟨w1, w2, w3.1⟩
        · have other : ∀ x, x < n → X x = true → ¬ x = s → φ2 x ≠ q := fun x hx e c hq => by
            obtain ⟨w1, w2, w3⟩ := r1 x hx (by simp [e, c])
            simp [hq] at w3
          by_cases c1 : x = s <;> by_cases c2 : y = s
          · exact absurd (c1.trans c2.symm) hne
          · simp only [if_pos c1, if_neg c2]; exact fun h => other y hy e2 c2 h.symm
          · simp only [if_neg c1, if_pos c2]; exact other x hx e1 c1
          · simp only [if_neg c1, if_neg c2]; exact r2 x y hx hy (by simp [e1, c1]) (by simp [e2, c2]) hne
    · exact ⟨fun _ => 0, fun s hs e => absurd ⟨s, hs, e⟩ he, fun s t hs _ e => absurd ⟨s, hs, e⟩ he⟩
theorem cnB_inj {B : Nat} : ∀ (n : Nat) (p q : Nat → Bool) (φ : Nat → Nat), (∀ s, s < n → p s = true → φ s < B ∧ q (φ s) = true) → (∀ s t, s < n → t < n → p s = true → p t = true → s ≠ t → φ s ≠ φ t) → cnB p n ≤ cnB q B := by
  intro n
  induction n with
  | zero => intro p q φ _ _; exact Nat.zero_le _
  | succ n ih =>
    intro p q φ h1 h2
    rw [cnB_s]
    by_cases c : p n = true
    · rw [if_pos c]
      have hn := h1 n (by omega) c
      have := ih p (fun x => q x && !decide (x = φ n)) φ (fun s hs e => by
        obtain ⟨w1, w2⟩ := h1 s (by omega) e
        have := h2 s n (by omega) (by omega) e c (by omega)
        exact ⟨w1, by simp [w2, this]⟩) (fun s t hs ht => h2 s t (by omega) (by omega))
      have lt : cnB (fun x => q x && !decide (x = φ n)) B < cnB q B := cnB_lt (fun i _ e => by simp only [Bool.and_eq_true] at e; exact e.1) hn.1 (by simp) hn.2
      omega
    · rw [if_neg c]
      exact ih p q φ (fun s hs => h1 s (by omega)) (fun s t hs ht => h2 s t (by omega) (by omega))
/-- whoever all can have, has enough for all -/
theorem hall_conv {n B : Nat} {a : Nat → Nat → Bool} {X K : Nat → Bool} (h : mtch n B a X K) : ∀ Y : Nat → Bool, (∀ i, i < n → Y i = true → X i = true) → cnB Y n ≤ cnB (fun q => nb n a Y q && !K q) B := by
  obtain ⟨φ, h1, h2⟩ := h
  intro Y hY
  refine cnB_inj n Y _ φ (fun s hs e => ?_) (fun s t hs ht e1 e2 => h2 s t hs ht (hY s hs e1) (hY t ht e2))
  obtain ⟨w1, w2, w3⟩ := h1 s hs (hY s hs e)
  exact ⟨w2, by simp only [Bool.and_eq_true]; exact ⟨nb_iff.mpr ⟨s, hs, e, w1⟩, by rw [w3]; rfl⟩⟩
end
