section
/-! LINKS by e, as both find them -/
def kEq (c l : Int → Int) (x y : Int) : Bool := decide (c x = c y) && (List.range (c x).toNat).all (fun i : Nat => decide (l (12 * x + (i : Int)) = l (12 * y + (i : Int))))
theorem kEq_iff {c l : Int → Int} {x y : Int} : kEq c l x y = true ↔ c x = c y ∧ ∀ i, 0 ≤ i → i < c x → l (12 * x + i) = l (12 * y + i) := by
  unfold kEq
  rw [Bool.and_eq_true, decide_eq_true_eq, List.all_eq_true]
  refine and_congr_right (fun _ => ⟨fun h i h0 h1 => ?_, fun h i hi => ?_⟩)
  · have := h i.toNat (List.mem_range.mpr (by omega))
    rw [decide_eq_true_eq, show ((i.toNat : Nat) : Int) = i by omega] at this
    exact this
  · rw [List.mem_range] at hi
    rw [decide_eq_true_eq]
    exact h i (by omega) (by omega)
theorem kEq_sy (c l : Int → Int) (x y : Int) : kEq c l x y = kEq c l y x := by
  have h : ∀ x y, kEq c l x y = true → kEq c l y x = true := by
    intro x y h
    obtain ⟨h1, h2⟩ := kEq_iff.mp h
    exact kEq_iff.mpr ⟨h1.symm, fun i a b => (h2 i a (by omega)).symm⟩
  cases e : kEq c l x y with
  | true => exact (h x y e).symm
  | false =>
    cases e2 : kEq c l y x with
    | true => rw [h y x e2] at e; cases e
    | false => rfl
/-- the last joining (1) or parting (2) of two among the first n entries -/
def bndE (f a b : Int → Int) (x y : Int) : Nat → Int
  | 0 => 0
  | n + 1 => if (f n = 2 ∨ f n = 3) ∧ ((a n = x ∧ b n = y) ∨ (a n = y ∧ b n = x)) then (if f n = 2 then 1 else 2) else bndE f a b x y n
theorem bndE_s (f a b : Int → Int) (x y : Int) (n : Nat) : bndE f a b x y (n + 1) = if (f n = 2 ∨ f n = 3) ∧ ((a n = x ∧ b n = y) ∨ (a n = y ∧ b n = x)) then (if f n = 2 then 1 else 2) else bndE f a b x y n := rfl
theorem if_cg {α : Type} {b c : Prop} [Decidable b] [Decidable c] {x y u v : α} (h : b ↔ c) (h1 : x = u) (h2 : y = v) : (if b then x else y) = (if c then u else v) := by
  subst h1
  subst h2
  by_cases q : b
  · rw [if_pos q, if_pos (h.mp q)]
  · rw [if_neg q, if_neg (fun z => q (h.mpr z))]
theorem bndE_sy (f a b : Int → Int) (x y : Int) : ∀ n : Nat, bndE f a b x y n = bndE f a b y x n := by
  intro n
  induction n with
  | zero => rfl
  | succ n ih =>
    rw [bndE_s, bndE_s]
    exact if_cg ⟨fun q => ⟨q.1, q.2.symm⟩, fun q => ⟨q.1, q.2.symm⟩⟩ rfl ih
theorem bndE_c {f a b : Int → Int} {x y : Int} {m n : Nat} (h : m ≤ n) (hc : cntD f m = cntD f n) : bndE f a b x y n = bndE f a b x y m := by
  induction n with
  | zero => rw [show m = 0 by omega]
  | succ n ih =>
    by_cases e : m = n + 1
    · rw [e]
    · have m2 := cntE_mono f 2 (show m ≤ n by omega)
      have m3 := cntE_mono f 3 (show m ≤ n by omega)
      unfold cntD at hc ih
      rw [cntE_s, cntE_s] at hc
      have h2 : ¬ f n = 2 := by intro q; rw [if_pos q, if_neg (by rw [q]; decide)] at hc; omega
      have h3 : ¬ f n = 3 := by intro q; rw [if_neg h2, if_pos q] at hc; omega
      rw [if_neg h2, if_neg h3] at hc
      rw [bndE_s, if_neg (fun q => q.1.elim h2 h3)]
      exact ih (by omega) (by omega)
theorem bndE_eq {f a b : Int → Int} {x y : Int} {m n : Nat} (hc : cntD f m = cntD f n) : bndE f a b x y n = bndE f a b x y m := by
  rcases Nat.le_total m n with h | h
  · exact bndE_c h hc
  · exact (bndE_c h hc.symm).symm
/-- what is between two NAMES: 1 linked, 2 parted, 0 neither -/
def lkN (c l f a b : Int → Int) (n : Nat) (x y : Int) : Int := if bndE f a b x y n = 0 then (if kEq c l x y = true then 1 else 0) else bndE f a b x y n
def lk (s : SS) (e x y : Int) : Int := lkN (s.2 7) (s.2 6) (s.2 60) (s.2 61) (s.2 62) e.toNat x y
theorem lkN_sy (c l f a b : Int → Int) (n : Nat) (x y : Int) : lkN c l f a b n x y = lkN c l f a b n y x := by unfold lkN; rw [bndE_sy, kEq_sy]
theorem lk_sy (s : SS) (e x y : Int) : lk s e x y = lk s e y x := lkN_sy ..
theorem bndE_v (f a b : Int → Int) (x y : Int) : ∀ n : Nat, bndE f a b x y n = 0 ∨ bndE f a b x y n = 1 ∨ bndE f a b x y n = 2 := by
  intro n
  induction n with
  | zero => exact Or.inl rfl
  | succ n ih =>
    rw [bndE_s]
    split
    · split
      · exact Or.inr (Or.inl rfl)
      · exact Or.inr (Or.inr rfl)
    · exact ih
theorem lk_v (s : SS) (e x y : Int) : lk s e x y = 0 ∨ lk s e x y = 1 ∨ lk s e x y = 2 := by
  unfold lk lkN
  have := bndE_v (s.2 60) (s.2 61) (s.2 62) x y e.toNat
  split
  · split
    · exact Or.inr (Or.inl rfl)
    · exact Or.inl rfl
  · exact this
theorem lk_agr {s t : SS} (h : agr [] [6, 7, 60, 61, 62] s t) (e x y : Int) : lk t e x y = lk s e x y := by
  unfold lk
  rw [h.2 6 (by decide), h.2 7 (by decide), h.2 60 (by decide), h.2 61 (by decide), h.2 62 (by decide)]
def linked (s : SS) (e x y : Int) : Prop := x ≠ y ∧ lk s e x y = 1
/-- the least NAME of each PERSON, of the first n NAMES -/
def isP (L : Int → Int → Prop) (n : Int) (P : Int → Int) : Prop := (∀ x y, 0 ≤ x → x < n → 0 ≤ y → y < n → L x y → P x = P y) ∧ (∀ x, 0 ≤ x → x < n → 0 ≤ P x ∧ P x ≤ x) ∧ (∀ x, 0 ≤ x → x < n → ∀ g : Int → Prop, (∀ u v, 0 ≤ u → u < n → 0 ≤ v → v < n → L u v → (g u ↔ g v)) → (g x ↔ g (P x)))
theorem isP_uniq {L : Int → Int → Prop} {n : Int} {P R : Int → Int} (hP : isP L n P) (hR : isP L n R) {x : Int} (h0 : 0 ≤ x) (h1 : x < n) : P x = R x := by
  have half : ∀ {P R : Int → Int}, isP L n P → isP L n R → R x ≤ P x := by
    intro P R hP hR
    have b := hP.2.1 x h0 h1
    have := (hP.2.2 x h0 h1 (fun u => R u = R x) (fun u v u0 u1 v0 v1 huv => by rw [hR.1 u v u0 u1 v0 v1 huv])).mp rfl
    have c := hR.2.1 (P x) b.1 (by omega)
    have this : R (P x) = R x := this
    omega
  have := half hP hR
  have := half hR hP
  omega
theorem isP_idem {L : Int → Int → Prop} {n : Int} {P : Int → Int} (hP : isP L n P) {x : Int} (h0 : 0 ≤ x) (h1 : x < n) : P (P x) = P x :=
  (hP.2.2 x h0 h1 (fun u => P u = P x) (fun u v u0 u1 v0 v1 huv => by rw [hP.1 u v u0 u1 v0 v1 huv])).mp rfl
/-! the class -/
theorem Na_sameKey_B {x y : Int} {s : SS} (hy : iKeys s) (hN : s.1 4 ≤ 20) (hx0 : 0 ≤ x) (hx1 : x < s.1 4) (hy0 : 0 ≤ y) (hy1 : y < s.1 4) : isB (kEq (s.2 7) (s.2 6) x y = true) s (Sp_Na_sameKey x y s) := by
  intro K h1 h0
  obtain ⟨-, kx, lx⟩ := hy x hx0 hx1
  obtain ⟨-, ky, ly⟩ := hy y hy0 hy1
  intro X19 h19
  refine ⟨by omega, by omega, ⟨by omega, by omega⟩, ⟨by omega, by omega⟩, fun c => ?_, fun c => h0 (fun q => c (kEq_iff.mp q).1)⟩
  have key : ∀ (t : Nat) (i : Int), 0 ≤ i → i ≤ s.2 7 x → s.2 7 x - i < t → (∀ j, 0 ≤ j → j < i → s.2 6 (12 * x + j) = s.2 6 (12 * y + j)) → X19 x y i s := by
    intro t
    induction t with
    | zero => intro i a b d; omega
    | succ t ih =>
      intro i a b d hj
      refine h19 _ _ _ _ ⟨by omega, ⟨by omega, by omega⟩, ⟨by omega, by omega⟩, fun e => h1 (kEq_iff.mpr ⟨c, fun j j0 j1 => hj j j0 (by omega)⟩), fun e => ?_⟩
      have zx := lx i a e
      have zy := ly i a (by omega)
      rw [show x * 12 + i = 12 * x + i by omega, show y * 12 + i = 12 * y + i by omega]
      refine ⟨by omega, by omega, ⟨by omega, by omega⟩, ⟨by omega, by omega⟩, fun f => ?_, fun f => h0 (fun q => f ((kEq_iff.mp q).2 i a e))⟩
      refine ih (i + 1) (by omega) (by omega) (by omega) (fun j j0 j1 => ?_)
      by_cases q : j = i
      · rw [q]; exact f
      · exact hj j j0 (by omega)
  exact key 20 0 (by omega) (by omega) (by omega) (fun j a b => by omega)
theorem Na_tie_ok {x y v : Int} {s : SS} {Q : SS → Prop} (hx : 0 ≤ x ∧ x < 20) (hy : 0 ≤ y ∧ y < 20) (hk : ∀ s', frm [] [13] s s' → (∀ u w, 0 ≤ u → u < 20 → 0 ≤ w → w < 20 → s'.2 13 (20 * u + w) = if (u = x ∧ w = y) ∨ (u = y ∧ w = x) then v else s.2 13 (20 * u + w)) → Q s') : Sp_Na_tieTogether x y v s Q := by
  refine ⟨by omega, fun s1 h1 => ⟨by omega, fun s2 h2 => hk s2 ?_ (fun u w u0 u1 w0 w1 => ?_)⟩⟩
  · rw [h2, h1]
    exact frm_tr (frm_A s _ _ (by decide)) (frm_A _ _ _ (by decide))
  · rw [h2, sA_s, h1, sA_s]
    by_cases c : (u = x ∧ w = y) ∨ (u = y ∧ w = x)
    · rw [if_pos c]
      rcases c with ⟨rfl, rfl⟩ | ⟨rfl, rfl⟩
      · by_cases e : 20 * u + w = w * 20 + u
        · rw [if_pos e]
        · rw [if_neg e, if_pos (by omega)]
      · rw [if_pos (by omega)]
    · rw [if_neg c, if_neg (by omega), if_neg (by omega)]
/-- the diagonal of the bonds stays -/
def dg (s t : SS) : Prop := ∀ u, 0 ≤ u → u < 20 → t.2 13 (20 * u + u) = s.2 13 (20 * u + u)
theorem Na_readKeys_ok {c : Int} {s : SS} {Q : SS → Prop} (hy : iKeys s) (hN : s.1 4 ≤ 20) (hc : s.1 6 = c) (c0 : 0 ≤ c) (c1 : c ≤ s.1 4) (hk : ∀ s', frm [] [13] s s' → dg s s' → (∀ u w, 0 ≤ u → u < c → 0 ≤ w → w < c → u ≠ w → s'.2 13 (20 * u + w) = if kEq (s.2 7) (s.2 6) u w = true then 1 else 0) → Q s') : Sp_Na_readKeys s Q := by
  intro X2 X14 h2 h14
  let I : Int → Int → SS → Prop := fun x y s1 => (frm [] [13] s s1 ∧ dg s s1) ∧ ∀ u w, 0 ≤ u → u < w → w < c → (u < x ∨ (u = x ∧ w < y)) → s1.2 13 (20 * u + w) = (if kEq (s.2 7) (s.2 6) u w = true then 1 else 0) ∧ s1.2 13 (20 * w + u) = (if kEq (s.2 7) (s.2 6) u w = true then 1 else 0)
  have key : ∀ (t : Nat) (x y : Int) (s1 : SS), 0 ≤ x → x ≤ c → x < y → y ≤ c + 1 → (c + 1 - x) * 30 - y < t → I x y s1 → (x < c → y ≤ c → X14 x y s1) ∧ (y = x + 1 → X2 x s1) := by
    intro t
    induction t with
    | zero => intro x y s1 a b d e f; omega
    | succ t ih =>
      intro x y s1 x0 x1 y0 y1 ht hI
      have e6 : s1.1 6 = c := by rw [hI.1.1.1 6 rfl, hc]
      have k14 : x < c → y ≤ c → X14 x y s1 := by
        intro hx hyc
        refine h14 _ _ _ ⟨⟨by omega, by omega⟩, by rw [e6]; exact ⟨by omega, by omega⟩, fun d => ?_, fun d => ?_⟩
        · rw [e6] at d
          have ey : y = c := by omega
          refine (ih (x + 1) (x + 2) s1 (by omega) (by omega) (by omega) (by omega) (by omega) ⟨hI.1, fun u w u0 uw w1 hh => hI.2 u w u0 uw w1 ?_⟩).2 (by omega)
          omega
        · rw [e6] at d
          have hy1 : iKeys s1 := iKeys_agr (agr_of hI.1.1 (by decide)) hy
          have g4 : s1.1 4 = s.1 4 := hI.1.1.1 4 rfl
          have g7 : s1.2 7 = s.2 7 := hI.1.1.2 7 rfl
          have g6 : s1.2 6 = s.2 6 := hI.1.1.2 6 rfl
          have nxt : ∀ v : Int, v = (if kEq (s.2 7) (s.2 6) x y = true then 1 else 0) → Sp_Na_tieTogether x y v s1 (fun s3 => X14 x (y + 1) s3) := by
            intro v hv
            refine Na_tie_ok ⟨by omega, by omega⟩ ⟨by omega, by omega⟩ (fun s3 hf3 e3 => ?_)
            refine (ih x (y + 1) s3 x0 x1 (by omega) (by omega) (by omega) ⟨⟨frm_tr hI.1.1 hf3, fun u u0 u1 => by rw [e3 u u u0 u1 u0 u1, if_neg (by omega)]; exact hI.1.2 u u0 u1⟩, fun u w u0 uw w1 hh => ?_⟩).1 hx (by omega)
            rw [e3 u w (by omega) (by omega) (by omega) (by omega), e3 w u (by omega) (by omega) (by omega) (by omega)]
            by_cases q : u = x ∧ w = y
            · rw [if_pos (Or.inl q), if_pos (Or.inr ⟨q.2, q.1⟩), q.1, q.2]
              exact ⟨hv, hv⟩
            · rw [if_neg (show ¬ ((u = x ∧ w = y) ∨ (u = y ∧ w = x)) by omega), if_neg (show ¬ ((w = x ∧ u = y) ∨ (w = y ∧ u = x)) by omega)]
              exact hI.2 u w u0 uw w1 (by omega)
          refine isB_a (Na_sameKey_B hy1 (by omega) x0 (by omega) (by omega) (by omega)) (fun q => nxt 0 ?_) (fun q => nxt 1 ?_)
          · rw [g7, g6] at q; rw [if_neg q]
          · rw [g7, g6] at q; rw [if_pos q]
      refine ⟨k14, fun hy => ?_⟩
      refine h2 _ _ ⟨⟨by omega, by omega⟩, by rw [e6]; exact ⟨by omega, by omega⟩, fun d => ?_, fun d => ?_⟩
      · rw [e6] at d
        refine hk s1 hI.1.1 hI.1.2 (fun u w u0 u1 w0 w1 ne => ?_)
        rcases Int.lt_or_gt_of_ne ne with q | q
        · exact (hI.2 u w u0 q w1 (by omega)).1
        · rw [kEq_sy]; exact (hI.2 w u w0 q u1 (by omega)).2
      · rw [e6] at d
        rw [← hy]
        exact k14 d (by omega)
  exact (key 100000 0 1 s (by omega) c0 (by omega) (by omega) (by omega) ⟨⟨frm_rf _ _ s, fun _ _ _ => rfl⟩, fun u w u0 uw w1 hh => by omega⟩).2 rfl
end
