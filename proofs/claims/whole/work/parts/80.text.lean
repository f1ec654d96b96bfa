section
/-! RULES, what a text means: the groups of the class, the code of the model -/
abbrev lt7 (c : Int) : Prop := c = 114 ∨ c = 101 ∨ c = 104 ∨ c = 99 ∨ c = 110 ∨ c = 108 ∨ c = 107
abbrev sg3 (c : Int) : Prop := c = 60 ∨ c = 61 ∨ c = 46
abbrev dg10 (c : Int) : Prop := 48 ≤ c ∧ c ≤ 57
abbrev GpS := List (Bool × Bool × Bool)
def fct (F : Int → Int) (l sg v : Int) : Bool := if sg = 60 then decide (F l < v) else if sg = 61 then decide (F l = v) else decide (v < F l)
def nv (tx : Int → Int) (c : Int) : Nat → Int
  | 0 => 0
  | k + 1 => nv tx c k * 10 + tx (c + k) - 48
theorem nv_b {tx : Int → Int} {c : Int} : ∀ k : Nat, k ≤ 3 → (∀ j : Nat, j < k → dg10 (tx (c + j))) → 0 ≤ nv tx c k ∧ ((k = 0 ∧ nv tx c k ≤ 0) ∨ (k = 1 ∧ nv tx c k ≤ 9) ∨ (k = 2 ∧ nv tx c k ≤ 99) ∨ (k = 3 ∧ nv tx c k ≤ 999)) := by
  intro k
  induction k with
  | zero => intro _ _; exact ⟨Int.le_refl 0, Or.inl ⟨rfl, Int.le_refl 0⟩⟩
  | succ k ih =>
    intro hk hd
    have h1 := ih (by omega) (fun j hj => hd j (by omega))
    have h2 := hd k (by omega)
    have e : nv tx c (k + 1) = nv tx c k * 10 + tx (c + k) - 48 := rfl
    rw [e]
    omega
def jn : GpS → Bool → GpS
  | [], _ => []
  | (a, b, t) :: gs, so => (a, b && so, t) :: gs
inductive TX (F tx : Int → Int) (c0 : Int) : Int → Bool → GpS → Prop
  | st : TX F tx c0 c0 false [(false, true, false)]
  | nt {c : Int} {t : Bool} {gs : GpS} : TX F tx c0 c t gs → tx c = 33 → TX F tx c0 (c + 1) (!t) gs
  | op {c : Int} {t : Bool} {gs : GpS} : TX F tx c0 c t gs → tx c = 40 → TX F tx c0 (c + 1) false ((false, true, t) :: gs)
  | cl {c : Int} {a b t : Bool} {gs : GpS} : TX F tx c0 c false ((a, b, t) :: gs) → gs ≠ [] → tx c = 41 → TX F tx c0 (c + 1) false (jn gs ((a || b) != t))
  | an {c : Int} {t : Bool} {gs : GpS} : TX F tx c0 c t gs → tx c = 38 → TX F tx c0 (c + 1) t gs
  | oo {c : Int} {t a b u : Bool} {gs : GpS} : TX F tx c0 c t ((a, b, u) :: gs) → tx c = 124 → TX F tx c0 (c + 1) t ((a || b, true, u) :: gs)
  | fa {c : Int} {t : Bool} {gs : GpS} (k : Nat) : TX F tx c0 c t gs → lt7 (tx c) → 1 ≤ k → k ≤ 3 → (∀ j : Nat, j < k → dg10 (tx (c + 2 + j))) → (k < 3 → ¬ dg10 (tx (c + 2 + k))) → TX F tx c0 (c + 2 + k) false (jn gs (fct F (tx c) (tx (c + 1)) (nv tx (c + 2) k) != t))
theorem jn_ne {gs : GpS} {v : Bool} (h : gs ≠ []) : jn gs v ≠ [] := by
  cases gs with
  | nil => exact absurd rfl h
  | cons g r => obtain ⟨a, b, t⟩ := g; intro q; cases q
theorem jn_len (gs : GpS) (v : Bool) : (jn gs v).length = gs.length := by
  cases gs with
  | nil => rfl
  | cons g r => obtain ⟨a, b, t⟩ := g; rfl
theorem TX_ge {F tx : Int → Int} {c0 c : Int} {t : Bool} {gs : GpS} (h : TX F tx c0 c t gs) : c0 ≤ c := by
  induction h <;> omega
theorem TX_ne {F tx : Int → Int} {c0 c : Int} {t : Bool} {gs : GpS} (h : TX F tx c0 c t gs) : gs ≠ [] := by
  induction h with
  | st => intro q; cases q
  | nt _ _ ih => exact ih
  | op _ _ ih => intro q; cases q
  | cl _ h2 _ _ => exact jn_ne h2
  | an _ _ ih => exact ih
  | oo _ _ ih => intro q; cases q
  | fa k _ _ _ _ _ _ ih => exact jn_ne ih
/-- the groups are no more than the signs read -/
theorem TX_len {F tx : Int → Int} {c0 c : Int} {t : Bool} {gs : GpS} (h : TX F tx c0 c t gs) : c0 + gs.length ≤ c + 1 := by
  induction h with
  | st => simp
  | nt _ _ ih => omega
  | op _ _ ih => simp only [List.length_cons]; omega
  | cl _ _ _ ih => rw [jn_len]; simp only [List.length_cons] at ih; omega
  | an _ _ ih => omega
  | oo _ _ ih => simp only [List.length_cons] at ih ⊢; omega
  | fa k _ _ _ _ _ _ ih => rw [jn_len]; omega
theorem fct_cg {F G : Int → Int} {l sg v : Int} (h : F l = G l) : fct F l sg v = fct G l sg v := by unfold fct; rw [h]
theorem TX_cg {F G tx : Int → Int} {c0 c : Int} {t : Bool} {gs : GpS} (hc : ∀ i, lt7 (tx i) → F (tx i) = G (tx i)) (h : TX F tx c0 c t gs) : TX G tx c0 c t gs := by
  induction h with
  | st => exact .st
  | nt _ h2 ih => exact .nt ih h2
  | op _ h2 ih => exact .op ih h2
  | cl _ h2 h3 ih => exact .cl ih h2 h3
  | an _ h2 ih => exact .an ih h2
  | oo _ h2 ih => exact .oo ih h2
  | fa k _ h2 h3 h4 h5 h6 ih => rw [fct_cg (hc _ h2)]; exact .fa k ih h2 h3 h4 h5 h6
/-! the code -/
inductive RN (F cd : Int → Int) (k0 : Int) : Int → List Bool → Prop
  | st : RN F cd k0 k0 []
  | f {k : Int} {vs : List Bool} : RN F cd k0 k vs → lt7 (cd k) → rng (cd (k + 1)) → rng (cd (k + 2)) → RN F cd k0 (k + 3) (fct F (cd k) (cd (k + 1)) (cd (k + 2)) :: vs)
  | n {k : Int} {x : Bool} {vs : List Bool} : RN F cd k0 k (x :: vs) → cd k = 0 → RN F cd k0 (k + 1) ((!x) :: vs)
  | a {k : Int} {x y : Bool} {vs : List Bool} : RN F cd k0 k (y :: x :: vs) → cd k = 1 → RN F cd k0 (k + 1) ((x && y) :: vs)
  | o {k : Int} {x y : Bool} {vs : List Bool} : RN F cd k0 k (y :: x :: vs) → cd k = 2 → RN F cd k0 (k + 1) ((x || y) :: vs)
theorem RN_up {F cd cd' : Int → Int} {k0 k : Int} {vs : List Bool} (h : RN F cd k0 k vs) : (∀ j, k0 ≤ j → j < k → cd' j = cd j) → RN F cd' k0 k vs := by
  have ge : ∀ {k : Int} {vs : List Bool}, RN F cd k0 k vs → k0 ≤ k := by
    intro k vs h
    induction h <;> omega
  induction h with
  | st => intro _; exact .st
  | @f k vs h1 h2 h3 h4 ih =>
    intro q
    have := ge h1
    rw [← q k (by omega) (by omega), ← q (k + 1) (by omega) (by omega), ← q (k + 2) (by omega) (by omega)]
    exact .f (ih (fun j a b => q j a (by omega))) (by rw [q k (by omega) (by omega)]; exact h2) (by rw [q (k + 1) (by omega) (by omega)]; exact h3) (by rw [q (k + 2) (by omega) (by omega)]; exact h4)
  | @n k x vs h1 h2 ih => intro q; exact .n (ih (fun j a b => q j a (by omega))) (by rw [q k (ge h1) (by omega)]; exact h2)
  | @a k x y vs h1 h2 ih => intro q; exact .a (ih (fun j a b => q j a (by omega))) (by rw [q k (ge h1) (by omega)]; exact h2)
  | @o k x y vs h1 h2 ih => intro q; exact .o (ih (fun j a b => q j a (by omega))) (by rw [q k (ge h1) (by omega)]; exact h2)
theorem RN_len {F cd : Int → Int} {k0 k : Int} {vs : List Bool} (h : RN F cd k0 k vs) : k0 + 3 * vs.length ≤ k := by
  induction h with
  | st => simp
  | f _ _ _ _ ih => simp only [List.length_cons] at ih ⊢; omega
  | n _ _ ih => simp only [List.length_cons] at ih ⊢; omega
  | a _ _ ih => simp only [List.length_cons] at ih ⊢; omega
  | o _ _ ih => simp only [List.length_cons] at ih ⊢; omega
/-! the operators that wait -/
def una (m : Int) : List Int → List Int × List Int
  | [] => ([], [])
  | o :: r => if o ≤ m then (o :: (una m r).1, (una m r).2) else ([], o :: r)
theorem una_y {m o : Int} {r : List Int} (h : o ≤ m) : una m (o :: r) = (o :: (una m r).1, (una m r).2) := if_pos h
theorem una_n {m o : Int} {r : List Int} (h : ¬ o ≤ m) : una m (o :: r) = ([], o :: r) := if_neg h
inductive PS : List Int → List Bool → List Bool → Prop
  | e {vs : List Bool} : PS [] vs vs
  | n {x : Bool} {vs ws : List Bool} {r : List Int} : PS r ((!x) :: vs) ws → PS (0 :: r) (x :: vs) ws
  | a {x y : Bool} {vs ws : List Bool} {r : List Int} : PS r ((x && y) :: vs) ws → PS (1 :: r) (y :: x :: vs) ws
  | o {x y : Bool} {vs ws : List Bool} {r : List Int} : PS r ((x || y) :: vs) ws → PS (2 :: r) (y :: x :: vs) ws
def wr (cd : Int → Int) : Int → List Int → Prop
  | _, [] => True
  | k, o :: r => cd k = o ∧ wr cd (k + 1) r
theorem RN_ps {F cd : Int → Int} {k0 : Int} {l : List Int} {vs ws : List Bool} (h : PS l vs ws) : ∀ k, RN F cd k0 k vs → wr cd k l → RN F cd k0 (k + l.length) ws := by
  induction h with
  | e => intro k hr _; simpa using hr
  | @n _ _ _ r _ ih =>
    intro k hr hw
    have := ih (k + 1) (.n hr hw.1) hw.2
    rw [List.length_cons, show k + ((r.length + 1 : Nat) : Int) = k + 1 + (r.length : Nat) by omega]
    exact this
  | @a _ _ _ _ r _ ih =>
    intro k hr hw
    have := ih (k + 1) (.a hr hw.1) hw.2
    rw [List.length_cons, show k + ((r.length + 1 : Nat) : Int) = k + 1 + (r.length : Nat) by omega]
    exact this
  | @o _ _ _ _ r _ ih =>
    intro k hr hw
    have := ih (k + 1) (.o hr hw.1) hw.2
    rw [List.length_cons, show k + ((r.length + 1 : Nat) : Int) = k + 1 + (r.length : Nat) by omega]
    exact this
/-- how groups, operators and values stand to each other: 0 in a bracket's context, 1 before an operand, 2 behind it -/
inductive CC : Nat → List Int → Bool → GpS → List Bool → Prop
  | b : CC 0 [] false [] []
  | g {ops : List Int} {t : Bool} {gs : GpS} {vs : List Bool} : CC 1 ops t gs vs → CC 0 (9 :: ops) t gs vs
  | e0 {ops : List Int} {t : Bool} {gs : GpS} {vs : List Bool} : CC 0 ops t gs vs → CC 1 ops false ((false, true, t) :: gs) vs
  | e1 {ops : List Int} {t x : Bool} {gs : GpS} {vs : List Bool} : CC 0 ops t gs vs → CC 1 (1 :: ops) false ((false, x, t) :: gs) (x :: vs)
  | e2 {ops : List Int} {t x : Bool} {gs : GpS} {vs : List Bool} : CC 0 ops t gs vs → CC 1 (2 :: ops) false ((x, true, t) :: gs) (x :: vs)
  | e3 {ops : List Int} {t x y : Bool} {gs : GpS} {vs : List Bool} : CC 0 ops t gs vs → CC 1 (1 :: 2 :: ops) false ((x, y, t) :: gs) (y :: x :: vs)
  | en {ops : List Int} {t : Bool} {gs : GpS} {vs : List Bool} : CC 1 ops t gs vs → CC 1 (0 :: ops) (!t) gs vs
  | d0 {ops : List Int} {t x : Bool} {gs : GpS} {vs : List Bool} : CC 0 ops t gs vs → CC 2 ops false ((false, x, t) :: gs) (x :: vs)
  | d1 {ops : List Int} {t x y : Bool} {gs : GpS} {vs : List Bool} : CC 0 ops t gs vs → CC 2 (1 :: ops) false ((false, x && y, t) :: gs) (y :: x :: vs)
  | d2 {ops : List Int} {t x y : Bool} {gs : GpS} {vs : List Bool} : CC 0 ops t gs vs → CC 2 (2 :: ops) false ((x, y, t) :: gs) (y :: x :: vs)
  | d3 {ops : List Int} {t x y z : Bool} {gs : GpS} {vs : List Bool} : CC 0 ops t gs vs → CC 2 (1 :: 2 :: ops) false ((x, y && z, t) :: gs) (z :: y :: x :: vs)
theorem cc0_una {ops : List Int} {t : Bool} {gs : GpS} {vs : List Bool} (h : CC 0 ops t gs vs) {m : Int} (hm : m ≤ 2) : una m ops = ([], ops) := by
  cases h with
  | b => rfl
  | g _ => exact una_n (by omega)
theorem cc1_ne {n : Nat} {ops : List Int} {t : Bool} {gs : GpS} {vs : List Bool} (h : CC n ops t gs vs) : n = 1 → gs ≠ [] := by
  induction h <;> intro q <;> first | (exact absurd q (by decide)) | (intro z; cases z; done) | skip
  next ih => exact ih rfl
theorem cc_operand {n : Nat} {ops : List Int} {t : Bool} {gs : GpS} {vs : List Bool} (h : CC n ops t gs vs) : n = 1 → ∀ v : Bool, ∃ ws, PS (una 0 ops).1 (v :: vs) ws ∧ CC 2 (una 0 ops).2 false (jn gs (v != t)) ws := by
  induction h with
  | b => intro q; exact absurd q (by decide)
  | g _ _ => intro q; exact absurd q (by decide)
  | e0 h _ =>
    intro _ v
    rw [cc0_una h (by decide)]
    exact ⟨_, .e, by cases v <;> exact .d0 h⟩
  | e1 h _ =>
    intro _ v
    rw [una_n (by decide)]
    exact ⟨_, .e, by cases v <;> exact .d1 h⟩
  | e2 h _ =>
    intro _ v
    rw [una_n (by decide)]
    exact ⟨_, .e, by cases v <;> exact .d2 h⟩
  | e3 h _ =>
    intro _ v
    rw [una_n (by decide)]
    exact ⟨_, .e, by cases v <;> exact .d3 h⟩
  | @en ops t gs vs h ih =>
    intro _ v
    rw [una_y (by decide)]
    obtain ⟨ws, h1, h2⟩ := ih rfl (!v)
    refine ⟨ws, .n h1, ?_⟩
    rw [show (v != !t) = ((!v) != t) by cases v <;> cases t <;> rfl]
    exact h2
  | d0 _ _ => intro q; exact absurd q (by decide)
  | d1 _ _ => intro q; exact absurd q (by decide)
  | d2 _ _ => intro q; exact absurd q (by decide)
  | d3 _ _ => intro q; exact absurd q (by decide)
/-- all of a row, and all rows, are taken together -/
theorem cc_all {ops : List Int} {f : Bool} {g : Bool × Bool × Bool} {gs : GpS} {vs : List Bool} (h : CC 2 ops f (g :: gs) vs) : ∃ r, PS (una 2 ops).1 vs ((g.1 || g.2.1) :: r) ∧ CC 0 (una 2 ops).2 g.2.2 gs r := by
  cases h with
  | d0 h => rw [cc0_una h (by decide)]; exact ⟨_, .e, h⟩
  | d1 h => rw [una_y (by decide), cc0_una h (by decide)]; exact ⟨_, .a .e, h⟩
  | d2 h => rw [una_y (by decide), cc0_una h (by decide)]; exact ⟨_, .o .e, h⟩
  | d3 h => rw [una_y (by decide), una_y (by decide), cc0_una h (by decide)]; exact ⟨_, .a (.o .e), h⟩
theorem cc_and {ops : List Int} {f : Bool} {gs : GpS} {vs : List Bool} (h : CC 2 ops f gs vs) : ∃ ws, PS (una 1 ops).1 vs ws ∧ CC 1 (1 :: (una 1 ops).2) false gs ws := by
  cases h with
  | d0 h => rw [cc0_una h (by decide)]; exact ⟨_, .e, .e1 h⟩
  | d1 h => rw [una_y (by decide), cc0_una h (by decide)]; exact ⟨_, .a .e, .e1 h⟩
  | d2 h => rw [una_n (by decide)]; exact ⟨_, .e, .e3 h⟩
  | d3 h => rw [una_y (by decide), una_n (by decide)]; exact ⟨_, .a .e, .e3 h⟩
theorem cc0_end {ops : List Int} {t : Bool} {r : List Bool} (h : CC 0 ops t [] r) : ops = [] ∧ t = false ∧ r = [] := by
  cases h with
  | b => exact ⟨rfl, rfl, rfl⟩
  | g h => exact absurd rfl (cc1_ne h rfl)
theorem cc0_open {ops : List Int} {t : Bool} {gs : GpS} {r : List Bool} (h : CC 0 ops t gs r) (hg : gs ≠ []) : ∃ o2, ops = 9 :: o2 ∧ CC 1 o2 t gs r := by
  cases h with
  | b => exact absurd rfl hg
  | g h => exact ⟨_, rfl, h⟩
theorem cc_f {n : Nat} {ops : List Int} {f : Bool} {gs : GpS} {vs : List Bool} (h : CC n ops f gs vs) : n = 2 → f = false := by
  intro q
  subst q
  cases h <;> rfl
end
