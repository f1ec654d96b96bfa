section
/-! RULES, what a text means: the groups of the class, the code of the model -/
abbrev lt7 (c : Int) : Prop := c = 114 ∨ c = 101 ∨ c = 104 ∨ c = 99 ∨ c = 110 ∨ c = 108 ∨ c = 107
abbrev sg3 (c : Int) : Prop := c = 60 ∨ c = 61 ∨ c = 46
abbrev dg10 (c : Int) : Prop := 48 ≤ c ∧ c ≤ 57
abbrev GpS := List (Bool × Bool × Bool)
def fct (F : Int → Int) (l sg v : Int) : Bool := if sg = 60 then decide (F l < v) else if sg = 61 then decide (F l = v) else decide (v < F l)
def nv (tx : Int → Int) (c : Int) : Nat → Int
  | 0 => 0
  | k + 1 => nv tx c k * 10 + tx (c + k) - 48
theorem nv_b {tx : Int → Int} {c : Int} : ∀ k : Nat, k ≤ 3 → (∀ j : Nat, j < k → dg10 (tx (c + j))) → 0 ≤ nv tx c k ∧ ((k = 0 ∧ nv tx c k ≤ 0) ∨ (k = 1 ∧ nv tx c k ≤ 9) ∨ (k = 2 ∧ nv tx c k ≤ 99) ∨ (k = 3 ∧ nv tx c k ≤ 999)) := by
  intro k
  induction k with
  | zero => intro _ _; exact ⟨Int.le_refl 0, Or.inl ⟨rfl, Int.le_refl 0⟩⟩
  | succ k ih =>
    intro hk hd
    have h1 := ih (by omega) (fun j hj => hd j (by omega))
    have h2 := hd k (by omega)
    have e : nv tx c (k + 1) = nv tx c k * 10 + tx (c + k) - 48 := rfl
    rw [e]
    omega
def jn : GpS → Bool → GpS
  | [], _ => []
  | (a, b, t) :: gs, so => (a, b && so, t) :: gs
def TX (F tx : Int → Int) (c0 c : Int) (t : Bool) (gs : GpS) : Prop := ∀ P : Int → Bool → GpS → Prop,
  P c0 false [(false, true, false)] →
  (∀ (c : Int) (t : Bool) (gs : GpS), P c t gs → tx c = 33 → P (c + 1) (!t) gs) →
  (∀ (c : Int) (t : Bool) (gs : GpS), P c t gs → tx c = 40 → P (c + 1) false ((false, true, t) :: gs)) →
  (∀ (c : Int) (a b t : Bool) (gs : GpS), P c false ((a, b, t) :: gs) → gs ≠ [] → tx c = 41 → P (c + 1) false (jn gs ((a || b) != t))) →
  (∀ (c : Int) (t : Bool) (gs : GpS), P c t gs → tx c = 38 → P (c + 1) t gs) →
  (∀ (c : Int) (t a b u : Bool) (gs : GpS), P c t ((a, b, u) :: gs) → tx c = 124 → P (c + 1) t ((a || b, true, u) :: gs)) →
  (∀ (c : Int) (t : Bool) (gs : GpS) (k : Nat), P c t gs → lt7 (tx c) → sg3 (tx (c + 1)) → 1 ≤ k → k ≤ 3 → (∀ j : Nat, j < k → dg10 (tx (c + 2 + j))) → (k < 3 → ¬ dg10 (tx (c + 2 + k))) → P (c + 2 + k) false (jn gs (fct F (tx c) (tx (c + 1)) (nv tx (c + 2) k) != t))) →
  P c t gs
theorem TX.st {F tx : Int → Int} {c0 : Int} : TX F tx c0 c0 false [(false, true, false)] := fun _ h _ _ _ _ _ _ => h
theorem TX.nt {F tx : Int → Int} {c0 c : Int} {t : Bool} {gs : GpS} (h : TX F tx c0 c t gs) (e : tx c = 33) : TX F tx c0 (c + 1) (!t) gs := fun P q1 q2 q3 q4 q5 q6 q7 => q2 _ _ _ (h P q1 q2 q3 q4 q5 q6 q7) e
theorem TX.op {F tx : Int → Int} {c0 c : Int} {t : Bool} {gs : GpS} (h : TX F tx c0 c t gs) (e : tx c = 40) : TX F tx c0 (c + 1) false ((false, true, t) :: gs) := fun P q1 q2 q3 q4 q5 q6 q7 => q3 _ _ _ (h P q1 q2 q3 q4 q5 q6 q7) e
theorem TX.cl {F tx : Int → Int} {c0 c : Int} {a b t : Bool} {gs : GpS} (h : TX F tx c0 c false ((a, b, t) :: gs)) (n : gs ≠ []) (e : tx c = 41) : TX F tx c0 (c + 1) false (jn gs ((a || b) != t)) := fun P q1 q2 q3 q4 q5 q6 q7 => q4 _ _ _ _ _ (h P q1 q2 q3 q4 q5 q6 q7) n e
theorem TX.an {F tx : Int → Int} {c0 c : Int} {t : Bool} {gs : GpS} (h : TX F tx c0 c t gs) (e : tx c = 38) : TX F tx c0 (c + 1) t gs := fun P q1 q2 q3 q4 q5 q6 q7 => q5 _ _ _ (h P q1 q2 q3 q4 q5 q6 q7) e
theorem TX.oo {F tx : Int → Int} {c0 c : Int} {t a b u : Bool} {gs : GpS} (h : TX F tx c0 c t ((a, b, u) :: gs)) (e : tx c = 124) : TX F tx c0 (c + 1) t ((a || b, true, u) :: gs) := fun P q1 q2 q3 q4 q5 q6 q7 => q6 _ _ _ _ _ _ (h P q1 q2 q3 q4 q5 q6 q7) e
theorem TX.fa {F tx : Int → Int} {c0 c : Int} {t : Bool} {gs : GpS} (k : Nat) (h : TX F tx c0 c t gs) (e1 : lt7 (tx c)) (e0 : sg3 (tx (c + 1))) (e2 : 1 ≤ k) (e3 : k ≤ 3) (e4 : ∀ j : Nat, j < k → dg10 (tx (c + 2 + j))) (e5 : k < 3 → ¬ dg10 (tx (c + 2 + k))) : TX F tx c0 (c + 2 + k) false (jn gs (fct F (tx c) (tx (c + 1)) (nv tx (c + 2) k) != t)) := fun P q1 q2 q3 q4 q5 q6 q7 => q7 _ _ _ k (h P q1 q2 q3 q4 q5 q6 q7) e1 e0 e2 e3 e4 e5
theorem TX_ind {F tx : Int → Int} {c0 : Int} {motive : (c : Int) → (t : Bool) → (gs : GpS) → TX F tx c0 c t gs → Prop}
    (st : motive c0 false [(false, true, false)] TX.st)
    (nt : ∀ {c : Int} {t : Bool} {gs : GpS} (h : TX F tx c0 c t gs) (e : tx c = 33), motive c t gs h → motive (c + 1) (!t) gs (TX.nt h e))
    (op : ∀ {c : Int} {t : Bool} {gs : GpS} (h : TX F tx c0 c t gs) (e : tx c = 40), motive c t gs h → motive (c + 1) false ((false, true, t) :: gs) (TX.op h e))
    (cl : ∀ {c : Int} {a b t : Bool} {gs : GpS} (h : TX F tx c0 c false ((a, b, t) :: gs)) (n : gs ≠ []) (e : tx c = 41), motive c false ((a, b, t) :: gs) h → motive (c + 1) false (jn gs ((a || b) != t)) (TX.cl h n e))
    (an : ∀ {c : Int} {t : Bool} {gs : GpS} (h : TX F tx c0 c t gs) (e : tx c = 38), motive c t gs h → motive (c + 1) t gs (TX.an h e))
    (oo : ∀ {c : Int} {t a b u : Bool} {gs : GpS} (h : TX F tx c0 c t ((a, b, u) :: gs)) (e : tx c = 124), motive c t ((a, b, u) :: gs) h → motive (c + 1) t ((a || b, true, u) :: gs) (TX.oo h e))
    (fa : ∀ {c : Int} {t : Bool} {gs : GpS} (k : Nat) (h : TX F tx c0 c t gs) (e1 : lt7 (tx c)) (e0 : sg3 (tx (c + 1))) (e2 : 1 ≤ k) (e3 : k ≤ 3) (e4 : ∀ j : Nat, j < k → dg10 (tx (c + 2 + j))) (e5 : k < 3 → ¬ dg10 (tx (c + 2 + k))), motive c t gs h → motive (c + 2 + k) false (jn gs (fct F (tx c) (tx (c + 1)) (nv tx (c + 2) k) != t)) (TX.fa k h e1 e0 e2 e3 e4 e5))
    {c : Int} {t : Bool} {gs : GpS} (h : TX F tx c0 c t gs) : motive c t gs h := by
  have : ∃ h', motive c t gs h' := h (fun c t gs => ∃ h', motive c t gs h') ⟨_, st⟩ (fun _ _ _ ⟨h', m⟩ e => ⟨_, nt h' e m⟩) (fun _ _ _ ⟨h', m⟩ e => ⟨_, op h' e m⟩) (fun _ _ _ _ _ ⟨h', m⟩ n e => ⟨_, cl h' n e m⟩) (fun _ _ _ ⟨h', m⟩ e => ⟨_, an h' e m⟩) (fun _ _ _ _ _ _ ⟨h', m⟩ e => ⟨_, oo h' e m⟩) (fun _ _ _ k ⟨h', m⟩ e1 e0 e2 e3 e4 e5 => ⟨_, fa k h' e1 e0 e2 e3 e4 e5 m⟩)
  obtain ⟨h', m⟩ := this
  exact m
theorem jn_ne {gs : GpS} {v : Bool} (h : gs ≠ []) : jn gs v ≠ [] := by
  cases gs with
  | nil => exact absurd rfl h
  | cons g r => obtain ⟨a, b, t⟩ := g; intro q; cases q
theorem jn_len (gs : GpS) (v : Bool) : (jn gs v).length = gs.length := by
  cases gs with
  | nil => rfl
  | cons g r => obtain ⟨a, b, t⟩ := g; rfl
theorem TX_ge {F tx : Int → Int} {c0 c : Int} {t : Bool} {gs : GpS} (h : TX F tx c0 c t gs) : c0 ≤ c := by
  induction h using TX_ind <;> omega
theorem TX_ne {F tx : Int → Int} {c0 c : Int} {t : Bool} {gs : GpS} (h : TX F tx c0 c t gs) : gs ≠ [] := by
  induction h using TX_ind with
  | st => intro q; cases q
  | nt _ _ ih => exact ih
  | op _ _ ih => intro q; cases q
  | cl _ h2 _ _ => exact jn_ne h2
  | an _ _ ih => exact ih
  | oo _ _ ih => intro q; cases q
  | fa k _ _ _ _ _ _ _ ih => exact jn_ne ih
/-- the groups are no more than the signs read -/
theorem TX_len {F tx : Int → Int} {c0 c : Int} {t : Bool} {gs : GpS} (h : TX F tx c0 c t gs) : c0 + gs.length ≤ c + 1 := by
  induction h using TX_ind with
  | st => simp
  | nt _ _ ih => omega
  | op _ _ ih => simp only [List.length_cons]; omega
  | cl _ _ _ ih => rw [jn_len]; simp only [List.length_cons] at ih; omega
  | an _ _ ih => omega
  | oo _ _ ih => simp only [List.length_cons] at ih ⊢; omega
  | fa k _ _ _ _ _ _ _ ih => rw [jn_len]; omega
theorem fct_cg {F G : Int → Int} {l sg v : Int} (h : F l = G l) : fct F l sg v = fct G l sg v := by unfold fct; rw [h]
theorem TX_cg {F G tx : Int → Int} {c0 c : Int} {t : Bool} {gs : GpS} (hc : ∀ i, lt7 (tx i) → F (tx i) = G (tx i)) (h : TX F tx c0 c t gs) : TX G tx c0 c t gs := by
  induction h using TX_ind with
  | st => exact .st
  | nt _ h2 ih => exact .nt ih h2
  | op _ h2 ih => exact .op ih h2
  | cl _ h2 h3 ih => exact .cl ih h2 h3
  | an _ h2 ih => exact .an ih h2
  | oo _ h2 ih => exact .oo ih h2
  | fa k _ h2 h0 h3 h4 h5 h6 ih => rw [fct_cg (hc _ h2)]; exact .fa k ih h2 h0 h3 h4 h5 h6
/-- the last step -/
def lst (F tx : Int → Int) (c0 c : Int) (t : Bool) (gs : GpS) : Prop :=
  (c = c0 ∧ t = false ∧ gs = [(false, true, false)]) ∨
  (∃ p, c0 ≤ p ∧ c = p + 1 ∧ tx p = 33 ∧ ∃ t', TX F tx c0 p t' gs ∧ t = !t') ∨
  (∃ p, c0 ≤ p ∧ c = p + 1 ∧ tx p = 40 ∧ ∃ t' gs', TX F tx c0 p t' gs' ∧ t = false ∧ gs = (false, true, t') :: gs') ∨
  (∃ p, c0 ≤ p ∧ c = p + 1 ∧ tx p = 41 ∧ ∃ a b t' gs', TX F tx c0 p false ((a, b, t') :: gs') ∧ t = false ∧ gs = jn gs' ((a || b) != t')) ∨
  (∃ p, c0 ≤ p ∧ c = p + 1 ∧ tx p = 38 ∧ TX F tx c0 p t gs) ∨
  (∃ p, c0 ≤ p ∧ c = p + 1 ∧ tx p = 124 ∧ ∃ a b u gs', TX F tx c0 p t ((a, b, u) :: gs') ∧ gs = (a || b, true, u) :: gs') ∨
  (∃ p, c0 ≤ p ∧ ∃ k : Nat, c = p + 2 + k ∧ lt7 (tx p) ∧ sg3 (tx (p + 1)) ∧ 1 ≤ k ∧ k ≤ 3 ∧ (∀ j : Nat, j < k → dg10 (tx (p + 2 + j))) ∧ ∃ t' gs', TX F tx c0 p t' gs' ∧ t = false ∧ gs = jn gs' (fct F (tx p) (tx (p + 1)) (nv tx (p + 2) k) != t'))
theorem TX_lst {F tx : Int → Int} {c0 c : Int} {t : Bool} {gs : GpS} (h : TX F tx c0 c t gs) : lst F tx c0 c t gs := by
  induction h using TX_ind with
  | st => exact Or.inl ⟨rfl, rfl, rfl⟩
  | nt h e _ => exact Or.inr (Or.inl ⟨_, TX_ge h, rfl, e, _, h, rfl⟩)
  | op h e _ => exact Or.inr (Or.inr (Or.inl ⟨_, TX_ge h, rfl, e, _, _, h, rfl, rfl⟩))
  | cl h n e _ => exact Or.inr (Or.inr (Or.inr (Or.inl ⟨_, TX_ge h, rfl, e, _, _, _, _, h, rfl, rfl⟩)))
  | an h e _ => exact Or.inr (Or.inr (Or.inr (Or.inr (Or.inl ⟨_, TX_ge h, rfl, e, h⟩))))
  | oo h e _ => exact Or.inr (Or.inr (Or.inr (Or.inr (Or.inr (Or.inl ⟨_, TX_ge h, rfl, e, _, _, _, _, h, rfl⟩)))))
  | fa k h e1 e0 e2 e3 e4 e5 _ => exact Or.inr (Or.inr (Or.inr (Or.inr (Or.inr (Or.inr ⟨_, TX_ge h, k, rfl, e1, e0, e2, e3, e4, _, _, h, rfl, rfl⟩)))))
/-- the sign ahead of the place decides the last step -/
theorem TX_det {F tx : Int → Int} {c0 c : Int} {t : Bool} {gs : GpS} (h : TX F tx c0 c t gs) : ∀ (t2 : Bool) (gs2 : GpS), TX F tx c0 c t2 gs2 → t2 = t ∧ gs2 = gs := by
  have one : ∀ {p : Int} {k : Nat}, 1 ≤ k → (∀ j : Nat, j < k → dg10 (tx (p + 2 + j))) → dg10 (tx (p + 2 + k - 1)) := by
    intro p k k1 hd
    have := hd (k - 1) (by omega)
    rw [show p + 2 + ((k - 1 : Nat) : Int) = p + 2 + k - 1 by omega] at this
    exact this
  induction h using TX_ind with
  | st =>
    intro t2 gs2 h2
    rcases TX_lst h2 with ⟨z1, z2, z3⟩ | ⟨p, z0, z1, z2, z⟩ | ⟨p, z0, z1, z2, z⟩ | ⟨p, z0, z1, z2, z⟩ | ⟨p, z0, z1, z2, z⟩ | ⟨p, z0, z1, z2, z⟩ | ⟨p, z0, k, z1, z⟩
    · exact ⟨z2, z3⟩
    all_goals omega
  | @nt c t gs h e ih =>
    have hg := TX_ge h
    intro t2 gs2 h2
    rcases TX_lst h2 with ⟨z1, z2, z3⟩ | ⟨p, z0, z1, z2, z⟩ | ⟨p, z0, z1, z2, z⟩ | ⟨p, z0, z1, z2, z⟩ | ⟨p, z0, z1, z2, z⟩ | ⟨p, z0, z1, z2, z⟩ | ⟨p, z0, k, z1, z2, z3, z4, z5, z6, z⟩
    · omega
    · have : p = c := by omega
      subst this
      obtain ⟨t', q1, q2⟩ := z
      obtain ⟨r1, r2⟩ := ih _ _ q1
      exact ⟨by rw [q2, r1], r2⟩
    · rw [show p = c by omega] at z2; omega
    · rw [show p = c by omega] at z2; omega
    · rw [show p = c by omega] at z2; omega
    · rw [show p = c by omega] at z2; omega
    · have := one z4 z6
      rw [show p + 2 + (k : Int) - 1 = c by omega] at this
      omega
  | @op c t gs h e ih =>
    have hg := TX_ge h
    intro t2 gs2 h2
    rcases TX_lst h2 with ⟨z1, z2, z3⟩ | ⟨p, z0, z1, z2, z⟩ | ⟨p, z0, z1, z2, z⟩ | ⟨p, z0, z1, z2, z⟩ | ⟨p, z0, z1, z2, z⟩ | ⟨p, z0, z1, z2, z⟩ | ⟨p, z0, k, z1, z2, z3, z4, z5, z6, z⟩
    · omega
    · rw [show p = c by omega] at z2; omega
    · have : p = c := by omega
      subst this
      obtain ⟨t', gs', q1, q2, q3⟩ := z
      obtain ⟨r1, r2⟩ := ih _ _ q1
      exact ⟨q2, by rw [q3, r1, r2]⟩
    · rw [show p = c by omega] at z2; omega
    · rw [show p = c by omega] at z2; omega
    · rw [show p = c by omega] at z2; omega
    · have := one z4 z6
      rw [show p + 2 + (k : Int) - 1 = c by omega] at this
      omega
  | @cl c a b t gs h n e ih =>
    have hg := TX_ge h
    intro t2 gs2 h2
    rcases TX_lst h2 with ⟨z1, z2, z3⟩ | ⟨p, z0, z1, z2, z⟩ | ⟨p, z0, z1, z2, z⟩ | ⟨p, z0, z1, z2, z⟩ | ⟨p, z0, z1, z2, z⟩ | ⟨p, z0, z1, z2, z⟩ | ⟨p, z0, k, z1, z2, z3, z4, z5, z6, z⟩
    · omega
    · rw [show p = c by omega] at z2; omega
    · rw [show p = c by omega] at z2; omega
    · have : p = c := by omega
      subst this
      obtain ⟨a', b', t', gs', q1, q2, q3⟩ := z
      obtain ⟨r1, r2⟩ := ih _ _ q1
      cases r2
      exact ⟨q2, q3⟩
    · rw [show p = c by omega] at z2; omega
    · rw [show p = c by omega] at z2; omega
    · have := one z4 z6
      rw [show p + 2 + (k : Int) - 1 = c by omega] at this
      omega
  | @an c t gs h e ih =>
    have hg := TX_ge h
    intro t2 gs2 h2
    rcases TX_lst h2 with ⟨z1, z2, z3⟩ | ⟨p, z0, z1, z2, z⟩ | ⟨p, z0, z1, z2, z⟩ | ⟨p, z0, z1, z2, z⟩ | ⟨p, z0, z1, z2, z⟩ | ⟨p, z0, z1, z2, z⟩ | ⟨p, z0, k, z1, z2, z3, z4, z5, z6, z⟩
    · omega
    · rw [show p = c by omega] at z2; omega
    · rw [show p = c by omega] at z2; omega
    · rw [show p = c by omega] at z2; omega
    · have : p = c := by omega
      subst this
      exact ih _ _ z
    · rw [show p = c by omega] at z2; omega
    · have := one z4 z6
      rw [show p + 2 + (k : Int) - 1 = c by omega] at this
      omega
  | @oo c t a b u gs h e ih =>
    have hg := TX_ge h
    intro t2 gs2 h2
    rcases TX_lst h2 with ⟨z1, z2, z3⟩ | ⟨p, z0, z1, z2, z⟩ | ⟨p, z0, z1, z2, z⟩ | ⟨p, z0, z1, z2, z⟩ | ⟨p, z0, z1, z2, z⟩ | ⟨p, z0, z1, z2, z⟩ | ⟨p, z0, k, z1, z2, z3, z4, z5, z6, z⟩
    · omega
    · rw [show p = c by omega] at z2; omega
    · rw [show p = c by omega] at z2; omega
    · rw [show p = c by omega] at z2; omega
    · rw [show p = c by omega] at z2; omega
    · have : p = c := by omega
      subst this
      obtain ⟨a', b', u', gs', q1, q2⟩ := z
      obtain ⟨r1, r2⟩ := ih _ _ q1
      cases r2
      exact ⟨r1, q2⟩
    · have := one z4 z6
      rw [show p + 2 + (k : Int) - 1 = c by omega] at this
      omega
  | @fa c t gs k h e1 e0 e2 e3 e4 e5 ih =>
    have hg := TX_ge h
    have hk := one e2 e4
    intro t2 gs2 h2
    rcases TX_lst h2 with ⟨z1, z2, z3⟩ | ⟨p, z0, z1, z2, z⟩ | ⟨p, z0, z1, z2, z⟩ | ⟨p, z0, z1, z2, z⟩ | ⟨p, z0, z1, z2, z⟩ | ⟨p, z0, z1, z2, z⟩ | ⟨p, z0, k', z1, z2, z3, z4, z5, z6, z⟩
    · omega
    · rw [show p = c + 2 + (k : Int) - 1 by omega] at z2; omega
    · rw [show p = c + 2 + (k : Int) - 1 by omega] at z2; omega
    · rw [show p = c + 2 + (k : Int) - 1 by omega] at z2; omega
    · rw [show p = c + 2 + (k : Int) - 1 by omega] at z2; omega
    · rw [show p = c + 2 + (k : Int) - 1 by omega] at z2; omega
    · have hkk : k' = k := by
        rcases Nat.lt_trichotomy k k' with q | q | q
        · exfalso
          -- p is ahead of c
          by_cases y : c = p + 1
          · rw [← y] at z3; omega
          · have := z6 (c - p - 2).toNat (by omega)
            rw [show p + 2 + ((c - p - 2).toNat : Int) = c by omega] at this
            omega
        · exact q.symm
        · exfalso
          by_cases y : p = c + 1
          · rw [← y] at e0; omega
          · have := e4 (p - c - 2).toNat (by omega)
            rw [show c + 2 + ((p - c - 2).toNat : Int) = p by omega] at this
            omega
      subst hkk
      have : p = c := by omega
      subst this
      obtain ⟨t', gs', q1, q2, q3⟩ := z
      obtain ⟨r1, r2⟩ := ih _ _ q1
      exact ⟨q2, by rw [q3, r1, r2]⟩
/-! the code -/
def RN (F cd : Int → Int) (k0 k : Int) (vs : List Bool) : Prop := ∀ P : Int → List Bool → Prop,
  P k0 [] →
  (∀ (k : Int) (vs : List Bool), P k vs → lt7 (cd k) → rng (cd (k + 1)) → rng (cd (k + 2)) → P (k + 3) (fct F (cd k) (cd (k + 1)) (cd (k + 2)) :: vs)) →
  (∀ (k : Int) (x : Bool) (vs : List Bool), P k (x :: vs) → cd k = 0 → P (k + 1) ((!x) :: vs)) →
  (∀ (k : Int) (x y : Bool) (vs : List Bool), P k (y :: x :: vs) → cd k = 1 → P (k + 1) ((x && y) :: vs)) →
  (∀ (k : Int) (x y : Bool) (vs : List Bool), P k (y :: x :: vs) → cd k = 2 → P (k + 1) ((x || y) :: vs)) →
  P k vs
theorem RN.st {F cd : Int → Int} {k0 : Int} : RN F cd k0 k0 [] := fun _ h _ _ _ _ => h
theorem RN.f {F cd : Int → Int} {k0 k : Int} {vs : List Bool} (h : RN F cd k0 k vs) (e1 : lt7 (cd k)) (e2 : rng (cd (k + 1))) (e3 : rng (cd (k + 2))) : RN F cd k0 (k + 3) (fct F (cd k) (cd (k + 1)) (cd (k + 2)) :: vs) := fun P q1 q2 q3 q4 q5 => q2 _ _ (h P q1 q2 q3 q4 q5) e1 e2 e3
theorem RN.n {F cd : Int → Int} {k0 k : Int} {x : Bool} {vs : List Bool} (h : RN F cd k0 k (x :: vs)) (e : cd k = 0) : RN F cd k0 (k + 1) ((!x) :: vs) := fun P q1 q2 q3 q4 q5 => q3 _ _ _ (h P q1 q2 q3 q4 q5) e
theorem RN.a {F cd : Int → Int} {k0 k : Int} {x y : Bool} {vs : List Bool} (h : RN F cd k0 k (y :: x :: vs)) (e : cd k = 1) : RN F cd k0 (k + 1) ((x && y) :: vs) := fun P q1 q2 q3 q4 q5 => q4 _ _ _ _ (h P q1 q2 q3 q4 q5) e
theorem RN.o {F cd : Int → Int} {k0 k : Int} {x y : Bool} {vs : List Bool} (h : RN F cd k0 k (y :: x :: vs)) (e : cd k = 2) : RN F cd k0 (k + 1) ((x || y) :: vs) := fun P q1 q2 q3 q4 q5 => q5 _ _ _ _ (h P q1 q2 q3 q4 q5) e
theorem RN_ind {F cd : Int → Int} {k0 : Int} {motive : (k : Int) → (vs : List Bool) → RN F cd k0 k vs → Prop}
    (st : motive k0 [] RN.st)
    (f : ∀ {k : Int} {vs : List Bool} (h : RN F cd k0 k vs) (e1 : lt7 (cd k)) (e2 : rng (cd (k + 1))) (e3 : rng (cd (k + 2))), motive k vs h → motive (k + 3) (fct F (cd k) (cd (k + 1)) (cd (k + 2)) :: vs) (RN.f h e1 e2 e3))
    (n : ∀ {k : Int} {x : Bool} {vs : List Bool} (h : RN F cd k0 k (x :: vs)) (e : cd k = 0), motive k (x :: vs) h → motive (k + 1) ((!x) :: vs) (RN.n h e))
    (a : ∀ {k : Int} {x y : Bool} {vs : List Bool} (h : RN F cd k0 k (y :: x :: vs)) (e : cd k = 1), motive k (y :: x :: vs) h → motive (k + 1) ((x && y) :: vs) (RN.a h e))
    (o : ∀ {k : Int} {x y : Bool} {vs : List Bool} (h : RN F cd k0 k (y :: x :: vs)) (e : cd k = 2), motive k (y :: x :: vs) h → motive (k + 1) ((x || y) :: vs) (RN.o h e))
    {k : Int} {vs : List Bool} (h : RN F cd k0 k vs) : motive k vs h := by
  have : ∃ h', motive k vs h' := h (fun k vs => ∃ h', motive k vs h') ⟨_, st⟩ (fun _ _ ⟨h', m⟩ e1 e2 e3 => ⟨_, f h' e1 e2 e3 m⟩) (fun _ _ _ ⟨h', m⟩ e => ⟨_, n h' e m⟩) (fun _ _ _ _ ⟨h', m⟩ e => ⟨_, a h' e m⟩) (fun _ _ _ _ ⟨h', m⟩ e => ⟨_, o h' e m⟩)
  obtain ⟨h', m⟩ := this
  exact m
theorem RN_up {F cd cd' : Int → Int} {k0 k : Int} {vs : List Bool} (h : RN F cd k0 k vs) : (∀ j, k0 ≤ j → j < k → cd' j = cd j) → RN F cd' k0 k vs := by
  have ge : ∀ {k : Int} {vs : List Bool}, RN F cd k0 k vs → k0 ≤ k := by
    intro k vs h
    induction h using RN_ind <;> omega
  induction h using RN_ind with
  | st => intro _; exact .st
  | @f k vs h1 h2 h3 h4 ih =>
    intro q
    have := ge h1
    rw [← q k (by omega) (by omega), ← q (k + 1) (by omega) (by omega), ← q (k + 2) (by omega) (by omega)]
    exact .f (ih (fun j a b => q j a (by omega))) (by rw [q k (by omega) (by omega)]; exact h2) (by rw [q (k + 1) (by omega) (by omega)]; exact h3) (by rw [q (k + 2) (by omega) (by omega)]; exact h4)
  | @n k x vs h1 h2 ih => intro q; exact .n (ih (fun j a b => q j a (by omega))) (by rw [q k (ge h1) (by omega)]; exact h2)
  | @a k x y vs h1 h2 ih => intro q; exact .a (ih (fun j a b => q j a (by omega))) (by rw [q k (ge h1) (by omega)]; exact h2)
  | @o k x y vs h1 h2 ih => intro q; exact .o (ih (fun j a b => q j a (by omega))) (by rw [q k (ge h1) (by omega)]; exact h2)
theorem RN_len {F cd : Int → Int} {k0 k : Int} {vs : List Bool} (h : RN F cd k0 k vs) : k0 + 3 * vs.length ≤ k := by
  induction h using RN_ind with
  | st => simp
  | f _ _ _ _ ih => simp only [List.length_cons] at ih ⊢; omega
  | n _ _ ih => simp only [List.length_cons] at ih ⊢; omega
  | a _ _ ih => simp only [List.length_cons] at ih ⊢; omega
  | o _ _ ih => simp only [List.length_cons] at ih ⊢; omega
/-! the operators that wait -/
def una (m : Int) : List Int → List Int × List Int
  | [] => ([], [])
  | o :: r => if o ≤ m then (o :: (una m r).1, (una m r).2) else ([], o :: r)
theorem una_y {m o : Int} {r : List Int} (h : o ≤ m) : una m (o :: r) = (o :: (una m r).1, (una m r).2) := if_pos h
theorem una_n {m o : Int} {r : List Int} (h : ¬ o ≤ m) : una m (o :: r) = ([], o :: r) := if_neg h
def PS : List Int → List Bool → List Bool → Prop
  | [], vs, ws => vs = ws
  | o :: r, vs, ws => (o = 0 ∧ ∃ x us, vs = x :: us ∧ PS r ((!x) :: us) ws) ∨ (o = 1 ∧ ∃ x y us, vs = y :: x :: us ∧ PS r ((x && y) :: us) ws) ∨ (o = 2 ∧ ∃ x y us, vs = y :: x :: us ∧ PS r ((x || y) :: us) ws)
theorem PS.e {vs : List Bool} : PS [] vs vs := rfl
theorem PS.n {x : Bool} {vs ws : List Bool} {r : List Int} (h : PS r ((!x) :: vs) ws) : PS (0 :: r) (x :: vs) ws := Or.inl ⟨rfl, _, _, rfl, h⟩
theorem PS.a {x y : Bool} {vs ws : List Bool} {r : List Int} (h : PS r ((x && y) :: vs) ws) : PS (1 :: r) (y :: x :: vs) ws := Or.inr (Or.inl ⟨rfl, _, _, _, rfl, h⟩)
theorem PS.o {x y : Bool} {vs ws : List Bool} {r : List Int} (h : PS r ((x || y) :: vs) ws) : PS (2 :: r) (y :: x :: vs) ws := Or.inr (Or.inr ⟨rfl, _, _, _, rfl, h⟩)
def wr (cd : Int → Int) : Int → List Int → Prop
  | _, [] => True
  | k, o :: r => cd k = o ∧ wr cd (k + 1) r
theorem RN_ps {F cd : Int → Int} {k0 : Int} {l : List Int} : ∀ {vs ws : List Bool}, PS l vs ws → ∀ k, RN F cd k0 k vs → wr cd k l → RN F cd k0 (k + l.length) ws := by
  induction l with
  | nil => intro vs ws h k hr _; have h : vs = ws := h; subst h; simpa using hr
  | cons o r ih =>
    intro vs ws h k hr hw
    rw [List.length_cons, show k + ((r.length + 1 : Nat) : Int) = k + 1 + (r.length : Nat) by omega]
    obtain ⟨w1, w2⟩ := hw
    rcases h with ⟨rfl, x, us, rfl, h⟩ | ⟨rfl, x, y, us, rfl, h⟩ | ⟨rfl, x, y, us, rfl, h⟩
    · exact ih h (k + 1) (.n hr w1) w2
    · exact ih h (k + 1) (.a hr w1) w2
    · exact ih h (k + 1) (.o hr w1) w2
/-- how groups, operators and values stand to each other: 0 in a bracket's context, 1 before an operand, 2 behind it -/
def CC (n : Nat) (ops : List Int) (t : Bool) (gs : GpS) (vs : List Bool) : Prop := ∀ P : Nat → List Int → Bool → GpS → List Bool → Prop,
  P 0 [] false [] [] →
  (∀ (ops : List Int) (t : Bool) (gs : GpS) (vs : List Bool), P 1 ops t gs vs → P 0 (9 :: ops) t gs vs) →
  (∀ (ops : List Int) (t : Bool) (gs : GpS) (vs : List Bool), P 0 ops t gs vs → P 1 ops false ((false, true, t) :: gs) vs) →
  (∀ (ops : List Int) (t : Bool) (gs : GpS) (vs : List Bool) (x : Bool), P 0 ops t gs vs → P 1 (1 :: ops) false ((false, x, t) :: gs) (x :: vs)) →
  (∀ (ops : List Int) (t : Bool) (gs : GpS) (vs : List Bool) (x : Bool), P 0 ops t gs vs → P 1 (2 :: ops) false ((x, true, t) :: gs) (x :: vs)) →
  (∀ (ops : List Int) (t : Bool) (gs : GpS) (vs : List Bool) (x y : Bool), P 0 ops t gs vs → P 1 (1 :: 2 :: ops) false ((x, y, t) :: gs) (y :: x :: vs)) →
  (∀ (ops : List Int) (t : Bool) (gs : GpS) (vs : List Bool), P 1 ops t gs vs → P 1 (0 :: ops) (!t) gs vs) →
  (∀ (ops : List Int) (t : Bool) (gs : GpS) (vs : List Bool) (x : Bool), P 0 ops t gs vs → P 2 ops false ((false, x, t) :: gs) (x :: vs)) →
  (∀ (ops : List Int) (t : Bool) (gs : GpS) (vs : List Bool) (x y : Bool), P 0 ops t gs vs → P 2 (1 :: ops) false ((false, x && y, t) :: gs) (y :: x :: vs)) →
  (∀ (ops : List Int) (t : Bool) (gs : GpS) (vs : List Bool) (x y : Bool), P 0 ops t gs vs → P 2 (2 :: ops) false ((x, y, t) :: gs) (y :: x :: vs)) →
  (∀ (ops : List Int) (t : Bool) (gs : GpS) (vs : List Bool) (x y z : Bool), P 0 ops t gs vs → P 2 (1 :: 2 :: ops) false ((x, y && z, t) :: gs) (z :: y :: x :: vs)) →
  P n ops t gs vs
theorem CC.b : CC 0 [] false [] [] := fun P q1 q2 q3 q4 q5 q6 q7 q8 q9 q10 q11 => q1
theorem CC.g {ops : List Int} {t : Bool} {gs : GpS} {vs : List Bool} (h : CC 1 ops t gs vs) : CC 0 (9 :: ops) t gs vs := fun P q1 q2 q3 q4 q5 q6 q7 q8 q9 q10 q11 => q2 _ _ _ _ (h P q1 q2 q3 q4 q5 q6 q7 q8 q9 q10 q11)
theorem CC.e0 {ops : List Int} {t : Bool} {gs : GpS} {vs : List Bool} (h : CC 0 ops t gs vs) : CC 1 ops false ((false, true, t) :: gs) vs := fun P q1 q2 q3 q4 q5 q6 q7 q8 q9 q10 q11 => q3 _ _ _ _ (h P q1 q2 q3 q4 q5 q6 q7 q8 q9 q10 q11)
theorem CC.e1 {ops : List Int} {t : Bool} {gs : GpS} {vs : List Bool} {x : Bool} (h : CC 0 ops t gs vs) : CC 1 (1 :: ops) false ((false, x, t) :: gs) (x :: vs) := fun P q1 q2 q3 q4 q5 q6 q7 q8 q9 q10 q11 => q4 _ _ _ _ _ (h P q1 q2 q3 q4 q5 q6 q7 q8 q9 q10 q11)
theorem CC.e2 {ops : List Int} {t : Bool} {gs : GpS} {vs : List Bool} {x : Bool} (h : CC 0 ops t gs vs) : CC 1 (2 :: ops) false ((x, true, t) :: gs) (x :: vs) := fun P q1 q2 q3 q4 q5 q6 q7 q8 q9 q10 q11 => q5 _ _ _ _ _ (h P q1 q2 q3 q4 q5 q6 q7 q8 q9 q10 q11)
theorem CC.e3 {ops : List Int} {t : Bool} {gs : GpS} {vs : List Bool} {x y : Bool} (h : CC 0 ops t gs vs) : CC 1 (1 :: 2 :: ops) false ((x, y, t) :: gs) (y :: x :: vs) := fun P q1 q2 q3 q4 q5 q6 q7 q8 q9 q10 q11 => q6 _ _ _ _ _ _ (h P q1 q2 q3 q4 q5 q6 q7 q8 q9 q10 q11)
theorem CC.en {ops : List Int} {t : Bool} {gs : GpS} {vs : List Bool} (h : CC 1 ops t gs vs) : CC 1 (0 :: ops) (!t) gs vs := fun P q1 q2 q3 q4 q5 q6 q7 q8 q9 q10 q11 => q7 _ _ _ _ (h P q1 q2 q3 q4 q5 q6 q7 q8 q9 q10 q11)
theorem CC.d0 {ops : List Int} {t : Bool} {gs : GpS} {vs : List Bool} {x : Bool} (h : CC 0 ops t gs vs) : CC 2 ops false ((false, x, t) :: gs) (x :: vs) := fun P q1 q2 q3 q4 q5 q6 q7 q8 q9 q10 q11 => q8 _ _ _ _ _ (h P q1 q2 q3 q4 q5 q6 q7 q8 q9 q10 q11)
theorem CC.d1 {ops : List Int} {t : Bool} {gs : GpS} {vs : List Bool} {x y : Bool} (h : CC 0 ops t gs vs) : CC 2 (1 :: ops) false ((false, x && y, t) :: gs) (y :: x :: vs) := fun P q1 q2 q3 q4 q5 q6 q7 q8 q9 q10 q11 => q9 _ _ _ _ _ _ (h P q1 q2 q3 q4 q5 q6 q7 q8 q9 q10 q11)
theorem CC.d2 {ops : List Int} {t : Bool} {gs : GpS} {vs : List Bool} {x y : Bool} (h : CC 0 ops t gs vs) : CC 2 (2 :: ops) false ((x, y, t) :: gs) (y :: x :: vs) := fun P q1 q2 q3 q4 q5 q6 q7 q8 q9 q10 q11 => q10 _ _ _ _ _ _ (h P q1 q2 q3 q4 q5 q6 q7 q8 q9 q10 q11)
theorem CC.d3 {ops : List Int} {t : Bool} {gs : GpS} {vs : List Bool} {x y z : Bool} (h : CC 0 ops t gs vs) : CC 2 (1 :: 2 :: ops) false ((x, y && z, t) :: gs) (z :: y :: x :: vs) := fun P q1 q2 q3 q4 q5 q6 q7 q8 q9 q10 q11 => q11 _ _ _ _ _ _ _ (h P q1 q2 q3 q4 q5 q6 q7 q8 q9 q10 q11)
theorem CC_ind {motive : (n : Nat) → (ops : List Int) → (t : Bool) → (gs : GpS) → (vs : List Bool) → CC n ops t gs vs → Prop}
    (b : motive 0 [] false [] [] CC.b)
    (g : ∀ {ops : List Int} {t : Bool} {gs : GpS} {vs : List Bool} (h : CC 1 ops t gs vs), motive 1 ops t gs vs h → motive 0 (9 :: ops) t gs vs (CC.g h))
    (e0 : ∀ {ops : List Int} {t : Bool} {gs : GpS} {vs : List Bool} (h : CC 0 ops t gs vs), motive 0 ops t gs vs h → motive 1 ops false ((false, true, t) :: gs) vs (CC.e0 h))
    (e1 : ∀ {ops : List Int} {t : Bool} {gs : GpS} {vs : List Bool} {x : Bool} (h : CC 0 ops t gs vs), motive 0 ops t gs vs h → motive 1 (1 :: ops) false ((false, x, t) :: gs) (x :: vs) (CC.e1 h))
    (e2 : ∀ {ops : List Int} {t : Bool} {gs : GpS} {vs : List Bool} {x : Bool} (h : CC 0 ops t gs vs), motive 0 ops t gs vs h → motive 1 (2 :: ops) false ((x, true, t) :: gs) (x :: vs) (CC.e2 h))
    (e3 : ∀ {ops : List Int} {t : Bool} {gs : GpS} {vs : List Bool} {x y : Bool} (h : CC 0 ops t gs vs), motive 0 ops t gs vs h → motive 1 (1 :: 2 :: ops) false ((x, y, t) :: gs) (y :: x :: vs) (CC.e3 h))
    (en : ∀ {ops : List Int} {t : Bool} {gs : GpS} {vs : List Bool} (h : CC 1 ops t gs vs), motive 1 ops t gs vs h → motive 1 (0 :: ops) (!t) gs vs (CC.en h))
    (d0 : ∀ {ops : List Int} {t : Bool} {gs : GpS} {vs : List Bool} {x : Bool} (h : CC 0 ops t gs vs), motive 0 ops t gs vs h → motive 2 ops false ((false, x, t) :: gs) (x :: vs) (CC.d0 h))
    (d1 : ∀ {ops : List Int} {t : Bool} {gs : GpS} {vs : List Bool} {x y : Bool} (h : CC 0 ops t gs vs), motive 0 ops t gs vs h → motive 2 (1 :: ops) false ((false, x && y, t) :: gs) (y :: x :: vs) (CC.d1 h))
    (d2 : ∀ {ops : List Int} {t : Bool} {gs : GpS} {vs : List Bool} {x y : Bool} (h : CC 0 ops t gs vs), motive 0 ops t gs vs h → motive 2 (2 :: ops) false ((x, y, t) :: gs) (y :: x :: vs) (CC.d2 h))
    (d3 : ∀ {ops : List Int} {t : Bool} {gs : GpS} {vs : List Bool} {x y z : Bool} (h : CC 0 ops t gs vs), motive 0 ops t gs vs h → motive 2 (1 :: 2 :: ops) false ((x, y && z, t) :: gs) (z :: y :: x :: vs) (CC.d3 h))
    {n : Nat} {ops : List Int} {t : Bool} {gs : GpS} {vs : List Bool} (h : CC n ops t gs vs) : motive n ops t gs vs h := by
  have : ∃ h', motive n ops t gs vs h' := h (fun n ops t gs vs => ∃ h', motive n ops t gs vs h') ⟨_, b⟩ (fun _ _ _ _ ⟨h', m⟩ => ⟨_, g h' m⟩) (fun _ _ _ _ ⟨h', m⟩ => ⟨_, e0 h' m⟩) (fun _ _ _ _ _ ⟨h', m⟩ => ⟨_, e1 h' m⟩) (fun _ _ _ _ _ ⟨h', m⟩ => ⟨_, e2 h' m⟩) (fun _ _ _ _ _ _ ⟨h', m⟩ => ⟨_, e3 h' m⟩) (fun _ _ _ _ ⟨h', m⟩ => ⟨_, en h' m⟩) (fun _ _ _ _ _ ⟨h', m⟩ => ⟨_, d0 h' m⟩) (fun _ _ _ _ _ _ ⟨h', m⟩ => ⟨_, d1 h' m⟩) (fun _ _ _ _ _ _ ⟨h', m⟩ => ⟨_, d2 h' m⟩) (fun _ _ _ _ _ _ _ ⟨h', m⟩ => ⟨_, d3 h' m⟩)
  obtain ⟨h', m⟩ := this
  exact m
theorem CC0_inv {n : Nat} {ops : List Int} {t : Bool} {gs : GpS} {vs : List Bool} (h : CC n ops t gs vs) : n = 0 → (ops = [] ∧ t = false ∧ gs = [] ∧ vs = []) ∨ ∃ o, ops = 9 :: o ∧ CC 1 o t gs vs := by
  induction h using CC_ind with
  | b => intro _; exact Or.inl ⟨rfl, rfl, rfl, rfl⟩
  | g h _ => intro _; exact Or.inr ⟨_, rfl, h⟩
  | e0 _ _ => intro q; exact absurd q (by decide)
  | e1 _ _ => intro q; exact absurd q (by decide)
  | e2 _ _ => intro q; exact absurd q (by decide)
  | e3 _ _ => intro q; exact absurd q (by decide)
  | en _ _ => intro q; exact absurd q (by decide)
  | d0 _ _ => intro q; exact absurd q (by decide)
  | d1 _ _ => intro q; exact absurd q (by decide)
  | d2 _ _ => intro q; exact absurd q (by decide)
  | d3 _ _ => intro q; exact absurd q (by decide)
theorem CC2_inv {n : Nat} {ops : List Int} {f : Bool} {gs : GpS} {vs : List Bool} (h : CC n ops f gs vs) : n = 2 → f = false ∧ ∃ o t g v, CC 0 o t g v ∧ ((∃ x, ops = o ∧ gs = (false, x, t) :: g ∧ vs = x :: v) ∨ (∃ x y, ops = 1 :: o ∧ gs = (false, x && y, t) :: g ∧ vs = y :: x :: v) ∨ (∃ x y, ops = 2 :: o ∧ gs = (x, y, t) :: g ∧ vs = y :: x :: v) ∨ (∃ x y z, ops = 1 :: 2 :: o ∧ gs = (x, y && z, t) :: g ∧ vs = z :: y :: x :: v)) := by
  induction h using CC_ind with
  | b => intro q; exact absurd q (by decide)
  | g _ _ => intro q; exact absurd q (by decide)
  | e0 _ _ => intro q; exact absurd q (by decide)
  | e1 _ _ => intro q; exact absurd q (by decide)
  | e2 _ _ => intro q; exact absurd q (by decide)
  | e3 _ _ => intro q; exact absurd q (by decide)
  | en _ _ => intro q; exact absurd q (by decide)
  | d0 h _ => intro _; exact ⟨rfl, _, _, _, _, h, Or.inl ⟨_, rfl, rfl, rfl⟩⟩
  | d1 h _ => intro _; exact ⟨rfl, _, _, _, _, h, Or.inr (Or.inl ⟨_, _, rfl, rfl, rfl⟩)⟩
  | d2 h _ => intro _; exact ⟨rfl, _, _, _, _, h, Or.inr (Or.inr (Or.inl ⟨_, _, rfl, rfl, rfl⟩))⟩
  | d3 h _ => intro _; exact ⟨rfl, _, _, _, _, h, Or.inr (Or.inr (Or.inr ⟨_, _, _, rfl, rfl, rfl⟩))⟩
theorem cc0_una {ops : List Int} {t : Bool} {gs : GpS} {vs : List Bool} (h : CC 0 ops t gs vs) {m : Int} (hm : m ≤ 2) : una m ops = ([], ops) := by
  rcases CC0_inv h rfl with ⟨rfl, -⟩ | ⟨o, rfl, -⟩
  · rfl
  · exact una_n (by omega)
theorem cc1_ne {n : Nat} {ops : List Int} {t : Bool} {gs : GpS} {vs : List Bool} (h : CC n ops t gs vs) : n = 1 → gs ≠ [] := by
  induction h using CC_ind with
  | en _ ih => intro _; exact ih rfl
  | b => intro q; exact absurd q (by decide)
  | g _ _ => intro q; exact absurd q (by decide)
  | e0 _ _ => intro _ z; cases z
  | e1 _ _ => intro _ z; cases z
  | e2 _ _ => intro _ z; cases z
  | e3 _ _ => intro _ z; cases z
  | d0 _ _ => intro q; exact absurd q (by decide)
  | d1 _ _ => intro q; exact absurd q (by decide)
  | d2 _ _ => intro q; exact absurd q (by decide)
  | d3 _ _ => intro q; exact absurd q (by decide)
theorem cc_operand {n : Nat} {ops : List Int} {t : Bool} {gs : GpS} {vs : List Bool} (h : CC n ops t gs vs) : n = 1 → ∀ v : Bool, ∃ ws, PS (una 0 ops).1 (v :: vs) ws ∧ CC 2 (una 0 ops).2 false (jn gs (v != t)) ws := by
  induction h using CC_ind with
  | b => intro q; exact absurd q (by decide)
  | g _ _ => intro q; exact absurd q (by decide)
  | e0 h _ =>
    intro _ v
    rw [cc0_una h (by decide)]
    exact ⟨_, .e, by cases v <;> exact .d0 h⟩
  | e1 h _ =>
    intro _ v
    rw [una_n (by decide)]
    exact ⟨_, .e, by cases v <;> exact .d1 h⟩
  | e2 h _ =>
    intro _ v
    rw [una_n (by decide)]
    exact ⟨_, .e, by cases v <;> exact .d2 h⟩
  | e3 h _ =>
    intro _ v
    rw [una_n (by decide)]
    exact ⟨_, .e, by cases v <;> exact .d3 h⟩
  | @en ops t gs vs h ih =>
    intro _ v
    rw [una_y (by decide)]
    obtain ⟨ws, h1, h2⟩ := ih rfl (!v)
    refine ⟨ws, .n h1, ?_⟩
    rw [show (v != !t) = ((!v) != t) by cases v <;> cases t <;> rfl]
    exact h2
  | d0 _ _ => intro q; exact absurd q (by decide)
  | d1 _ _ => intro q; exact absurd q (by decide)
  | d2 _ _ => intro q; exact absurd q (by decide)
  | d3 _ _ => intro q; exact absurd q (by decide)
/-- all of a row, and all rows, are taken together -/
theorem cc_all {ops : List Int} {f : Bool} {g : Bool × Bool × Bool} {gs : GpS} {vs : List Bool} (h : CC 2 ops f (g :: gs) vs) : ∃ r, PS (una 2 ops).1 vs ((g.1 || g.2.1) :: r) ∧ CC 0 (una 2 ops).2 g.2.2 gs r := by
  obtain ⟨-, o, t, g', v, h0, c⟩ := CC2_inv h rfl
  rcases c with ⟨x, rfl, e, rfl⟩ | ⟨x, y, rfl, e, rfl⟩ | ⟨x, y, rfl, e, rfl⟩ | ⟨x, y, z, rfl, e, rfl⟩ <;> cases e
  · rw [cc0_una h0 (by decide)]; exact ⟨_, .e, h0⟩
  · rw [una_y (by decide), cc0_una h0 (by decide)]; exact ⟨_, .a .e, h0⟩
  · rw [una_y (by decide), cc0_una h0 (by decide)]; exact ⟨_, .o .e, h0⟩
  · rw [una_y (by decide), una_y (by decide), cc0_una h0 (by decide)]; exact ⟨_, .a (.o .e), h0⟩
theorem cc_and {ops : List Int} {f : Bool} {gs : GpS} {vs : List Bool} (h : CC 2 ops f gs vs) : ∃ ws, PS (una 1 ops).1 vs ws ∧ CC 1 (1 :: (una 1 ops).2) false gs ws := by
  obtain ⟨-, o, t, g', v, h0, c⟩ := CC2_inv h rfl
  rcases c with ⟨x, rfl, rfl, rfl⟩ | ⟨x, y, rfl, rfl, rfl⟩ | ⟨x, y, rfl, rfl, rfl⟩ | ⟨x, y, z, rfl, rfl, rfl⟩
  · rw [cc0_una h0 (by decide)]; exact ⟨_, .e, .e1 h0⟩
  · rw [una_y (by decide), cc0_una h0 (by decide)]; exact ⟨_, .a .e, .e1 h0⟩
  · rw [una_n (by decide)]; exact ⟨_, .e, .e3 h0⟩
  · rw [una_y (by decide), una_n (by decide)]; exact ⟨_, .a .e, .e3 h0⟩
theorem cc0_end {ops : List Int} {t : Bool} {r : List Bool} (h : CC 0 ops t [] r) : ops = [] ∧ t = false ∧ r = [] := by
  rcases CC0_inv h rfl with ⟨h1, h2, -, h3⟩ | ⟨o, -, h⟩
  · exact ⟨h1, h2, h3⟩
  · exact absurd rfl (cc1_ne h rfl)
theorem cc0_open {ops : List Int} {t : Bool} {gs : GpS} {r : List Bool} (h : CC 0 ops t gs r) (hg : gs ≠ []) : ∃ o2, ops = 9 :: o2 ∧ CC 1 o2 t gs r := by
  rcases CC0_inv h rfl with ⟨-, -, h, -⟩ | h
  · exact absurd h hg
  · exact h
theorem cc_f {n : Nat} {ops : List Int} {f : Bool} {gs : GpS} {vs : List Bool} (h : CC n ops f gs vs) : n = 2 → f = false := fun q => (CC2_inv h q).1
end
