section
/-! GRAVES: how many ways -/
def sumN (f : Nat → Nat) : Nat → Nat
  | 0 => 0
  | n + 1 => sumN f n + f n
theorem sumN_s (f : Nat → Nat) (n : Nat) : sumN f (n + 1) = sumN f n + f n := rfl
theorem sumN_c {f g : Nat → Nat} : ∀ n : Nat, (∀ i, i < n → f i = g i) → sumN f n = sumN g n := by
  intro n
  induction n with
  | zero => intro _; rfl
  | succ n ih => intro h; rw [sumN_s, sumN_s, ih (fun i hi => h i (by omega)), h n (by omega)]
theorem sumN_add {f g : Nat → Nat} : ∀ n : Nat, sumN (fun i => f i + g i) n = sumN f n + sumN g n := by
  intro n
  induction n with
  | zero => rfl
  | succ n ih => rw [sumN_s, sumN_s, sumN_s, ih]; omega
theorem sumN_0 : ∀ n : Nat, sumN (fun _ => 0) n = 0 := by
  intro n
  induction n with
  | zero => rfl
  | succ n ih => rw [sumN_s, ih]
theorem sumN_mul {f : Nat → Nat} {c : Nat} : ∀ n : Nat, sumN (fun i => c * f i) n = c * sumN f n := by
  intro n
  induction n with
  | zero => rfl
  | succ n ih => rw [sumN_s, sumN_s, ih, Nat.mul_add]
theorem sumN_pos {f : Nat → Nat} : ∀ n : Nat, 0 < sumN f n ↔ ∃ i, i < n ∧ 0 < f i := by
  intro n
  induction n with
  | zero => exact ⟨fun h => absurd h (Nat.lt_irrefl 0), fun ⟨i, h, _⟩ => absurd h (by omega)⟩
  | succ n ih =>
    rw [sumN_s]
    constructor
    · intro h
      by_cases c : 0 < f n
      · exact ⟨n, by omega, c⟩
      · obtain ⟨i, h1, h2⟩ := ih.mp (by omega)
        exact ⟨i, by omega, h2⟩
    · rintro ⟨i, h1, h2⟩
      by_cases c : i = n
      · rw [← c]; omega
      · have := ih.mpr ⟨i, by omega, h2⟩; omega
theorem sumN_le {f : Nat → Nat} {c : Nat} : ∀ n : Nat, (∀ i, i < n → f i ≤ c) → sumN f n ≤ n * c := by
  intro n
  induction n with
  | zero => intro _; exact Nat.zero_le _
  | succ n ih =>
    intro h
    have := ih (fun i hi => h i (by omega))
    have h2 := h n (by omega)
    rw [sumN_s, Nat.succ_mul]
    omega
theorem sumN_up {w v : Nat → Nat} {i d : Nat} : ∀ n : Nat, sumN (fun k => (if k = i then w k + d else w k) * v k) n = sumN (fun k => w k * v k) n + if i < n then d * v i else 0 := by
  intro n
  induction n with
  | zero => rw [if_neg (by omega)]; rfl
  | succ n ih =>
    rw [sumN_s, sumN_s, ih]
    by_cases c : n = i
    · subst c
      rw [if_pos rfl, if_neg (by omega), if_pos (by omega), Nat.add_mul]
      omega
    · rw [if_neg c]
      by_cases e : i < n
      · rw [if_pos e, if_pos (by omega)]; omega
      · rw [if_neg e, if_neg (by omega)]; omega
/-- with one more -/
def wth (K : Nat → Bool) (p : Nat) : Nat → Bool := fun x => K x || decide (x = p)
theorem wth_c (K : Nat → Bool) (p q : Nat) : wth (wth K p) q = wth (wth K q) p := by
  funext x
  unfold wth
  cases K x <;> cases decide (x = p) <;> cases decide (x = q) <;> rfl
theorem wth_n {K : Nat → Bool} {p q : Nat} (h : q ≠ p) : wth K p q = K q := by
  unfold wth
  rw [decide_eq_false h, Bool.or_false]
/-- in how many ways these sets get one each, none of those that are had, none twice -/
def Vw (g : Nat → Nat → Bool) (f : Nat → Nat) (M : Nat) : List Nat → (Nat → Bool) → Nat
  | [], _ => 1
  | s :: r, K => sumN (fun m => if g s m = true ∧ K (f m) = false then Vw g f M r (wth K (f m)) else 0) M
def cols (sp : Nat → Nat) (W : List Nat → Nat) : List Nat → Nat
  | [] => 0
  | s :: r => sp s * W r + cols sp (fun l => W (s :: l)) r
theorem cols_0 (sp : Nat → Nat) : ∀ r : List Nat, cols sp (fun _ => 0) r = 0 := by
  intro r
  induction r with
  | nil => rfl
  | cons s r ih => show sp s * 0 + cols sp (fun _ => 0) r = 0; rw [ih]; rfl
theorem cols_add {sp : Nat → Nat} : ∀ (r : List Nat) (W W' : List Nat → Nat), cols sp (fun l => W l + W' l) r = cols sp W r + cols sp W' r := by
  intro r
  induction r with
  | nil => intro W W'; rfl
  | cons s r ih =>
    intro W W'
    show sp s * (W r + W' r) + cols sp (fun l => W (s :: l) + W' (s :: l)) r = (sp s * W r + cols sp (fun l => W (s :: l)) r) + (sp s * W' r + cols sp (fun l => W' (s :: l)) r)
    rw [ih, Nat.mul_add]
    omega
theorem cols_sum {sp : Nat → Nat} {W : Nat → List Nat → Nat} (r : List Nat) : ∀ n : Nat, sumN (fun m => cols sp (W m) r) n = cols sp (fun l => sumN (fun m => W m l) n) r := by
  intro n
  induction n with
  | zero => exact (cols_0 sp r).symm
  | succ n ih =>
    rw [sumN_s, ih, ← cols_add]
    rfl
def spl (g : Nat → Nat → Bool) (f : Nat → Nat) (M p s : Nat) : Nat := sumN (fun m => if g s m = true ∧ f m = p then 1 else 0) M
theorem Vw_col {g : Nat → Nat → Bool} {f : Nat → Nat} {M p : Nat} : ∀ (A : List Nat) (K : Nat → Bool), K p = false → Vw g f M A K = Vw g f M A (wth K p) + cols (spl g f M p) (fun l => Vw g f M l (wth K p)) A := by
  intro A
  induction A with
  | nil => intro K _; rfl
  | cons s r ih =>
    intro K hK
    show sumN _ M = sumN _ M + (spl g f M p s * Vw g f M r (wth K p) + cols (spl g f M p) (fun l => Vw g f M (s :: l) (wth K p)) r)
    have e3 : cols (spl g f M p) (fun l => Vw g f M (s :: l) (wth K p)) r = sumN (fun m => if g s m = true ∧ wth K p (f m) = false then cols (spl g f M p) (fun l => Vw g f M l (wth (wth K p) (f m))) r else 0) M := by
      show cols (spl g f M p) (fun l => sumN (fun m => if g s m = true ∧ wth K p (f m) = false then Vw g f M l (wth (wth K p) (f m)) else 0) M) r = _
      rw [← cols_sum]
      refine sumN_c M (fun m _ => ?_)
      by_cases c : g s m = true ∧ wth K p (f m) = false
      · rw [if_pos c]
        congr 1
        funext l
        rw [if_pos c]
      · rw [if_neg c]
        have : (fun l => if g s m = true ∧ wth K p (f m) = false then Vw g f M l (wth (wth K p) (f m)) else 0) = fun _ => 0 := by funext l; rw [if_neg c]
        rw [this]
        exact cols_0 _ _
    have e1 : spl g f M p s * Vw g f M r (wth K p) = sumN (fun m => if g s m = true ∧ f m = p then Vw g f M r (wth K p) else 0) M := by
      rw [Nat.mul_comm]
      unfold spl
      rw [← sumN_mul]
      refine sumN_c M (fun m _ => ?_)
      by_cases c : g s m = true ∧ f m = p
      · rw [if_pos c, if_pos c, Nat.mul_one]
      · rw [if_neg c, if_neg c, Nat.mul_zero]
    rw [e1, e3, ← sumN_add, ← sumN_add]
    refine sumN_c M (fun m _ => ?_)
    by_cases cg : g s m = true
    · by_cases cp : f m = p
      · have n : ¬ (g s m = true ∧ wth K p (f m) = false) := by
          rintro ⟨-, q⟩
          unfold wth at q
          rw [decide_eq_true cp, Bool.or_true] at q
          exact absurd q (by decide)
        rw [if_pos (show g s m = true ∧ K (f m) = false from ⟨cg, by rw [cp]; exact hK⟩), if_neg n, if_pos (show g s m = true ∧ f m = p from ⟨cg, cp⟩), if_neg n, cp]
        omega
      · rw [if_neg (show ¬ (g s m = true ∧ f m = p) from fun q => cp q.2), wth_n cp]
        by_cases ck : K (f m) = false
        · rw [if_pos ⟨cg, ck⟩, if_pos ⟨cg, ck⟩, if_pos ⟨cg, ck⟩, ih (wth K (f m)) (by rw [wth_n (fun q => cp q.symm)]; exact hK), wth_c]
          omega
        · rw [if_neg (fun q => ck q.2), if_neg (fun q => ck q.2), if_neg (fun q => ck q.2)]
    · rw [if_neg (fun q => cg q.1), if_neg (fun q => cg q.1), if_neg (fun q => cg q.1), if_neg (fun q => cg q.1)]
/-- where nobody is the person -/
theorem Vw_no {g : Nat → Nat → Bool} {f : Nat → Nat} {M p : Nat} (h : ∀ m, m < M → f m ≠ p) : ∀ (A : List Nat) (K : Nat → Bool), Vw g f M A K = Vw g f M A (wth K p) := by
  intro A
  induction A with
  | nil => intro K; rfl
  | cons s r ih =>
    intro K
    refine sumN_c M (fun m hm => ?_)
    show (if g s m = true ∧ K (f m) = false then _ else 0) = (if g s m = true ∧ wth K p (f m) = false then _ else 0)
    rw [wth_n (h m hm), ih (wth K (f m)), wth_c]
theorem Vw_le {g : Nat → Nat → Bool} {f : Nat → Nat} {M : Nat} (hM : M ≤ 10) : ∀ (A : List Nat) (K : Nat → Bool), Vw g f M A K ≤ 10 ^ A.length := by
  intro A
  induction A with
  | nil => intro K; exact Nat.le_refl _
  | cons s r ih =>
    intro K
    have h1 : Vw g f M (s :: r) K ≤ M * 10 ^ r.length := sumN_le M (fun m _ => by
      show (if _ then _ else _) ≤ _
      split
      · exact ih _
      · exact Nat.zero_le _)
    have h2 : M * 10 ^ r.length ≤ 10 * 10 ^ r.length := Nat.mul_le_mul_right _ hM
    rw [List.length_cons, Nat.pow_succ, Nat.mul_comm (10 ^ r.length) 10]
    omega
/-- the sets of a set of sets, in their order -/
def lsf (p : Nat → Bool) (j : Nat) : Nat → List Nat
  | 0 => []
  | n + 1 => if p j = true then j :: lsf p (j + 1) n else lsf p (j + 1) n
theorem lsf_c {p q : Nat → Bool} : ∀ (n j : Nat), (∀ i, j ≤ i → i < j + n → p i = q i) → lsf p j n = lsf q j n := by
  intro n
  induction n with
  | zero => intro j _; rfl
  | succ n ih =>
    intro j h
    show (if p j = true then _ else _) = (if q j = true then _ else _)
    rw [h j (by omega) (by omega), ih (j + 1) (fun i a b => h i (by omega) (by omega))]
theorem lsf_len {p : Nat → Bool} : ∀ (n j : Nat), (lsf p j n).length ≤ n := by
  intro n
  induction n with
  | zero => intro j; exact Nat.le_refl _
  | succ n ih =>
    intro j
    have := ih (j + 1)
    show (if p j = true then _ else _ : List Nat).length ≤ _
    split
    · rw [List.length_cons]; omega
    · omega
def but (p : Nat → Bool) (i : Nat) : Nat → Bool := fun x => p x && !decide (x = i)
theorem but_n {p : Nat → Bool} {i x : Nat} (h : x ≠ i) : but p i x = p x := by unfold but; rw [decide_eq_false h]; cases p x <;> rfl
theorem but_s {p : Nat → Bool} {i : Nat} : but p i i = false := by unfold but; rw [decide_eq_true rfl]; cases p i <;> rfl
/-- a sum over the sets from j on -/
def sumR (h : Nat → Nat) (j : Nat) : Nat → Nat
  | 0 => 0
  | n + 1 => h j + sumR h (j + 1) n
theorem sumR_c {h h' : Nat → Nat} : ∀ (n j : Nat), (∀ i, j ≤ i → i < j + n → h i = h' i) → sumR h j n = sumR h' j n := by
  intro n
  induction n with
  | zero => intro j _; rfl
  | succ n ih =>
    intro j q
    show h j + _ = h' j + _
    rw [q j (by omega) (by omega), ih (j + 1) (fun i a b => q i (by omega) (by omega))]
theorem sumR_N {h : Nat → Nat} : ∀ (n j : Nat), sumR h j n = sumN (fun i => h (j + i)) n := by
  intro n
  induction n with
  | zero => intro j; rfl
  | succ n ih =>
    intro j
    have key : ∀ m : Nat, h j + sumN (fun i => h (j + 1 + i)) m = sumN (fun i => h (j + i)) m + h (j + m) := by
      intro m
      induction m with
      | zero => show h j + 0 = 0 + h (j + 0); rw [Nat.add_zero, Nat.zero_add, Nat.add_zero]
      | succ m ihm =>
        rw [sumN_s, sumN_s]
        have : h (j + 1 + m) = h (j + (m + 1)) := by congr 1; omega
        omega
    show h j + sumR h (j + 1) n = _
    rw [ih (j + 1), sumN_s]
    exact key n
theorem cols_lsf {sp : Nat → Nat} {p : Nat → Bool} : ∀ (n j : Nat) (W : List Nat → Nat), cols sp W (lsf p j n) = sumR (fun i => if p i = true then sp i * W (lsf (but p i) j n) else 0) j n := by
  intro n
  induction n with
  | zero => intro j W; rfl
  | succ n ih =>
    intro j W
    show cols sp W (if p j = true then _ else _) = (if p j = true then _ else 0) + sumR _ (j + 1) n
    have hl : ∀ i, j + 1 ≤ i → lsf (but p i) j (n + 1) = if p j = true then j :: lsf (but p i) (j + 1) n else lsf (but p i) (j + 1) n := fun i hi => by
      show (if but p i j = true then _ else _) = _
      rw [but_n (show j ≠ i by omega)]
    by_cases c : p j = true
    · rw [if_pos c, if_pos c]
      show sp j * W (lsf p (j + 1) n) + cols sp (fun l => W (j :: l)) (lsf p (j + 1) n) = _
      rw [ih (j + 1)]
      have e1 : lsf (but p j) j (n + 1) = lsf p (j + 1) n := by
        show (if but p j j = true then _ else _) = _
        rw [but_s, if_neg (by decide)]
        exact lsf_c n (j + 1) (fun i a b => but_n (by omega))
      rw [e1]
      congr 1
      refine sumR_c n (j + 1) (fun i a b => ?_)
      rw [hl i a, if_pos c]
    · rw [if_neg c, if_neg c, Nat.zero_add, ih (j + 1)]
      refine sumR_c n (j + 1) (fun i a b => ?_)
      rw [hl i a, if_neg c]
/-- one person more -/
theorem Vw_row {g : Nat → Nat → Bool} {f : Nat → Nat} {M w n : Nat} {p : Nat → Bool} : Vw g f M (lsf p 0 n) (fun x => decide (w + 1 ≤ x)) = Vw g f M (lsf p 0 n) (fun x => decide (w ≤ x)) + sumN (fun i => if p i = true then spl g f M w i * Vw g f M (lsf (but p i) 0 n) (fun x => decide (w ≤ x)) else 0) n := by
  have e : wth (fun x => decide (w + 1 ≤ x)) w = fun x => decide (w ≤ x) := by
    funext x
    unfold wth
    rw [Bool.eq_iff_iff, Bool.or_eq_true, decide_eq_true_eq, decide_eq_true_eq, decide_eq_true_eq]
    omega
  rw [Vw_col (p := w) _ _ (by rw [decide_eq_false_iff_not]; omega), e, cols_lsf, sumR_N]
  congr 1
  refine sumN_c n (fun i _ => ?_)
  rw [Nat.zero_add]
theorem Vw_row_no {g : Nat → Nat → Bool} {f : Nat → Nat} {M w : Nat} (h : ∀ m, m < M → f m ≠ w) (A : List Nat) : Vw g f M A (fun x => decide (w + 1 ≤ x)) = Vw g f M A (fun x => decide (w ≤ x)) := by
  have e : wth (fun x => decide (w + 1 ≤ x)) w = fun x => decide (w ≤ x) := by
    funext x
    unfold wth
    rw [Bool.eq_iff_iff, Bool.or_eq_true, decide_eq_true_eq, decide_eq_true_eq, decide_eq_true_eq]
    omega
  rw [Vw_no h, e]
/-- all persons are had: none is left but for no set -/
theorem Vw_none {g : Nat → Nat → Bool} {f : Nat → Nat} {M : Nat} : ∀ (A : List Nat), Vw g f M A (fun x => decide (0 ≤ x)) = if A = [] then 1 else 0 := by
  intro A
  cases A with
  | nil => rfl
  | cons s r =>
    rw [if_neg (fun q => by cases q)]
    rw [show Vw g f M (s :: r) (fun x => decide (0 ≤ x)) = sumN (fun _ => 0) M from sumN_c M (fun m _ => by
      show (if _ then _ else _) = _
      rw [if_neg (fun q => by have := q.2; simp at this)])]
    exact sumN_0 M
/-- there is a way iff all can have one -/
def aOf (g : Nat → Nat → Bool) (f : Nat → Nat) (M s q : Nat) : Bool := decide (0 < cnB (fun m => g s m && decide (f m = q)) M)
theorem aOf_iff {g : Nat → Nat → Bool} {f : Nat → Nat} {M s q : Nat} : aOf g f M s q = true ↔ ∃ m, m < M ∧ g s m = true ∧ f m = q := by
  unfold aOf
  rw [decide_eq_true_eq, cnB_pos]
  simp only [Bool.and_eq_true, decide_eq_true_eq]
def PM (g : Nat → Nat → Bool) (f : Nat → Nat) (M : Nat) (p : Nat → Bool) (j n : Nat) (K : Nat → Bool) : Prop := ∃ φ : Nat → Nat, (∀ s, j ≤ s → s < j + n → p s = true → aOf g f M s (φ s) = true ∧ K (φ s) = false) ∧ ∀ s t, j ≤ s → s < j + n → j ≤ t → t < j + n → p s = true → p t = true → s ≠ t → φ s ≠ φ t
theorem Vw_PM {g : Nat → Nat → Bool} {f : Nat → Nat} {M : Nat} {p : Nat → Bool} : ∀ (n j : Nat) (K : Nat → Bool), 0 < Vw g f M (lsf p j n) K ↔ PM g f M p j n K := by
  intro n
  induction n with
  | zero => intro j K; exact ⟨fun _ => ⟨fun _ => 0, fun s a b => by omega, fun s t a b => by omega⟩, fun _ => Nat.one_pos⟩
  | succ n ih =>
    intro j K
    by_cases c : p j = true
    · have e : lsf p j (n + 1) = j :: lsf p (j + 1) n := if_pos c
      rw [e]
      show 0 < sumN _ M ↔ _
      rw [sumN_pos]
      constructor
      · rintro ⟨m, hm, h⟩
        by_cases d : g j m = true ∧ K (f m) = false
        · rw [if_pos d] at h
          obtain ⟨φ, h1, h2⟩ := (ih (j + 1) _).mp h
          refine ⟨fun s => if s = j then f m else φ s, fun s a b ps => ?_, fun s t a b a' b' ps pt hne => ?_⟩
          · by_cases z : s = j
            · simp only [if_pos z]; rw [z]; exact ⟨aOf_iff.mpr ⟨m, hm, d.1, rfl⟩, d.2⟩
            · simp only [if_neg z]
              obtain ⟨w1, w2⟩ := h1 s (by omega) (by omega) ps
              unfold wth at w2
              rw [Bool.or_eq_false_iff] at w2
              exact ⟨w1, w2.1⟩
          · have far : ∀ x, j ≤ x → x < j + (n + 1) → p x = true → x ≠ j → φ x ≠ f m := fun x x0 x1 px hx q => by
              obtain ⟨w1, w2⟩ := h1 x (by omega) (by omega) px
              unfold wth at w2
              rw [Bool.or_eq_false_iff] at w2
              have := w2.2
              rw [decide_eq_false_iff_not] at this
              exact this q
            by_cases z : s = j <;> by_cases y : t = j
            · omega
            · simp only [if_pos z, if_neg y]; exact fun q => far t a' b' pt y q.symm
            · simp only [if_neg z, if_pos y]; exact far s a b ps z
            · simp only [if_neg z, if_neg y]; exact h2 s t (by omega) (by omega) (by omega) (by omega) ps pt hne
        · rw [if_neg d] at h; exact absurd h (Nat.lt_irrefl 0)
      · rintro ⟨φ, h1, h2⟩
        obtain ⟨w1, w2⟩ := h1 j (by omega) (by omega) c
        obtain ⟨m, hm, g1, g2⟩ := aOf_iff.mp w1
        refine ⟨m, hm, ?_⟩
        rw [if_pos ⟨g1, by rw [g2]; exact w2⟩, ih (j + 1)]
        refine ⟨φ, fun s a b ps => ?_, fun s t a b a' b' => h2 s t (by omega) (by omega) (by omega) (by omega)⟩
        obtain ⟨u1, u2⟩ := h1 s (by omega) (by omega) ps
        refine ⟨u1, ?_⟩
        unfold wth
        rw [u2, Bool.false_or, decide_eq_false_iff_not, g2]
        exact h2 s j (by omega) (by omega) (by omega) (by omega) ps c (by omega)
    · have e : lsf p j (n + 1) = lsf p (j + 1) n := if_neg c
      rw [e, ih (j + 1)]
      constructor
      · rintro ⟨φ, h1, h2⟩
        have ne : ∀ s, p s = true → s ≠ j := fun s ps q => c (by rw [← q]; exact ps)
        exact ⟨φ, fun s a b ps => h1 s (by have := ne s ps; omega) (by omega) ps, fun s t a b a' b' ps pt => h2 s t (by have := ne s ps; omega) (by omega) (by have := ne t pt; omega) (by omega) ps pt⟩
      · rintro ⟨φ, h1, h2⟩
        exact ⟨φ, fun s a b ps => h1 s (by omega) (by omega) ps, fun s t a b a' b' ps pt => h2 s t (by omega) (by omega) (by omega) (by omega) ps pt⟩
/-- too few for these sets -/
def viol (g : Nat → Nat → Bool) (f : Nat → Nat) (M n B : Nat) (K Y : Nat → Bool) : Prop := cnB (fun q => nb n (aOf g f M) Y q && !K q) B < cnB Y n
theorem Vw_hall {g : Nat → Nat → Bool} {f : Nat → Nat} {M n B : Nat} {X K : Nat → Bool} (hB : ∀ m, m < M → f m < B) : 0 < Vw g f M (lsf X 0 n) K ↔ ¬ ∃ Y : Nat → Bool, (∀ i, i < n → Y i = true → X i = true) ∧ viol g f M n B K Y := by
  rw [Vw_PM]
  have br : PM g f M X 0 n K ↔ mtch n B (aOf g f M) X K := by
    constructor
    · rintro ⟨φ, h1, h2⟩
      refine ⟨φ, fun s hs xs => ?_, fun s t hs ht xs xt => h2 s t (by omega) (by omega) (by omega) (by omega) xs xt⟩
      obtain ⟨w1, w2⟩ := h1 s (by omega) (by omega) xs
      obtain ⟨m, m1, m2, m3⟩ := aOf_iff.mp w1
      exact ⟨w1, by rw [← m3]; exact hB m m1, w2⟩
    · rintro ⟨φ, h1, h2⟩
      exact ⟨φ, fun s _ hs xs => ⟨(h1 s (by omega) xs).1, (h1 s (by omega) xs).2.2⟩, fun s t _ hs _ ht xs xt => h2 s t (by omega) (by omega) xs xt⟩
  rw [br]
  constructor
  · rintro h ⟨Y, y1, y2⟩
    have := hall_conv h Y y1
    unfold viol at y2
    omega
  · intro h
    refine hall (cnB X n) X K (Nat.le_refl _) (fun Y hY => ?_)
    rcases Nat.lt_or_ge (cnB (fun q => nb n (aOf g f M) Y q && !K q) B) (cnB Y n) with z | z
    · exact absurd ⟨Y, hY, z⟩ h
    · exact z
end
