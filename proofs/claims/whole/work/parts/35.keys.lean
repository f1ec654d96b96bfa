section
/-! KEYS: what a NAME's letters become, by the class and by the model -/
/-- the array begins with the list -/
def pre (f : Int → Int) (l : List Int) : Prop := ∀ i : Nat, i < l.length → f (i : Int) = l.getD i 0
/-- one after the other: dropped, or kept behind what was kept -/
def gF (dr : Nat → List Int → Int → Bool) : Nat → List Int → List Int → List Int
  | _, acc, [] => acc
  | i, acc, c :: t => gF dr (i + 1) (if dr i acc c then acc else acc ++ [c]) t
theorem gF_c (dr : Nat → List Int → Int → Bool) (i : Nat) (acc : List Int) (c : Int) (t : List Int) : gF dr i acc (c :: t) = gF dr (i + 1) (if dr i acc c then acc else acc ++ [c]) t := rfl
theorem gF_len (dr : Nat → List Int → Int → Bool) : ∀ (l : List Int) (i : Nat) (acc : List Int), (gF dr i acc l).length ≤ acc.length + l.length := by
  intro l
  induction l with
  | nil => intro i acc; exact Nat.le_refl _
  | cons c t ih =>
    intro i acc
    rw [gF_c]
    have := ih (i + 1) (if dr i acc c then acc else acc ++ [c])
    by_cases h : dr i acc c = true
    · rw [if_pos h] at this ⊢
      rw [List.length_cons]; omega
    · rw [if_neg h] at this ⊢
      rw [List.length_append] at this
      rw [List.length_cons]
      have e : [c].length = 1 := rfl
      omega
theorem gF_mem (dr : Nat → List Int → Int → Bool) : ∀ (l : List Int) (i : Nat) (acc : List Int) (v : Int), v ∈ gF dr i acc l → v ∈ acc ∨ v ∈ l := by
  intro l
  induction l with
  | nil => intro i acc v h; exact Or.inl h
  | cons c t ih =>
    intro i acc v h
    rw [gF_c] at h
    rcases ih _ _ v h with q | q
    · split at q
      · exact Or.inl q
      · rcases List.mem_append.mp q with q | q
        · exact Or.inl q
        · rw [List.mem_singleton.mp q]; exact Or.inr (List.mem_cons_self ..)
    · exact Or.inr (List.mem_cons_of_mem _ q)
theorem getD_app_lt {l m : List Int} {i : Nat} (h : i < l.length) : (l ++ m).getD i 0 = l.getD i 0 := by
  rw [List.getD_eq_getElem?_getD, List.getD_eq_getElem?_getD, List.getElem?_append_left h]
theorem getD_app_eq {l : List Int} {c : Int} : (l ++ [c]).getD l.length 0 = c := by
  rw [List.getD_eq_getElem?_getD, List.getElem?_append_right (Nat.le_refl _), Nat.sub_self]
  rfl
theorem pre_app {f g : Int → Int} {acc : List Int} {c : Int} (h : pre f acc) (hg : ∀ x, g x = if x = (acc.length : Int) then c else f x) : pre g (acc ++ [c]) := by
  intro i hi
  rw [List.length_append] at hi
  have hi : i < acc.length + 1 := hi
  rw [hg]
  by_cases e : i = acc.length
  · subst e
    rw [if_pos rfl, getD_app_eq]
  · rw [if_neg (by omega), getD_app_lt (by omega)]
    exact h i (by omega)
theorem getD_mem {l : List Int} {i : Nat} (h : i < l.length) : l.getD i 0 ∈ l := by
  rw [List.getD_eq_getElem?_getD, List.getElem?_eq_getElem h]
  exact List.getElem_mem h
theorem drop_get {l : List Int} {i : Nat} (h : i < l.length) : l.drop i = l.getD i 0 :: l.drop (i + 1) := by
  rw [List.drop_eq_getElem_cons h, List.getD_eq_getElem?_getD, List.getElem?_eq_getElem h]
  rfl
/-- a loop that drops in place, over the array a -/
theorem cmp_loop (a : Nat) (l : List Int) (dr : Nat → List Int → Int → Bool) (X : Nat → Nat → SS → Prop) (s : SS)
    (hfin : ∀ (acc : List Int) (s1 : SS), frm [] [a] s s1 → pre (s1.2 a) acc → acc = gF dr 0 [] l → X acc.length l.length s1)
    (hstep : ∀ (i : Nat) (acc : List Int) (s1 : SS), i < l.length → acc.length ≤ i → pre (s1.2 a) acc → s1.2 a (i : Int) = l.getD i 0 → (∀ v ∈ acc, v ∈ l) → gF dr i acc (l.drop i) = gF dr 0 [] l → (dr i acc (l.getD i 0) = true → X acc.length (i + 1) s1) → (dr i acc (l.getD i 0) = false → ∀ s2, s2 = sA s1 a (acc.length : Int) (l.getD i 0) → X (acc.length + 1) (i + 1) s2) → frm [] [a] s s1 → X acc.length i s1)
    : ∀ (t : Nat) (i : Nat) (acc : List Int) (s1 : SS), i + t = l.length → frm [] [a] s s1 → acc.length ≤ i → pre (s1.2 a) acc → (∀ j : Nat, i ≤ j → j < l.length → s1.2 a (j : Int) = l.getD j 0) → (∀ v ∈ acc, v ∈ l) → gF dr i acc (l.drop i) = gF dr 0 [] l → X acc.length i s1 := by
  intro t
  induction t with
  | zero =>
    intro i acc s1 h1 hf h2 h3 h4 h5 h6
    have e : i = l.length := by omega
    subst e
    rw [List.drop_length] at h6
    exact hfin acc s1 hf h3 h6
  | succ t ih =>
    intro i acc s1 h1 hf h2 h3 h4 h5 h6
    have hi : i < l.length := by omega
    have h7 := h6
    rw [drop_get hi] at h7
    rw [gF_c] at h7
    refine hstep i acc s1 hi h2 h3 (h4 i (Nat.le_refl _) hi) h5 h6 (fun hd => ?_) (fun hd s2 hs2 => ?_) hf
    · rw [if_pos hd] at h7
      exact ih (i + 1) acc s1 (by omega) hf (by omega) h3 (fun j a b => h4 j (by omega) b) h5 h7
    · rw [if_neg (by rw [hd]; decide)] at h7
      have e2 : ∀ x, s2.2 a x = if x = (acc.length : Int) then l.getD i 0 else s1.2 a x := by intro x; rw [hs2, sA_s]
      have := ih (i + 1) (acc ++ [l.getD i 0]) s2 (by omega) (by rw [hs2]; exact frm_tr hf (frm_A s1 _ _ (by simp))) (by rw [List.length_append]; simp; omega) (pre_app h3 e2) (fun j a b => by rw [e2, if_neg (by omega)]; exact h4 j (by omega) b) (fun v hv => by
        rcases List.mem_append.mp hv with q | q
        · exact h5 v q
        · rw [List.mem_singleton.mp q]; exact getD_mem hi) h7
      rw [List.length_append] at this
      exact this
def isVw (c : Int) : Bool := decide (c = 97 ∨ c = 101 ∨ c = 105 ∨ c = 111 ∨ c = 117)
def drH (i : Nat) (_ : List Int) (c : Int) : Bool := decide (0 < i ∧ c = 104)
def drV (i : Nat) (_ : List Int) (c : Int) : Bool := decide (0 < i) && isVw c
def drT (_ : Nat) (acc : List Int) (c : Int) : Bool := decide (0 < acc.length ∧ acc.getD (acc.length - 1) 0 = c)
def bef (l : List Int) (i : Nat) : Int := if i = 0 then 0 else l.getD (i - 1) 0
def drU (l : List Int) (i : Nat) (_ : List Int) (c : Int) : Bool := decide (c = bef l i)
def drZ (_ : Nat) (_ : List Int) (c : Int) : Bool := decide (c = 0)
/-- letters -/
def ltr (l : List Int) : Prop := ∀ v ∈ l, 97 ≤ v ∧ v ≤ 122
theorem Na_isVowel_B {x : Int} (h : rng x) (s : SS) : isB (isVw x = true) s (Sp_Na_isVowel x s) := by
  intro K h1 h0
  have e1 : ∀ c : (x = 97 ∨ x = 101 ∨ x = 105 ∨ x = 111 ∨ x = 117), K 1 s := fun c => h1 (decide_eq_true c)
  have e0 : ∀ c : ¬ (x = 97 ∨ x = 101 ∨ x = 105 ∨ x = 111 ∨ x = 117), K 0 s := fun c => h0 (fun q => c (of_decide_eq_true q))
  obtain ⟨a, b⟩ := h
  unfold Sp_Na_isVowel
  (repeat' first | apply And.intro | intro _) <;> first | omega | exact e1 (by omega) | exact e0 (by omega)
theorem Md_isVowel_B {x : Int} (h : rng x) (s : SS) : isB (isVw x = true) s (Sp_Md_isVowel x s) := by
  intro K h1 h0
  have e1 : ∀ c : (x = 97 ∨ x = 101 ∨ x = 105 ∨ x = 111 ∨ x = 117), K 1 s := fun c => h1 (decide_eq_true c)
  have e0 : ∀ c : ¬ (x = 97 ∨ x = 101 ∨ x = 105 ∨ x = 111 ∨ x = 117), K 0 s := fun c => h0 (fun q => c (of_decide_eq_true q))
  obtain ⟨a, b⟩ := h
  unfold Sp_Md_isVowel
  (repeat' first | apply And.intro | intro _) <;> first | omega | exact e1 (by omega) | exact e0 (by omega)
theorem ltr_rng {l : List Int} (h : ltr l) {i : Nat} (hi : i < l.length) : rng (l.getD i 0) := by
  have := h _ (getD_mem hi)
  exact ⟨by omega, by omega⟩
theorem Na_dropBreaths_ok {l : List Int} {s : SS} {Q : Int → SS → Prop} (hl : ltr l) (hn : l.length ≤ 12) (hp : pre (s.2 17) l) (hk : ∀ s', frm [] [17] s s' → pre (s'.2 17) (gF drH 0 [] l) → Q ((gF drH 0 [] l).length : Int) s') : Sp_Na_dropBreaths (l.length : Int) s Q := by
  intro X4 h4
  refine cmp_loop 17 l drH (fun k i s1 => X4 (l.length : Int) k i s1) s (fun acc s1 hf hpr e => ?_) (fun i acc s1 hi hle hpr hv hm he k1 k2 hf => ?_) l.length 0 [] s (by omega) (frm_rf _ _ s) (Nat.le_refl _) (fun i h => absurd h (Nat.not_lt_zero _)) (fun j _ h => hp j h) (fun v h => by cases h) (by rw [List.drop_zero])
  · refine h4 _ _ _ _ ⟨⟨by omega, by omega⟩, ⟨by omega, by omega⟩, fun _ => ?_, fun c => by omega⟩
    subst e
    exact hk s1 hf hpr
  · have hr := ltr_rng hl hi
    have kp : (0 : Nat) = 0 → drH i acc (l.getD i 0) = false → (0 ≤ (i : Int) ∧ (i : Int) < 12) ∧ (0 ≤ (acc.length : Int) ∧ (acc.length : Int) < 12) ∧ ∀ s1_1, s1_1 = sA s1 17 (acc.length : Int) (s1.2 17 (i : Int)) → X4 (l.length : Int) ((acc.length : Int) + 1) ((i : Int) + 1) s1_1 := fun _ hd => ⟨by omega, by omega, fun s2 h2 => k2 hd s2 (by rw [h2, hv])⟩
    refine h4 _ _ _ _ ⟨⟨by omega, by omega⟩, ⟨by omega, by omega⟩, fun c => by omega, fun _ => ⟨⟨by omega, by omega⟩, fun c => kp rfl ?_, fun c => ⟨by omega, by rw [hv]; exact hr, fun d => kp rfl ?_, fun d => k1 ?_⟩⟩⟩
    · exact decide_eq_false (by omega)
    · rw [hv] at d
      exact decide_eq_false (fun q => d q.2)
    · rw [hv] at d
      exact decide_eq_true ⟨by omega, d⟩
theorem Na_dropVowels_ok {l : List Int} {s : SS} {Q : Int → SS → Prop} (hl : ltr l) (hn : l.length ≤ 12) (hp : pre (s.2 17) l) (hk : ∀ s', frm [] [17] s s' → pre (s'.2 17) (gF drV 0 [] l) → Q ((gF drV 0 [] l).length : Int) s') : Sp_Na_dropVowels (l.length : Int) s Q := by
  intro X4 h4
  refine cmp_loop 17 l drV (fun k i s1 => X4 (l.length : Int) k i s1) s (fun acc s1 hf hpr e => ?_) (fun i acc s1 hi hle hpr hv hm he k1 k2 hf => ?_) l.length 0 [] s (by omega) (frm_rf _ _ s) (Nat.le_refl _) (fun i h => absurd h (Nat.not_lt_zero _)) (fun j _ h => hp j h) (fun v h => by cases h) (by rw [List.drop_zero])
  · refine h4 _ _ _ _ ⟨⟨by omega, by omega⟩, ⟨by omega, by omega⟩, fun _ => ?_, fun c => by omega⟩
    subst e
    exact hk s1 hf hpr
  · have hr := ltr_rng hl hi
    have kp : (0 : Nat) = 0 → drV i acc (l.getD i 0) = false → (0 ≤ (i : Int) ∧ (i : Int) < 12) ∧ (0 ≤ (acc.length : Int) ∧ (acc.length : Int) < 12) ∧ ∀ s1_1, s1_1 = sA s1 17 (acc.length : Int) (s1.2 17 (i : Int)) → X4 (l.length : Int) ((acc.length : Int) + 1) ((i : Int) + 1) s1_1 := fun _ hd => ⟨by omega, by omega, fun s2 h2 => k2 hd s2 (by rw [h2, hv])⟩
    refine h4 _ _ _ _ ⟨⟨by omega, by omega⟩, ⟨by omega, by omega⟩, fun c => by omega, fun _ => ⟨⟨by omega, by omega⟩, fun c => kp rfl ?_, fun c => ⟨by omega, ?_⟩⟩⟩
    · unfold drV
      rw [decide_eq_false (by omega)]
      rfl
    · rw [hv]
      have ep : decide (0 < i) = true := decide_eq_true (by omega)
      refine isB_a (Na_isVowel_B hr s1) (fun d => ?_) (fun d => k1 ?_)
      · have := kp rfl (by unfold drV; rw [ep, Bool.true_and]; exact Bool.eq_false_iff.mpr d)
        rw [hv] at this ⊢
        exact this
      · unfold drV
        rw [ep, Bool.true_and]
        exact d
theorem Na_dropTwins_ok {l : List Int} {s : SS} {Q : Int → SS → Prop} (hl : ltr l) (hn : l.length ≤ 12) (hp : pre (s.2 17) l) (hk : ∀ s', frm [] [17] s s' → pre (s'.2 17) (gF drT 0 [] l) → Q ((gF drT 0 [] l).length : Int) s') : Sp_Na_dropTwins (l.length : Int) s Q := by
  intro X4 h4
  refine cmp_loop 17 l drT (fun k i s1 => X4 (l.length : Int) k i s1) s (fun acc s1 hf hpr e => ?_) (fun i acc s1 hi hle hpr hv hm he k1 k2 hf => ?_) l.length 0 [] s (by omega) (frm_rf _ _ s) (Nat.le_refl _) (fun i h => absurd h (Nat.not_lt_zero _)) (fun j _ h => hp j h) (fun v h => by cases h) (by rw [List.drop_zero])
  · refine h4 _ _ _ _ ⟨⟨by omega, by omega⟩, ⟨by omega, by omega⟩, fun _ => ?_, fun c => by omega⟩
    subst e
    exact hk s1 hf hpr
  · have hr := ltr_rng hl hi
    have kp : (0 : Nat) = 0 → drT i acc (l.getD i 0) = false → (0 ≤ (i : Int) ∧ (i : Int) < 12) ∧ (0 ≤ (acc.length : Int) ∧ (acc.length : Int) < 12) ∧ ∀ s1_1, s1_1 = sA s1 17 (acc.length : Int) (s1.2 17 (i : Int)) → X4 (l.length : Int) ((acc.length : Int) + 1) ((i : Int) + 1) s1_1 := fun _ hd => ⟨by omega, by omega, fun s2 h2 => k2 hd s2 (by rw [h2, hv])⟩
    refine h4 _ _ _ _ ⟨⟨by omega, by omega⟩, ⟨by omega, by omega⟩, fun c => by omega, fun _ => ⟨⟨by omega, by omega⟩, fun c => kp rfl ?_, fun c => ?_⟩⟩
    · exact decide_eq_false (by omega)
    · have hl1 : acc.length - 1 < acc.length := by omega
      have ev : s1.2 17 ((acc.length : Int) - 1) = acc.getD (acc.length - 1) 0 := by
        rw [show (acc.length : Int) - 1 = ((acc.length - 1 : Nat) : Int) by omega]
        exact hpr (acc.length - 1) hl1
      have hra : rng (acc.getD (acc.length - 1) 0) := by
        have := hl _ (hm _ (getD_mem hl1))
        exact ⟨by omega, by omega⟩
      refine ⟨by omega, by omega, by rw [ev]; exact hra, by rw [hv]; exact hr, fun d => kp rfl ?_, fun d => k1 ?_⟩
      · rw [ev, hv] at d
        exact decide_eq_false (fun q => d q.2)
      · rw [ev, hv] at d
        exact decide_eq_true ⟨by omega, d⟩
/-- ph made f -/
def blR : List Int → List Int
  | [] => []
  | [c] => [c]
  | c :: d :: t => if c = 112 ∧ d = 104 then 102 :: blR t else c :: blR (d :: t)
/-- the same, letter by letter, as the class does it -/
def blS : List Int → List Int → List Int
  | acc, [] => acc
  | acc, c :: t => if c = 104 ∧ 0 < acc.length ∧ acc.getD (acc.length - 1) 0 = 112 then blS (acc.dropLast ++ [102]) t else blS (acc ++ [c]) t
theorem blS_eq : ∀ (n : Nat) (l : List Int), l.length ≤ n → (∀ acc : List Int, (acc = [] ∨ acc.getD (acc.length - 1) 0 ≠ 112) → blS acc l = acc ++ blR l) ∧ (∀ acc : List Int, blS (acc ++ [112]) l = acc ++ blR (112 :: l)) := by
  intro n
  induction n with
  | zero =>
    intro l hl
    have e : l = [] := List.length_eq_zero_iff.mp (by omega)
    subst e
    exact ⟨fun acc _ => by show acc = acc ++ []; rw [List.append_nil], fun acc => rfl⟩
  | succ n ih =>
    intro l hl
    cases l with
    | nil => exact ⟨fun acc _ => by show acc = acc ++ []; rw [List.append_nil], fun acc => rfl⟩
    | cons c t =>
      have ht : t.length ≤ n := by rw [List.length_cons] at hl; omega
      have i1 := (ih t ht).1
      have i2 := (ih t ht).2
      have plain : ∀ acc : List Int, ¬ (c = 104 ∧ 0 < acc.length ∧ acc.getD (acc.length - 1) 0 = 112) → blS acc (c :: t) = acc ++ blR (c :: t) := by
        intro acc h
        have e : blS acc (c :: t) = blS (acc ++ [c]) t := if_neg h
        rw [e]
        by_cases hc : c = 112
        · subst hc
          exact i2 acc
        · rw [i1 (acc ++ [c]) (Or.inr (by rw [List.length_append]; show (acc ++ [c]).getD (acc.length + 1 - 1) 0 ≠ 112; rw [Nat.add_sub_cancel, getD_app_eq]; exact hc))]
          rw [List.append_assoc]
          congr 1
          show c :: blR t = blR (c :: t)
          cases t with
          | nil => rfl
          | cons d t => exact (if_neg (fun q => hc q.1)).symm
      refine ⟨fun acc h => plain acc (fun q => ?_), fun acc => ?_⟩
      · rcases h with h | h
        · rw [h] at q; exact absurd q.2.1 (by decide)
        · exact h q.2.2
      · by_cases hc : c = 104
        · have e : blS (acc ++ [112]) (c :: t) = blS ((acc ++ [112]).dropLast ++ [102]) t := if_pos ⟨hc, by rw [List.length_append]; exact Nat.succ_pos _, by rw [List.length_append]; show (acc ++ [112]).getD (acc.length + 1 - 1) 0 = 112; rw [Nat.add_sub_cancel, getD_app_eq]⟩
          have e2 : blR (112 :: c :: t) = 102 :: blR t := if_pos ⟨rfl, hc⟩
          rw [e, e2, List.dropLast_concat, i1 (acc ++ [102]) (Or.inr (by rw [List.length_append]; show (acc ++ [102]).getD (acc.length + 1 - 1) 0 ≠ 112; rw [Nat.add_sub_cancel, getD_app_eq]; decide)), List.append_assoc]
          rfl
        · rw [plain (acc ++ [112]) (fun q => hc q.1), List.append_assoc]
          congr 1
          exact (if_neg (fun q => hc q.2)).symm
theorem blS_0 (l : List Int) : blS [] l = blR l := by
  have := (blS_eq l.length l (Nat.le_refl _)).1 [] (Or.inl rfl)
  rwa [List.nil_append] at this
theorem Na_blendPh_ok {l : List Int} {s : SS} {Q : Int → SS → Prop} (hl : ltr l) (hn : l.length ≤ 12) (hp : pre (s.2 17) l) (hk : ∀ s', frm [] [17] s s' → pre (s'.2 17) (blR l) → Q ((blR l).length : Int) s') : Sp_Na_blendPh (l.length : Int) s Q := by
  intro X4 X42 h4 h42
  have key : ∀ (t : Nat) (i : Nat) (acc : List Int) (s1 : SS), i + t = l.length → frm [] [17] s s1 → acc.length ≤ i → (0 < i → 0 < acc.length) → ltr acc → pre (s1.2 17) acc → (∀ j : Nat, i ≤ j → j < l.length → s1.2 17 (j : Int) = l.getD j 0) → blS acc (l.drop i) = blR l → X4 (l.length : Int) acc.length i s1 := by
    intro t
    induction t with
    | zero =>
      intro i acc s1 h1 hf h2 h2b h2c h3 h5 h6
      have e : i = l.length := by omega
      subst e
      rw [List.drop_length] at h6
      have h6 : acc = blR l := h6
      subst h6
      exact h4 _ _ _ _ ⟨⟨by omega, by omega⟩, ⟨by omega, by omega⟩, fun _ => hk s1 hf h3, fun c => by omega⟩
    | succ t ih =>
      intro i acc s1 h1 hf h2 h2b h2c h3 h5 h6
      have hi : i < l.length := by omega
      have hv := h5 i (Nat.le_refl _) hi
      have hr := ltr_rng hl hi
      rw [drop_get hi] at h6
      have hlt := hl _ (getD_mem hi)
      -- kept
      have kp : ¬ (l.getD i 0 = 104 ∧ 0 < acc.length ∧ acc.getD (acc.length - 1) 0 = 112) → X42 (l.length : Int) acc.length i 0 s1 := by
        intro hc
        have e : blS acc (l.getD i 0 :: l.drop (i + 1)) = blS (acc ++ [l.getD i 0]) (l.drop (i + 1)) := if_neg hc
        rw [e] at h6
        refine h42 _ _ _ _ _ ⟨by decide, fun _ => ⟨by omega, by omega, fun s2 h2' => ?_⟩, fun c => absurd rfl c⟩
        rw [hv] at h2'
        have e2 : ∀ x, s2.2 17 x = if x = (acc.length : Int) then l.getD i 0 else s1.2 17 x := by intro x; rw [h2', sA_s]
        have := ih (i + 1) (acc ++ [l.getD i 0]) s2 (by omega) (by rw [h2']; exact frm_tr hf (frm_A s1 _ _ (by decide))) (by rw [List.length_append]; show acc.length + 1 ≤ i + 1; omega) (fun _ => by rw [List.length_append]; exact Nat.succ_pos _) (fun v hv2 => by
          rcases List.mem_append.mp hv2 with q | q
          · exact h2c v q
          · rw [List.mem_singleton.mp q]; exact hlt) (pre_app h3 e2) (fun j a b => by rw [e2, if_neg (by omega)]; exact h5 j (by omega) b) h6
        rw [List.length_append] at this
        exact this
      have hbl : l.getD i 0 = 104 → 0 < acc.length → acc.getD (acc.length - 1) 0 = 112 → X42 (l.length : Int) acc.length i 1 s1 := by
        intro c1 c2 c3
        have e : blS acc (l.getD i 0 :: l.drop (i + 1)) = blS (acc.dropLast ++ [102]) (l.drop (i + 1)) := if_pos ⟨c1, c2, c3⟩
        rw [e] at h6
        refine h42 _ _ _ _ _ ⟨by decide, fun c => absurd c (by decide), fun _ => ⟨by omega, fun s2 h2' => ?_⟩⟩
        have hdl : acc.dropLast.length = acc.length - 1 := List.length_dropLast
        have e2 : ∀ x, s2.2 17 x = if x = ((acc.dropLast.length : Nat) : Int) then 102 else s1.2 17 x := by
          intro x
          rw [h2', sA_s, hdl]
          congr 1
          exact propext ⟨fun q => by omega, fun q => by omega⟩
        have hsub : ∀ v ∈ acc.dropLast, v ∈ acc := fun v q => (List.dropLast_sublist acc).subset q
        have := ih (i + 1) (acc.dropLast ++ [102]) s2 (by omega) (by rw [h2']; exact frm_tr hf (frm_A s1 _ _ (by decide))) (by rw [List.length_append, hdl]; show acc.length - 1 + 1 ≤ i + 1; omega) (fun _ => by rw [List.length_append]; exact Nat.succ_pos _) (fun v hv2 => by
          rcases List.mem_append.mp hv2 with q | q
          · exact h2c v (hsub v q)
          · rw [List.mem_singleton.mp q]; decide) (pre_app (fun k hkk => by
            rw [hdl] at hkk
            rw [h3 k (by omega), List.getD_eq_getElem?_getD, List.getD_eq_getElem?_getD, List.getElem?_dropLast, if_pos hkk]) e2) (fun j a b => by rw [e2, if_neg (by omega)]; exact h5 j (by omega) b) h6
        rw [List.length_append, hdl] at this
        rw [show ((acc.length - 1 + [(102 : Int)].length : Nat)) = acc.length by show acc.length - 1 + 1 = acc.length; omega] at this
        exact this
      refine h4 _ _ _ _ ⟨⟨by omega, by omega⟩, ⟨by omega, by omega⟩, fun c => by omega, fun _ => ⟨by omega, by rw [hv]; exact hr, fun c => kp (fun q => c (by rw [hv]; exact q.1)), fun c => ⟨⟨by omega, by omega⟩, fun d => kp (fun q => by omega), fun d => ?_⟩⟩⟩
      have hpos : 0 < acc.length := h2b (by omega)
      have hl1 : acc.length - 1 < acc.length := by omega
      have ev : s1.2 17 ((acc.length : Int) - 1) = acc.getD (acc.length - 1) 0 := by
        rw [show (acc.length : Int) - 1 = ((acc.length - 1 : Nat) : Int) by omega]
        exact h3 (acc.length - 1) hl1
      have hra := ltr_rng h2c hl1
      rw [hv] at c
      refine ⟨by omega, by rw [ev]; exact hra, fun f => kp (fun q => f (by rw [ev]; exact q.2.2)), fun f => hbl c hpos (by rw [← ev]; exact f)⟩
  exact key l.length 0 [] s (by omega) (frm_rf _ _ s) (Nat.le_refl _) (fun h => absurd h (Nat.lt_irrefl 0)) (fun v h => by cases h) (fun i h => absurd h (Nat.not_lt_zero _)) (fun j _ h => hp j h) (by rw [List.drop_zero]; exact blS_0 l)
end
