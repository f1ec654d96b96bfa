section
/-! THE PURE SIDE: common rows -/
theorem sF_s (s : SS) (k : Nat) (v : Int) : (sF s k v).1 k = v := by rw [sF_1, if_pos rfl]
theorem sF_n (s : SS) {k j : Nat} (v : Int) (h : j ≠ k) : (sF s k v).1 j = s.1 j := by rw [sF_1, if_neg h]
theorem sA_s (s : SS) (k : Nat) (i x v : Int) : (sA s k i v).2 k x = if x = i then v else s.2 k x := by
  rw [sA_2]
  by_cases h : x = i
  · rw [if_pos ⟨rfl, h⟩, if_pos h]
  · rw [if_neg (fun q => h q.2), if_neg h]
theorem sA_n (s : SS) {k j : Nat} (i v : Int) (h : j ≠ k) : (sA s k i v).2 j = s.2 j := by
  funext x
  rw [sA_2, if_neg (fun q => h q.1)]
/-- what stays: all but these fields and these arrays -/
def frm (ks js : List Nat) (s t : SS) : Prop := (∀ k, ks.contains k = false → t.1 k = s.1 k) ∧ (∀ j, js.contains j = false → t.2 j = s.2 j)
theorem frm_rf (ks js : List Nat) (s : SS) : frm ks js s s := ⟨fun _ _ => rfl, fun _ _ => rfl⟩
theorem frm_tr {ks js : List Nat} {s t u : SS} (h : frm ks js s t) (g : frm ks js t u) : frm ks js s u := ⟨fun k q => (g.1 k q).trans (h.1 k q), fun j q => (g.2 j q).trans (h.2 j q)⟩
theorem frm_mono {ks js ks' js' : List Nat} {s t : SS} (h : frm ks js s t) (hk : ∀ k ∈ ks, k ∈ ks') (hj : ∀ j ∈ js, j ∈ js') : frm ks' js' s t :=
  ⟨fun k q => h.1 k (by
    cases e : ks.contains k
    · rfl
    · rw [List.contains_iff_mem.mpr (hk k (List.contains_iff_mem.mp e))] at q; cases q), fun k q => h.2 k (by
    cases e : js.contains k
    · rfl
    · rw [List.contains_iff_mem.mpr (hj k (List.contains_iff_mem.mp e))] at q; cases q)⟩
theorem frm_F {ks js : List Nat} (s : SS) {k : Nat} (v : Int) (h : ks.contains k = true) : frm ks js s (sF s k v) := ⟨fun j q => sF_n s v (fun e => by rw [e, h] at q; cases q), fun _ _ => rfl⟩
theorem frm_A {ks js : List Nat} (s : SS) {k : Nat} (i v : Int) (h : js.contains k = true) : frm ks js s (sA s k i v) := ⟨fun _ _ => rfl, fun j q => sA_n s i v (fun e => by rw [e, h] at q; cases q)⟩
/-- two states alike in these fields and these arrays -/
def agr (ks js : List Nat) (s t : SS) : Prop := (∀ k ∈ ks, t.1 k = s.1 k) ∧ (∀ j ∈ js, t.2 j = s.2 j)
theorem agr_of {ks js ks' js' : List Nat} {s t : SS} (h : frm ks js s t) (hd : (ks'.all (fun k => !ks.contains k)) = true ∧ (js'.all (fun j => !js.contains j)) = true) : agr ks' js' s t :=
  ⟨fun k q => h.1 k (by have := List.all_eq_true.mp hd.1 k q; simpa using this), fun k q => h.2 k (by have := List.all_eq_true.mp hd.2 k q; simpa using this)⟩
/-- branches on an answer that is 1 or 0 -/
theorem b1 {P R : Prop} (h : R) : rng (1 : Int) ∧ (((1 : Int) = 0 → P) ∧ (¬ (1 : Int) = 0 → R)) := ⟨by decide, fun h => absurd h (by decide), fun _ => h⟩
theorem b0 {P R : Prop} (h : P) : rng (0 : Int) ∧ (((0 : Int) = 0 → P) ∧ (¬ (0 : Int) = 0 → R)) := ⟨by decide, fun _ => h, fun h => absurd rfl h⟩
theorem b1' {P R : Prop} (h : R) : rng (1 : Int) ∧ ((¬ (1 : Int) = 0 → R) ∧ ((1 : Int) = 0 → P)) := ⟨by decide, fun _ => h, fun h => absurd h (by decide)⟩
theorem b0' {P R : Prop} (h : P) : rng (0 : Int) ∧ ((¬ (0 : Int) = 0 → R) ∧ ((0 : Int) = 0 → P)) := ⟨by decide, fun h => absurd rfl h, fun _ => h⟩
theorem rL {x : Int} (h : rng x) : rnL x := ⟨by have := h.1; omega, by have := h.2; omega⟩
/-- a call that answers 1 if c, else 0, and changes nothing -/
def isB (c : Prop) (s : SS) (S : (Int → SS → Prop) → Prop) : Prop := ∀ K : Int → SS → Prop, (c → K 1 s) → (¬ c → K 0 s) → S K
theorem isB_a {c : Prop} {s : SS} {S : (Int → SS → Prop) → Prop} (h : isB c s S) {A B : SS → Prop} (h0 : ¬ c → A s) (h1 : c → B s) : S (fun r s1 => rng r ∧ ((r = 0 → A s1) ∧ (¬ r = 0 → B s1))) := h _ (fun q => b1 (h1 q)) (fun q => b0 (h0 q))
theorem isB_b {c : Prop} {s : SS} {S : (Int → SS → Prop) → Prop} (h : isB c s S) {A B : SS → Prop} (h0 : ¬ c → A s) (h1 : c → B s) : S (fun r s1 => rng r ∧ ((¬ r = 0 → B s1) ∧ (r = 0 → A s1))) := h _ (fun q => b1' (h1 q)) (fun q => b0' (h0 q))
theorem Md_isIn_B {v a b : Int} (hv : rng v) (ha : rng a) (hb : rng b) (s : SS) : isB (a ≤ v ∧ v ≤ b) s (Sp_Md_isIn v a b s) := by
  intro K h1 h0
  have hv := rL hv
  have ha := rL ha
  have hb := rL hb
  exact ⟨hv, ha, fun c => h0 (by omega), fun c => ⟨hv, hb, fun d => h0 (by omega), fun d => h1 (by omega)⟩⟩
theorem La_isPlace_B {x : Int} (h : rng x) (s : SS) : isB (0 ≤ x ∧ x < 10) s (Sp_La_isPlace x s) := by
  intro K h1 h0
  obtain ⟨a, b⟩ := h
  unfold Sp_La_isPlace
  (repeat' first | apply And.intro | intro _) <;> first | omega | exact h1 (by omega) | exact h0 (by omega)
theorem Md_isPlace_B {x : Int} (h : rng x) (s : SS) : isB (0 ≤ x ∧ x < 10) s (Sp_Md_isPlace x s) := by
  intro K h1 h0
  obtain ⟨a, b⟩ := h
  unfold Sp_Md_isPlace
  (repeat' first | apply And.intro | intro _) <;> first | omega | exact h1 (by omega) | exact h0 (by omega)
end
