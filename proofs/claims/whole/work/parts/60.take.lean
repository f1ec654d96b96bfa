section
/-! take -/
def dB (s : SS) (x : Int) : Int → Bool := fun k => decide (0 ≤ s.2 50 k ∧ s.2 51 x ≤ s.2 51 k ∧ s.2 45 k = s.2 45 x)
theorem dB_iff {s : SS} {x k : Int} : dB s x k = true ↔ (0 ≤ s.2 50 k ∧ s.2 51 x ≤ s.2 51 k ∧ s.2 45 k = s.2 45 x) := decide_eq_true_iff
theorem Gr_strip_ok {x n : Int} {s : SS} {Q : Int → SS → Prop} (h : iGrv n s) (hn : n ≤ 2147483646) (x0 : 0 ≤ x) (x1 : x < s.1 25) (xg : 0 ≤ s.2 50 x) (hk : ∀ s', frm [] [50] s s' → (∀ k, 0 ≤ k → k < s.1 25 → s'.2 50 k = if dB s x k = true then -1 else s.2 50 k) → Q (cntP (dB s x) (s.1 25).toNat) s') : Sp_Gr_strip x s Q := by
  obtain ⟨g1, g2, g3, g4, g5, g6, g7⟩ := h
  intro X12 X47 h12 h47
  have gx := (g4 x x0 x1).2.2.2.2.2
  have key : ∀ (t : Nat) (k : Nat) (s1 : SS), (k : Int) ≤ s.1 25 → s.1 25 - k < t → frm [] [50] s s1 → (∀ j, 0 ≤ j → j < s.1 25 → s1.2 50 j = if j < k ∧ dB s x j = true then -1 else s.2 50 j) → X12 x (s.2 51 x) (cntP (dB s x) k) k s1 := by
    intro t
    induction t with
    | zero => intro k s1 a b; omega
    | succ t ih =>
      intro k s1 k1 ht hf hI
      have e25 : s1.1 25 = s.1 25 := hf.1 25 rfl
      have e51 : s1.2 51 = s.2 51 := hf.2 51 rfl
      have e45 : s1.2 45 = s.2 45 := hf.2 45 rfl
      refine h12 _ _ _ _ _ ⟨⟨by omega, by omega⟩, by rw [e25]; exact ⟨by omega, by omega⟩, fun d => ?_, fun d => ?_⟩
      · rw [e25] at d
        rw [show k = (s.1 25).toNat by omega]
        refine hk s1 hf (fun j j0 j1 => ?_)
        rw [hI j j0 j1]
        exact if_cg ⟨fun q => q.2, fun q => ⟨by omega, q⟩⟩ rfl rfl
      · rw [e25] at d
        obtain ⟨a1, a2, a3, a4, a5, a6⟩ := g4 k (by omega) d
        have h50 : s1.2 50 k = s.2 50 k := by rw [hI k (by omega) d, if_neg (by omega)]
        have r50 : rng (s.2 50 k) := by rcases a6 with z | z <;> exact ⟨by omega, by omega⟩
        have no : ¬ dB s x k = true → X12 x (s.2 51 x) (cntP (dB s x) k) ((k : Int) + 1) s1 := fun hn => by
          have nx := ih (k + 1) s1 (by omega) (by omega) hf (fun j j0 j1 => by
            rw [hI j j0 j1]
            refine if_cg ⟨fun q => ⟨by omega, q.2⟩, fun q => ⟨?_, q.2⟩⟩ rfl rfl
            have : j ≠ k := fun e => hn (by rw [← e]; exact q.2)
            omega)
          rw [cntP_s, if_neg hn, Int.add_zero] at nx
          exact nx
        have no0 : ¬ dB s x k = true → X47 x (s.2 51 x) (cntP (dB s x) k) k 0 s1 := fun hn => h47 _ _ _ _ _ _ ⟨by decide, fun _ => no hn, fun q => absurd rfl q⟩
        refine ⟨by omega, by rw [h50]; exact r50, fun f => no0 (fun q => ?_), fun f => ?_⟩
        · rw [h50] at f
          have := (dB_iff.mp q).1
          omega
        · rw [h50] at f
          rw [e51]
          refine ⟨by omega, by rcases a6 with z | z; omega; exact ⟨by omega, by omega⟩, by rcases gx with z | z; omega; exact ⟨by omega, by omega⟩, fun g => no0 (fun q => ?_), fun g => ?_⟩
          · have := (dB_iff.mp q).2.1
            omega
          · refine h47 _ _ _ _ _ _ ⟨by decide, fun q => absurd q (by decide), fun _ => ⟨by omega, by omega, by rw [e45]; exact ⟨by omega, by omega⟩, by rw [e45]; have := (g4 x x0 x1).1; exact ⟨by omega, by omega⟩, fun y => ⟨by omega, fun s2 h2 => ?_⟩, fun y => no (fun q => ?_)⟩⟩
            · rw [e45] at y
              have hd : dB s x k = true := dB_iff.mpr ⟨f, g, y⟩
              have nx := ih (k + 1) s2 (by omega) (by omega) (by rw [h2]; exact frm_tr hf (frm_A _ _ _ (by decide))) (fun j j0 j1 => by
                rw [h2, sA_s]
                by_cases e : j = k
                · rw [if_pos e, if_pos ⟨by omega, by rw [e]; exact hd⟩]
                · rw [if_neg e, hI j j0 j1]
                  exact if_cg ⟨fun q => ⟨by omega, q.2⟩, fun q => ⟨by omega, q.2⟩⟩ rfl rfl)
              rw [cntP_s, if_pos hd] at nx
              exact nx
            · rw [e45] at y
              exact y (dB_iff.mp q).2.2
  exact ⟨by omega, key 100 0 s (by omega) (by omega) (frm_rf _ _ _) (fun j j0 j1 => by rw [if_neg (by omega)])⟩
theorem Md_strip_ok {x n : Int} {s t0 : SS} {Q : Int → SS → Prop} (h : iGrv n s) (hn : n ≤ 2147483646) (hf0 : frm [] [50] s t0) (rx : rng x) (x0 : 0 ≤ x) (x1 : x < s.1 25) (xg : 0 ≤ s.2 50 x) (hk : ∀ s', frm [] [104] t0 s' → (∀ k, 0 ≤ k → k < s.1 25 → s'.2 104 k = if dB s x k = true then -1 else s.2 104 k) → (∀ k, s.1 25 ≤ k → s'.2 104 k = s.2 104 k) → Q (cntP (dB s x) (s.1 25).toNat) s') (hN : s.1 4 ≤ 20) : Sp_Md_take x t0 Q := by
  obtain ⟨g1, g2, g3, g4, g5, g6, g7⟩ := h
  have gx := (g4 x x0 x1).2.2.2.2.2
  have cx := (g4 x x0 x1).1
  have gx5 := (g4 x x0 x1).2.2.2.2.1.1
  have z46 : t0.1 46 = s.1 25 := by rw [hf0.1 46 rfl]; exact g1.1.symm
  have y104 : t0.2 104 = s.2 104 := hf0.2 104 rfl
  have y105 : t0.2 105 = s.2 105 := hf0.2 105 rfl
  have nmr : ∀ k, 0 ≤ k → k < s.1 25 → (s.2 50 k = -1 ∧ s.2 104 k = -1) ∨ (0 ≤ s.2 50 k ∧ 0 ≤ s.2 104 k ∧ s.2 104 k < 20 ∧ 0 ≤ s.2 51 k ∧ s.2 51 k < s.1 26 ∧ s.2 105 k = s.2 51 k + 1) := by
    intro k k0 k1
    rcases (g4 k k0 k1).2.2.2.2.2 with z | ⟨z1, z2, z3, z4, z5, z6⟩
    · exact Or.inl z
    · have := (g6 _ z1 z2).1
      exact Or.inr ⟨z1, by omega, by omega, z4, z5, z6⟩
  intro X34 h34
  have key : ∀ (t : Nat) (k : Nat) (s1 : SS), (k : Int) ≤ s.1 25 → s.1 25 - k < t → frm [] [104] t0 s1 → (∀ j, 0 ≤ j → j < s.1 25 → s1.2 104 j = if j < k ∧ dB s x j = true then -1 else s.2 104 j) → (∀ j, s.1 25 ≤ j → s1.2 104 j = s.2 104 j) → X34 x (cntP (dB s x) k) (s.2 105 x) k s1 := by
    intro t
    induction t with
    | zero => intro k s1 a b; omega
    | succ t ih =>
      intro k s1 k1 ht hf hI hO
      have e46 : s1.1 46 = s.1 25 := by rw [hf.1 46 rfl, z46]
      have e105 : s1.2 105 = s.2 105 := by rw [hf.2 105 rfl, y105]
      have e99 : s1.2 99 = s.2 99 := by rw [hf.2 99 rfl]; exact hf0.2 99 rfl
      refine h34 _ _ _ _ _ ⟨⟨by omega, by omega⟩, by rw [e46]; exact ⟨by omega, by omega⟩, fun d => ?_, fun d => ?_⟩
      · rw [e46] at d
        rw [show k = (s.1 25).toNat by omega]
        refine hk s1 hf (fun j j0 j1 => ?_) hO
        rw [hI j j0 j1]
        exact if_cg ⟨fun q => q.2, fun q => ⟨by omega, q⟩⟩ rfl rfl
      · rw [e46] at d
        obtain ⟨a1, a2, a3, a4, a5, a6⟩ := g4 k (by omega) d
        have nk := nmr k (by omega) d
        have nX := nmr x x0 x1
        have h104 : s1.2 104 k = s.2 104 k := by rw [hI k (by omega) d, if_neg (by omega)]
        have no : ¬ dB s x k = true → X34 x (cntP (dB s x) k) (s.2 105 x) ((k : Int) + 1) s1 := fun hn => by
          have nx := ih (k + 1) s1 (by omega) (by omega) hf (fun j j0 j1 => by
            rw [hI j j0 j1]
            refine if_cg ⟨fun q => ⟨by omega, q.2⟩, fun q => ⟨?_, q.2⟩⟩ rfl rfl
            have : j ≠ k := fun e => hn (by rw [← e]; exact q.2)
            omega) hO
          rw [cntP_s, if_neg hn, Int.add_zero] at nx
          exact nx
        refine ⟨by omega, by rw [h104]; exact ⟨by omega, by omega⟩, fun f => no (fun q => ?_), fun f => ?_⟩
        · rw [h104] at f
          have := (dB_iff.mp q).1
          omega
        · rw [h104] at f
          rw [e99, e105]
          refine ⟨by omega, by omega, ⟨by omega, by omega⟩, ⟨by omega, by omega⟩, fun g => no (fun q => ?_), fun g => ⟨by omega, ⟨by omega, by omega⟩, ⟨by omega, by omega⟩, fun y => ⟨by omega, fun s2 h2 => ?_⟩, fun y => no (fun q => ?_)⟩⟩
          · have := (dB_iff.mp q).2.2
            omega
          · have hd : dB s x k = true := dB_iff.mpr ⟨by omega, by omega, by omega⟩
            have nx := ih (k + 1) s2 (by omega) (by omega) (by rw [h2]; exact frm_tr hf (frm_A _ _ _ (by decide))) (fun j j0 j1 => by
                rw [h2, sA_s]
                by_cases e : j = k
                · rw [if_pos e, if_pos ⟨by omega, by rw [e]; exact hd⟩]
                · rw [if_neg e, hI j j0 j1]
                  exact if_cg ⟨fun q => ⟨by omega, q.2⟩, fun q => ⟨by omega, q.2⟩⟩ rfl rfl) (fun j j0 => by rw [h2, sA_s, if_neg (by omega)]; exact hO j j0)
            rw [cntP_s, if_pos hd] at nx
            exact nx
          · have := (dB_iff.mp q).2.1
            omega
  have nX := nmr x x0 x1
  refine ⟨rx, fun c => by omega, fun _ => ⟨rx, by rw [z46]; exact ⟨by omega, by omega⟩, fun c => by omega, fun _ => b1' ⟨by omega, by rw [y104]; exact ⟨by omega, by omega⟩, fun c => ⟨by omega, ?_⟩, fun c => by rw [y104] at c; omega⟩⟩⟩
  rw [y105]
  exact key 100 0 t0 (by omega) (by omega) (frm_rf _ _ _) (fun j j0 j1 => by rw [if_neg (by omega), y104]) (fun j j0 => by rw [y104])
end
