section
/-! set -/
def sC2 (x2 x3 x4 x5 : Int) : Prop := (100 ≤ x2 ∧ x2 ≤ x3 ∧ x3 ≤ 220) ∧ ((0 ≤ x4 ∧ x4 ≤ 255) ∧ (0 ≤ x5 ∧ x5 ≤ 255) ∧ bnd x4 x5 = 0)
theorem Gr_isGrave_B3 {x : Int} (hx : rng x) (s : SS) : isB (0 ≤ x ∧ x ≤ 3) s (Sp_Gr_isGrave x s) := by
  intro K h1 h0
  exact ⟨hx, fun c => h0 (by omega), fun c => ⟨hx, fun d => h0 (by omega), fun d => h1 (by omega)⟩⟩
theorem Gr_isHeight_B {x : Int} (hx : rng x) (s : SS) : isB (100 ≤ x ∧ x ≤ 220) s (Sp_Gr_isHeight x s) := by
  intro K h1 h0
  exact ⟨hx, fun c => h0 (by omega), fun c => ⟨hx, fun d => h0 (by omega), fun d => h1 (by omega)⟩⟩
theorem Md_set_ok {x1 x2 x3 x4 x5 : Int} {s : SS} {Q : Int → SS → Prop} (r1 : rng x1) (r2 : rng x2) (r3 : rng x3) (r4 : rng x4) (r5 : rng x5) (hS : 0 ≤ s.1 46 ∧ s.1 46 ≤ 8) (n1 : ¬ (0 ≤ x1 ∧ x1 ≤ 3) → Q (-1) s) (n2 : 0 ≤ x1 ∧ x1 ≤ 3 → ¬ sC2 x2 x3 x4 x5 → Q (-2) s) (n4 : 0 ≤ x1 ∧ x1 ≤ 3 → sC2 x2 x3 x4 x5 → s.1 46 = 8 → Q (-4) s) (go : 0 ≤ x1 ∧ x1 ≤ 3 → sC2 x2 x3 x4 x5 → s.1 46 < 8 → ∀ s', frm [46] [99, 100, 101, 102, 103] s s' → s'.1 46 = s.1 46 + 1 → s'.2 99 = updF (s.2 99) (s.1 46) x1 → s'.2 100 = updF (s.2 100) (s.1 46) x2 → s'.2 101 = updF (s.2 101) (s.1 46) x3 → s'.2 102 = updF (s.2 102) (s.1 46) x4 → s'.2 103 = updF (s.2 103) (s.1 46) x5 → Q (s.1 46) s') : Sp_Md_set x1 x2 x3 x4 x5 s Q := by
  refine ⟨r1, isB_b (Md_isIn_B r1 (by decide) (by decide) s) (fun c => n1 c) (fun c1 => ⟨r2, isB_a (Md_isIn_B r2 (by decide) (by decide) s) (fun c => n2 c1 (fun q => c (by have := q.1; omega))) (fun c2 => ⟨r3, r2, isB_a (Md_isIn_B r3 r2 (by decide) s) (fun c => n2 c1 (fun q => c (by have := q.1; omega))) (fun c3 => isB_b (Md_areMarks_B r4 r5 s) (fun c => n2 c1 (fun q => c q.2)) (fun c4 => ?_))⟩)⟩)⟩
  have q2 : sC2 x2 x3 x4 x5 := ⟨by omega, c4⟩
  refine ⟨⟨by omega, by omega⟩, fun f => ?_, fun f => n4 c1 q2 f⟩
  have iS : 0 ≤ s.1 46 ∧ s.1 46 < 8 := by omega
  refine ⟨iS, fun s1 h1 => ?_⟩
  have p1 : s1.1 = s.1 := by rw [h1]; rfl
  rw [p1]
  refine ⟨iS, fun s2 h2 => ?_⟩
  have p2 : s2.1 = s.1 := by rw [h2]; exact p1
  rw [p2]
  refine ⟨iS, fun s3 h3 => ?_⟩
  have p3 : s3.1 = s.1 := by rw [h3]; exact p2
  rw [p3]
  refine ⟨iS, fun s4 h4 => ?_⟩
  have p4 : s4.1 = s.1 := by rw [h4]; exact p3
  rw [p4]
  refine ⟨iS, fun s5 h5 => ?_⟩
  have p5 : s5.1 = s.1 := by rw [h5]; exact p4
  rw [p5]
  intro s6 h6
  have p6 : s6.1 46 = s.1 46 + 1 := by rw [h6, sF_s]
  have e6 : s6 = sF (sA (sA (sA (sA (sA s 99 (s.1 46) x1) 100 (s.1 46) x2) 101 (s.1 46) x3) 102 (s.1 46) x4) 103 (s.1 46) x5) 46 (s.1 46 + 1) := by rw [h6, h5, h4, h3, h2, h1]
  rw [p6, Int.add_sub_cancel]
  refine go c1 q2 (by omega) s6 ?_ p6 ?_ ?_ ?_ ?_ ?_
  · rw [e6]
    repeat (first | refine frm_tr ?_ (frm_A _ _ _ (by decide)) | refine frm_tr ?_ (frm_F _ _ (by decide)))
    exact frm_rf _ _ _
  all_goals
    rw [e6]
    repeat (first | rw [sA_u] | rw [sA_n _ _ _ (by decide)] | rw [sF_2])
theorem sim_set {x1 x2 x3 x4 x5 n : Int} {s : SS} {K : Int → Int → SS → Prop} (r1 : rng x1) (r2 : rng x2) (r3 : rng x3) (r4 : rng x4) (r5 : rng x5) (h : iGrv n s) (hk : ∀ r s', rng r → iGrv n s' → frm [25, 46] [45, 46, 47, 48, 49, 50, 99, 100, 101, 102, 103] s s' → K r r s') : Sp_LS_set x1 x2 x3 x4 x5 s (fun p s1 => Sp_Md_set x1 x2 x3 x4 x5 s1 (fun q s2 => K p q s2)) := by
  obtain ⟨g1, g2, g3, g4, g5, g6, g7⟩ := id h
  have stay : ∀ v : Int, rng v → K v v s := fun v hv => hk v s hv h (frm_rf _ _ s)
  have no2 : 0 ≤ x1 ∧ x1 ≤ 3 → ¬ sC2 x2 x3 x4 x5 → Sp_Md_set x1 x2 x3 x4 x5 s (fun q s2 => K (-2) q s2) := fun c1 c2 => Md_set_ok r1 r2 r3 r4 r5 (by omega) (fun q => absurd c1 q) (fun _ _ => stay _ (by decide)) (fun _ q => absurd q c2) (fun _ q => absurd q c2)
  refine isB_b (Gr_isGrave_B3 r1 s) (fun c => ?_) (fun c1 => isB_a (Gr_isHeight_B r2 s) (fun c => no2 c1 (fun q => c (by have := q.1; omega))) (fun c2 => isB_a (Gr_isHeight_B r3 s) (fun c => no2 c1 (fun q => c (by have := q.1; omega))) (fun c3 => ⟨r2, r3, fun c => isB_b (Gr_areMarks_B r4 r5 s) (fun d => no2 c1 (fun q => d q.2)) (fun c4 => ?_), fun c => no2 c1 (fun q => by have := q.1; omega)⟩)))
  · exact Md_set_ok r1 r2 r3 r4 r5 (by omega) (fun _ => stay _ (by decide)) (fun q => absurd q c) (fun q => absurd q c) (fun q => absurd q c)
  · have q2 : sC2 x2 x3 x4 x5 := ⟨by omega, c4⟩
    refine ⟨⟨by omega, by omega⟩, fun f => ?_, fun f => Md_set_ok r1 r2 r3 r4 r5 (by omega) (fun q => absurd c1 q) (fun _ q => absurd q2 q) (fun _ _ _ => stay _ (by decide)) (fun _ _ q => by omega)⟩
    have iS : 0 ≤ s.1 25 ∧ s.1 25 < 8 := by omega
    refine ⟨iS, fun s1 h1 => ?_⟩
    have p1 : s1.1 = s.1 := by rw [h1]; rfl
    rw [p1]
    refine ⟨iS, fun s2 h2 => ?_⟩
    have p2 : s2.1 = s.1 := by rw [h2]; exact p1
    rw [p2]
    refine ⟨iS, fun s3 h3 => ?_⟩
    have p3 : s3.1 = s.1 := by rw [h3]; exact p2
    rw [p3]
    refine ⟨iS, fun s4 h4 => ?_⟩
    have p4 : s4.1 = s.1 := by rw [h4]; exact p3
    rw [p4]
    refine ⟨iS, fun s5 h5 => ?_⟩
    have p5 : s5.1 = s.1 := by rw [h5]; exact p4
    rw [p5]
    refine ⟨iS, fun s6 h6 s7 h7 => ?_⟩
    have p6 : s6.1 = s.1 := by rw [h6]; exact p5
    have p7 : s7.1 25 = s.1 25 + 1 := by rw [h7, sF_s, p6]
    rw [p7, Int.add_sub_cancel]
    have e7 : s7 = sF (sA (sA (sA (sA (sA (sA s 45 (s.1 25) x1) 46 (s.1 25) x2) 47 (s.1 25) x3) 48 (s.1 25) x4) 49 (s.1 25) x5) 50 (s.1 25) (-1)) 25 (s.1 25 + 1) := by rw [h7, p6, h6, h5, h4, h3, h2, h1]
    have f7 : frm [25] [45, 46, 47, 48, 49, 50] s s7 := by
      rw [e7]
      repeat (first | refine frm_tr ?_ (frm_A _ _ _ (by decide)) | refine frm_tr ?_ (frm_F _ _ (by decide)))
      exact frm_rf _ _ _
    have w45 : s7.2 45 = updF (s.2 45) (s.1 25) x1 := by
      rw [e7]
      repeat (first | rw [sA_u] | rw [sA_n _ _ _ (by decide)] | rw [sF_2])
    have w46 : s7.2 46 = updF (s.2 46) (s.1 25) x2 := by
      rw [e7]
      repeat (first | rw [sA_u] | rw [sA_n _ _ _ (by decide)] | rw [sF_2])
    have w47 : s7.2 47 = updF (s.2 47) (s.1 25) x3 := by
      rw [e7]
      repeat (first | rw [sA_u] | rw [sA_n _ _ _ (by decide)] | rw [sF_2])
    have w48 : s7.2 48 = updF (s.2 48) (s.1 25) x4 := by
      rw [e7]
      repeat (first | rw [sA_u] | rw [sA_n _ _ _ (by decide)] | rw [sF_2])
    have w49 : s7.2 49 = updF (s.2 49) (s.1 25) x5 := by
      rw [e7]
      repeat (first | rw [sA_u] | rw [sA_n _ _ _ (by decide)] | rw [sF_2])
    have w50 : s7.2 50 = updF (s.2 50) (s.1 25) (-1) := by
      rw [e7]
      repeat (first | rw [sA_u] | rw [sA_n _ _ _ (by decide)] | rw [sF_2])
    have m46 : s7.1 46 = s.1 25 := by rw [f7.1 46 rfl]; exact g1.1.symm
    refine Md_set_ok r1 r2 r3 r4 r5 (by omega) (fun q => absurd c1 q) (fun _ q => absurd q2 q) (fun _ _ q => by omega) (fun _ _ _ s' hf' v46 v99 v100 v101 v102 v103 => ?_)
    rw [m46] at v46 v99 v100 v101 v102 v103 ⊢
    have ff : frm [25, 46] [45, 46, 47, 48, 49, 50, 99, 100, 101, 102, 103] s s' := frm_tr (frm_mono f7 (by decide) (by decide)) (frm_mono hf' (by decide) (by decide))
    have t25 : s'.1 25 = s.1 25 + 1 := by rw [hf'.1 25 rfl, p7]
    refine hk _ s' ⟨by omega, by omega⟩ ⟨⟨by omega, by omega, by omega⟩, ?_, ?_, fun k k0 k1 => ?_, fun k k0 k1 => ?_, fun m m0 m1 => ?_, fun m k m0 m1 k0 k1 => ?_⟩ ff
    · rw [ff.1 27 rfl, ff.1 47 rfl]; exact g2
    · rw [ff.1 26 rfl, ff.1 48 rfl]; exact g3
    · rw [t25] at k1
      rw [hf'.2 45 rfl, w45, hf'.2 46 rfl, w46, hf'.2 47 rfl, w47, hf'.2 48 rfl, w48, hf'.2 49 rfl, w49, hf'.2 50 rfl, w50, v99, v100, v101, v102, v103, f7.2 99 rfl, f7.2 100 rfl, f7.2 101 rfl, f7.2 102 rfl, f7.2 103 rfl, ff.2 104 rfl, ff.2 52 rfl, ff.2 51 rfl, ff.2 105 rfl, ff.1 27 rfl, ff.1 26 rfl]
      by_cases e : k = s.1 25
      · rw [e, updF_s, updF_s, updF_s, updF_s, updF_s, updF_s, updF_s, updF_s, updF_s, updF_s, updF_s]
        exact ⟨c1, q2.1, q2.2.1, q2.2.2.1, ⟨rfl, rfl, rfl, rfl, rfl⟩, Or.inl ⟨rfl, g5 _ (Int.le_refl _) (by omega)⟩⟩
      · rw [updF_n _ _ e, updF_n _ _ e, updF_n _ _ e, updF_n _ _ e, updF_n _ _ e, updF_n _ _ e, updF_n _ _ e, updF_n _ _ e, updF_n _ _ e, updF_n _ _ e, updF_n _ _ e]
        exact g4 k k0 (by omega)
    · rw [ff.2 104 rfl]; exact g5 k (by omega) k1
    · rw [ff.1 27 rfl] at m1
      rw [ff.2 106 rfl, ff.2 52 rfl, ff.2 107 rfl, ff.2 53 rfl, ff.2 108 rfl, ff.2 54 rfl, ff.2 109 rfl, ff.2 55 rfl, ff.1 4 rfl]
      exact g6 m m0 m1
    · rw [ff.1 27 rfl] at m1 k1
      rw [ff.2 52 rfl]
      exact g7 m k m0 m1 k0 k1
end
