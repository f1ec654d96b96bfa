section
/-! missing: both -/
theorem sim_missing {x1 x2 x3 x4 n : Int} {s : SS} {K : Int → Int → SS → Prop} (r1 : rng x1) (r2 : rng x2) (r3 : rng x3) (r4 : rng x4) (hb : iBook s) (h : iGrv n s) (hk : ∀ r s', rng r → iGrv n s' → frm [27, 47] [52, 53, 54, 55, 106, 107, 108, 109] s s' → K r r s') : Sp_LS_missing x1 x2 x3 x4 s (fun p s1 => Sp_Md_missing x1 x2 x3 x4 s1 (fun q s2 => K p q s2)) := by
  obtain ⟨g1, g2, g3, g4, g5, g6, g7⟩ := id h
  have b2 := hb.2.1
  have stay : ∀ v : Int, rng v → K v v s := fun v hv => hk v s hv h (frm_rf _ _ s)
  intro X24 h24
  -- the model at s, for what is refused; it finds the same index
  obtain ⟨r, hr⟩ : ∃ r, lostI s x1 r := by
    by_cases z : ∃ m, 0 ≤ m ∧ m < s.1 27 ∧ s.2 52 m = x1
    · obtain ⟨m, m0, m1, m2⟩ := z
      exact ⟨m, Or.inr ⟨m0, m1, m2⟩⟩
    · exact ⟨-1, Or.inl ⟨rfl, fun m m0 m1 m2 => z ⟨m, m0, m1, m2⟩⟩⟩
  have rr : rng r ∧ r < s.1 27 := by rcases hr with z | z; (rw [z.1]; exact ⟨by decide, by omega⟩); exact ⟨⟨by omega, by omega⟩, by omega⟩
  have h31 : s.1 31 = s.1 4 := b2.1.symm
  have ag : agr [46, 47] [104, 106] s s := ⟨fun _ _ => rfl, fun _ _ => rfl⟩
  have no1 : ¬ (0 ≤ x1 ∧ x1 < s.1 4) → Sp_Md_missing x1 x2 x3 x4 s (fun q s2 => K (-1) q s2) := fun c => Md_missing_ok r1 r2 r3 r4 h b2.2 h31 ag hr (fun _ => stay _ (by decide)) (fun q => absurd q c) (fun q => absurd q c) (fun q => absurd q c) (fun q => absurd q c)
  have no2 : 0 ≤ x1 ∧ x1 < s.1 4 → ¬ mC2 x2 x3 x4 → Sp_Md_missing x1 x2 x3 x4 s (fun q s2 => K (-2) q s2) := fun c1 c => Md_missing_ok r1 r2 r3 r4 h b2.2 h31 ag hr (fun q => absurd c1 q) (fun _ _ => stay _ (by decide)) (fun _ q => absurd q c) (fun _ q => absurd q c) (fun _ q => absurd q c)
  have no3 : 0 ≤ x1 ∧ x1 < s.1 4 → mC2 x2 x3 x4 → (0 ≤ r ∧ takP s r) → Sp_Md_missing x1 x2 x3 x4 s (fun q s2 => K (-3) q s2) := fun c1 c2 c => Md_missing_ok r1 r2 r3 r4 h b2.2 h31 ag hr (fun q => absurd c1 q) (fun _ q => absurd c2 q) (fun _ _ _ => stay _ (by decide)) (fun _ _ q => by have := c.1; omega) (fun _ _ q => absurd c q)
  have no4 : 0 ≤ x1 ∧ x1 < s.1 4 → mC2 x2 x3 x4 → (r < 0 ∧ s.1 27 = 10) → Sp_Md_missing x1 x2 x3 x4 s (fun q s2 => K (-4) q s2) := fun c1 c2 c => Md_missing_ok r1 r2 r3 r4 h b2.2 h31 ag hr (fun q => absurd c1 q) (fun _ q => absurd c2 q) (fun _ _ q => by have := q.1; omega) (fun _ _ _ => stay _ (by decide)) (fun _ _ _ q => absurd c q)
  have comes : 0 ≤ x1 ∧ x1 < s.1 4 → mC2 x2 x3 x4 → ¬ (0 ≤ r ∧ takP s r) → ¬ (r < 0 ∧ s.1 27 = 10) → ∀ (i v : Int) (t : SS), (0 ≤ r → i = r) → (r < 0 → i = s.1 27) → frm [27] [52, 53, 54, 55] s t → t.1 27 = v → v = (if r < 0 then s.1 27 + 1 else s.1 27) → (∀ m, 0 ≤ m → m < v → t.2 52 m = if m = i then x1 else s.2 52 m) → t.2 53 = updF (s.2 53) i x2 → t.2 54 = updF (s.2 54) i x3 → t.2 55 = updF (s.2 55) i x4 → Sp_Md_missing x1 x2 x3 x4 t (fun q s2 => K v q s2) := by
    intro c1 c2 c3 c4 i v t i1 i2 ft tv hv t52 t53 t54 t55
    refine Md_missing_ok (Gh := s) r1 r2 r3 r4 h b2.2 (by rw [ft.1 31 rfl]; exact h31) (agr_of ft (by decide)) hr (fun q => absurd c1 q) (fun _ q => absurd c2 q) (fun _ _ q => absurd q c3) (fun _ _ q => absurd q c4) (fun _ _ _ _ i' s' j1 j2 hf' v47 v106 v107 v108 v109 => ?_)
    have ei : i' = i := by rcases Int.lt_or_le r 0 with z | z; (rw [j2 z, i2 z]); rw [j1 z, i1 z]
    rw [ei] at v106 v107 v108 v109
    rw [v47, ← hv]
    have ff : frm [27, 47] [52, 53, 54, 55, 106, 107, 108, 109] s s' := frm_tr (frm_mono ft (by decide) (by decide)) (frm_mono hf' (by decide) (by decide))
    have u27 : s'.1 27 = v := by rw [hf'.1 27 rfl, tv]
    have vM : s.1 27 ≤ v ∧ v ≤ 10 ∧ (∀ m, m < v → m ≠ i → m < s.1 27) := by
      rcases Int.lt_or_le r 0 with z | z
      · rw [if_pos z] at hv
        have := i2 z
        exact ⟨by omega, by omega, fun m _ _ => by omega⟩
      · rw [if_neg (by omega)] at hv
        exact ⟨by omega, by omega, fun m _ _ => by omega⟩
    have ix : ∀ m, 0 ≤ m → m < s.1 27 → m = i → s.2 52 m = x1 := by
      intro m m0 m1 e
      rcases hr with ⟨z1, z2⟩ | ⟨z1, z2, z3⟩
      · have := i2 (by omega); omega
      · rw [e, i1 z1]; exact z3
    have n52 : ∀ m, 0 ≤ m → m < s.1 27 → s'.2 52 m = s.2 52 m := by
      intro m m0 m1
      rw [hf'.2 52 rfl, t52 m m0 (by omega)]
      by_cases e : m = i
      · rw [if_pos e, ix m m0 m1 e]
      · rw [if_neg e]
    refine hk _ s' ⟨by omega, by omega⟩ ⟨?_, ⟨by rw [u27, v47, hv], by omega, by omega⟩, ?_, fun k k0 k1 => ?_, fun k k0 k1 => ?_, fun m m0 m1 => ?_, fun m k m0 m1 k0 k1 hmk => ?_⟩ ff
    · rw [ff.1 25 rfl, ff.1 46 rfl]; exact g1
    · rw [ff.1 26 rfl, ff.1 48 rfl]; exact g3
    · rw [ff.1 25 rfl] at k1
      obtain ⟨a1, a2, a3, a4, a5, a6⟩ := g4 k k0 k1
      rw [ff.2 45 rfl, ff.2 46 rfl, ff.2 47 rfl, ff.2 48 rfl, ff.2 49 rfl, ff.2 50 rfl, ff.2 51 rfl, ff.2 99 rfl, ff.2 100 rfl, ff.2 101 rfl, ff.2 102 rfl, ff.2 103 rfl, ff.2 104 rfl, ff.2 105 rfl, ff.1 26 rfl, u27]
      refine ⟨a1, a2, a3, a4, a5, ?_⟩
      rcases a6 with z | ⟨z1, z2, z3, z4⟩
      · exact Or.inl z
      · exact Or.inr ⟨z1, by omega, by rw [n52 _ z1 z2]; exact z3, z4⟩
    · rw [ff.1 25 rfl] at k0
      rw [ff.2 104 rfl]; exact g5 k k0 k1
    · rw [u27] at m1
      rw [v106, v107, v108, v109, ft.2 106 rfl, ft.2 107 rfl, ft.2 108 rfl, ft.2 109 rfl, hf'.2 52 rfl, t52 m m0 m1, hf'.2 53 rfl, t53, hf'.2 54 rfl, t54, hf'.2 55 rfl, t55, ff.1 4 rfl]
      by_cases e : m = i
      · rw [e, updF_s, updF_s, updF_s, updF_s, updF_s, updF_s, updF_s, if_pos rfl]
        exact ⟨⟨rfl, c1.1, c1.2⟩, ⟨rfl, c2.1⟩, ⟨rfl, c2.2.1.1, c2.2.1.2⟩, ⟨rfl, c2.2.2.1.1, c2.2.2.1.2⟩⟩
      · rw [updF_n _ _ e, updF_n _ _ e, updF_n _ _ e, updF_n _ _ e, updF_n _ _ e, updF_n _ _ e, updF_n _ _ e, if_neg e]
        exact g6 m m0 (vM.2.2 m m1 e)
    · rw [u27] at m1 k1
      rw [hf'.2 52 rfl, t52 m m0 m1, t52 k k0 k1] at hmk
      have oth : ∀ j, 0 ≤ j → j < v → j ≠ i → s.2 52 j ≠ x1 := by
        intro j j0 j1' e q
        have jM := vM.2.2 j j1' e
        rcases hr with ⟨z1, z2⟩ | ⟨z1, z2, z3⟩
        · exact z2 j j0 jM q
        · have := g7 j r j0 jM z1 z2 (by omega)
          have := i1 z1
          omega
      by_cases e : m = i
      · by_cases e2 : k = i
        · omega
        · rw [if_pos e, if_neg e2] at hmk
          exact absurd hmk.symm (oth k k0 k1 e2)
      · by_cases e2 : k = i
        · rw [if_neg e, if_pos e2] at hmk
          exact absurd hmk (oth m m0 m1 e)
        · rw [if_neg e, if_neg e2] at hmk
          exact g7 m k m0 (vM.2.2 m m1 e) k0 (vM.2.2 k k1 e2) hmk
  have body : 0 ≤ x1 ∧ x1 < s.1 4 → (x2 = 0 ∨ (100 ≤ x2 ∧ x2 ≤ 220)) → X24 x1 x2 x3 x4 s := by
    intro c1 ch
    refine h24 _ _ _ _ _ (isB_b (Gr_areMarks_B r3 r4 s) (fun c => no2 c1 (fun q => c q.2)) (fun cm => Gr_lostIndex_ok r1 h b2.2.2 (fun r' hr' => ?_)))
    have c2 : mC2 x2 x3 x4 := ⟨ch, cm⟩
    rw [lostI_u h hr' hr]
    refine ⟨rr.1, fun d => isB_a (Gr_isTaken_B rr.1 h) (fun c3 => ?_) (fun c3 => no3 c1 c2 ⟨d, c3⟩), fun d => ⟨⟨by omega, by omega⟩, fun f => ⟨by omega, fun s1 h1 s2 h2 => ?_⟩, fun f => no4 c1 c2 ⟨d, by omega⟩⟩⟩
    · have iR : 0 ≤ r ∧ r < 10 := by omega
      refine ⟨iR, fun s1 h1 => ⟨iR, fun s2 h2 => ⟨iR, fun s3 h3 => ?_⟩⟩⟩
      have e3 : s3 = sA (sA (sA s 53 r x2) 54 r x3) 55 r x4 := by rw [h3, h2, h1]
      have p27 : s3.1 27 = s.1 27 := by rw [e3]; rfl
      refine comes c1 c2 (fun q => c3 q.2) (fun q => by omega) r (s3.1 27) s3 (fun _ => rfl) (fun q => by omega) ?_ rfl (by rw [p27, if_neg (by omega)]) (fun m m0 m1 => ?_) ?_ ?_ ?_
      · rw [e3]
        repeat (first | refine frm_tr ?_ (frm_A _ _ _ (by decide)))
        exact frm_rf _ _ _
      · have e52 : s3.2 52 = s.2 52 := by
          rw [e3]
          repeat (first | rw [sA_n _ _ _ (by decide)])
        rw [e52]
        by_cases e : m = r
        · rw [if_pos e, e]
          rcases hr with z | z
          · omega
          · exact z.2.2
        · rw [if_neg e]
      all_goals
        rw [e3]
        repeat (first | rw [sA_u] | rw [sA_n _ _ _ (by decide)])
    · have q27 : s2.1 27 = s.1 27 + 1 := by rw [h2, sF_s, h1, sA_1]
      rw [q27, Int.add_sub_cancel]
      have iR : 0 ≤ s.1 27 ∧ s.1 27 < 10 := by omega
      refine ⟨iR, fun s3 h3 => ⟨iR, fun s4 h4 => ⟨iR, fun s5 h5 => ?_⟩⟩⟩
      have e5 : s5 = sA (sA (sA (sF (sA s 52 (s.1 27) x1) 27 (s.1 27 + 1)) 53 (s.1 27) x2) 54 (s.1 27) x3) 55 (s.1 27) x4 := by rw [h5, h4, h3, h2, h1, sA_1]
      have p27 : s5.1 27 = s.1 27 + 1 := by rw [e5]; rfl
      refine comes c1 c2 (fun q => by omega) (fun q => by omega) (s.1 27) (s5.1 27) s5 (fun q => by omega) (fun _ => rfl) ?_ rfl (by rw [p27, if_pos d]) (fun m m0 m1 => ?_) ?_ ?_ ?_
      · rw [e5]
        repeat (first | refine frm_tr ?_ (frm_A _ _ _ (by decide)) | refine frm_tr ?_ (frm_F _ _ (by decide)))
        exact frm_rf _ _ _
      · have e52 : s5.2 52 = updF (s.2 52) (s.1 27) x1 := by
          rw [e5]
          repeat (first | rw [sA_u] | rw [sA_n _ _ _ (by decide)] | rw [sF_2])
        rw [e52]
        rfl
      all_goals
        rw [e5]
        repeat (first | rw [sA_u] | rw [sA_n _ _ _ (by decide)] | rw [sF_2])
  refine isB_b (LS_isName_B r1 hb) (fun c => no1 c) (fun c1 => ⟨r2, fun z => body c1 (Or.inl z), fun z => isB_b (Gr_isHeight_B r2 s) (fun c => no2 c1 (fun q => by have := q.1; omega)) (fun c => body c1 (Or.inr c))⟩)
end
