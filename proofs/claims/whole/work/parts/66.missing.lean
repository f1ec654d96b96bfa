section
/-! missing: the model -/
theorem Md_missing_ok {x1 x2 x3 x4 r n : Int} {Gh s : SS} {Q : Int → SS → Prop} (r1 : rng x1) (r2 : rng x2) (r3 : rng x3) (r4 : rng x4) (h : iGrv n Gh) (hN : 0 ≤ Gh.1 4 ∧ Gh.1 4 ≤ 20) (h31 : s.1 31 = Gh.1 4) (hm : agr [46, 47] [104, 106] Gh s) (hr : lostI Gh x1 r) (n1 : ¬ (0 ≤ x1 ∧ x1 < Gh.1 4) → Q (-1) s) (n2 : 0 ≤ x1 ∧ x1 < Gh.1 4 → ¬ mC2 x2 x3 x4 → Q (-2) s) (n3 : 0 ≤ x1 ∧ x1 < Gh.1 4 → mC2 x2 x3 x4 → (0 ≤ r ∧ takP Gh r) → Q (-3) s) (n4 : 0 ≤ x1 ∧ x1 < Gh.1 4 → mC2 x2 x3 x4 → (r < 0 ∧ Gh.1 27 = 10) → Q (-4) s) (go : 0 ≤ x1 ∧ x1 < Gh.1 4 → mC2 x2 x3 x4 → ¬ (0 ≤ r ∧ takP Gh r) → ¬ (r < 0 ∧ Gh.1 27 = 10) → ∀ (i : Int) s', (0 ≤ r → i = r) → (r < 0 → i = Gh.1 27) → frm [47] [106, 107, 108, 109] s s' → s'.1 47 = (if r < 0 then Gh.1 27 + 1 else Gh.1 27) → s'.2 106 = updF (s.2 106) i x1 → s'.2 107 = updF (s.2 107) i x2 → s'.2 108 = updF (s.2 108) i x3 → s'.2 109 = updF (s.2 109) i x4 → Q (s'.1 47) s') : Sp_Md_missing x1 x2 x3 x4 s Q := by
  have g2 := h.2.1
  have e47 : s.1 47 = Gh.1 27 := by rw [hm.1 47 (by decide)]; exact g2.1.symm
  have hm1 : agr [46] [104] Gh s := ⟨fun k hk => hm.1 k (by rw [List.mem_singleton.mp hk]; decide), fun k hk => hm.2 k (by rw [List.mem_singleton.mp hk]; decide)⟩
  have hm2 : agr [47] [106] Gh s := ⟨fun k hk => hm.1 k (by rw [List.mem_singleton.mp hk]; decide), fun k hk => hm.2 k (by rw [List.mem_singleton.mp hk]; decide)⟩
  have nB : isB (0 ≤ x1 ∧ x1 < Gh.1 4) s (Sp_Md_isName x1 s) := fun K k1 k0 => ⟨r1, fun c => k0 (by omega), fun c => ⟨r1, ⟨by omega, by omega⟩, fun d => k0 (by omega), fun d => k1 (by omega)⟩⟩
  have rr : rng r ∧ r < Gh.1 27 := by rcases hr with z | z; (rw [z.1]; exact ⟨by decide, by omega⟩); exact ⟨⟨by omega, by omega⟩, by omega⟩
  intro X28 X96 h28 h96
  have write : 0 ≤ x1 ∧ x1 < Gh.1 4 → mC2 x2 x3 x4 → ¬ (0 ≤ r ∧ takP Gh r) → ¬ (r < 0 ∧ Gh.1 27 = 10) → ∀ (i : Int) (t : SS), (0 ≤ r → i = r) → (r < 0 → i = Gh.1 27) → (0 ≤ i ∧ i < 10) → frm [47] [106, 107, 108, 109] s t → t.2 = s.2 → t.1 47 = (if r < 0 then Gh.1 27 + 1 else Gh.1 27) → X96 x1 x2 x3 x4 i t := by
    intro c1 c2 c3 c4 i t i1 i2 iR ft e2 t47
    refine h96 _ _ _ _ _ _ ⟨iR, fun s13 h13 => ⟨iR, fun s14 h14 => ⟨iR, fun s15 h15 => ⟨iR, fun s16 h16 => ?_⟩⟩⟩⟩
    have e16 : s16 = sA (sA (sA (sA t 106 i x1) 107 i x2) 108 i x3) 109 i x4 := by rw [h16, h15, h14, h13]
    refine go c1 c2 c3 c4 i s16 i1 i2 ?_ (by rw [e16]; exact t47) ?_ ?_ ?_ ?_
    · rw [e16]
      refine frm_tr ft ?_
      repeat (first | refine frm_tr ?_ (frm_A _ _ _ (by decide)))
      exact frm_rf _ _ _
    all_goals
      rw [e16]
      repeat (first | rw [sA_u] | rw [sA_n _ _ _ (by decide)])
      rw [e2]
  have body : 0 ≤ x1 ∧ x1 < Gh.1 4 → (x2 = 0 ∨ (100 ≤ x2 ∧ x2 ≤ 220)) → X28 x1 x2 x3 x4 s := by
    intro c1 ch
    refine h28 _ _ _ _ _ (isB_b (Md_areMarks_B r3 r4 s) (fun c => n2 c1 (fun q => c q.2)) (fun cm => ?_))
    have c2 : mC2 x2 x3 x4 := ⟨ch, cm⟩
    refine isB_a (Md_isGiven_g ⟨c1.1, by omega⟩ h hm1 hN.2 hr) (fun c3 => Md_missingOf_g r1 h hm2 hN.2 (fun r2' hr2 => ?_)) (fun c3 => n3 c1 c2 c3)
    rw [lostI_u h hr2 hr]
    refine ⟨rr.1, fun d => ⟨rr.1, fun _ => write c1 c2 c3 (fun q => by omega) r s (fun _ => rfl) (fun q => by omega) (by omega) (frm_rf _ _ _) rfl (by rw [if_neg (by omega)]; exact e47), fun q => by omega⟩, fun d => ⟨by rw [e47]; exact ⟨by omega, by omega⟩, fun f => ⟨rr.1, fun q => by omega, fun _ s12 h12 => ?_⟩, fun f => n4 c1 c2 ⟨d, by omega⟩⟩⟩
    rw [e47] at f ⊢
    exact write c1 c2 c3 (fun q => f q.2) (Gh.1 27) s12 (fun q => by omega) (fun _ => rfl) (by omega) (by rw [h12]; exact frm_F _ _ (by decide)) (by rw [h12]; rfl) (by rw [h12, sF_s, e47, if_pos d])
  refine isB_b nB (fun c => n1 c) (fun c1 => ⟨r2, fun z => body c1 (Or.inl z), fun z => ⟨r2, isB_a (Md_isIn_B r2 (by decide) (by decide) s) (fun c => n2 c1 (fun q => by have := q.1; omega)) (fun c => body c1 (Or.inr c))⟩⟩)
end
