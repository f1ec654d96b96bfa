section
/-! take: both -/
theorem sim_take {x n : Int} {s : SS} {K : Int → Int → SS → Prop} (rx : rng x) (h : iGrv n s) (hn : n ≤ 2147483646) (hN : s.1 4 ≤ 20) (hk : ∀ r s', rng r → iGrv n s' → frm [] [50, 104] s s' → K r r s') : Sp_LS_take x s (fun p s1 => Sp_Md_take x s1 (fun q s2 => K p q s2)) := by
  obtain ⟨g1, g2, g3, g4, g5, g6, g7⟩ := id h
  have stay : ∀ v : Int, rng v → K v v s := fun v hv => hk v s hv h (frm_rf _ _ s)
  refine isB_b (LS_isSet_B rx h) (fun c => ?_) (fun c => ⟨by omega, ?_⟩)
  · intro X34 h34
    exact isB_b (Md_isSet_B rx h) (fun _ => stay _ (by decide)) (fun q => absurd q c)
  · have gx := (g4 x c.1 c.2).2.2.2.2.2
    refine ⟨by rcases gx with z | z <;> exact ⟨by omega, by omega⟩, fun d => ?_, fun d => ?_⟩
    · refine Gr_strip_ok h hn c.1 c.2 d (fun s1 hf1 h50 => ?_)
      refine Md_strip_ok h hn hf1 rx c.1 c.2 d (fun s2 hf2 h104 h104o => ?_) hN
      have ff : frm [] [50, 104] s s2 := frm_tr (frm_mono hf1 (by decide) (by decide)) (frm_mono hf2 (by decide) (by decide))
      have e50 : s2.2 50 = s1.2 50 := hf2.2 50 rfl
      have cb := cntP_b (dB s x) (s.1 25).toNat
      refine hk _ s2 ⟨by omega, by omega⟩ ⟨?_, ?_, ?_, fun k k0 k1 => ?_, fun k k0 k1 => ?_, fun m m0 m1 => ?_, fun m k m0 m1 k0 k1 => ?_⟩ ff
      · rw [ff.1 25 rfl, ff.1 46 rfl]; exact g1
      · rw [ff.1 27 rfl, ff.1 47 rfl]; exact g2
      · rw [ff.1 26 rfl, ff.1 48 rfl]; exact g3
      · rw [ff.1 25 rfl] at k1
        obtain ⟨a1, a2, a3, a4, a5, a6⟩ := g4 k k0 k1
        rw [ff.2 45 rfl, ff.2 46 rfl, ff.2 47 rfl, ff.2 48 rfl, ff.2 49 rfl, ff.2 51 rfl, ff.2 52 rfl, ff.2 99 rfl, ff.2 100 rfl, ff.2 101 rfl, ff.2 102 rfl, ff.2 103 rfl, ff.2 105 rfl, ff.1 26 rfl, ff.1 27 rfl, e50, h50 k k0 k1, h104 k k0 k1]
        refine ⟨a1, a2, a3, a4, a5, ?_⟩
        by_cases y : dB s x k = true
        · rw [if_pos y, if_pos y]; exact Or.inl ⟨rfl, rfl⟩
        · rw [if_neg y, if_neg y]; exact a6
      · rw [ff.1 25 rfl] at k0
        rw [h104o k k0]; exact g5 k k0 k1
      · rw [ff.1 27 rfl] at m1
        rw [ff.2 106 rfl, ff.2 52 rfl, ff.2 107 rfl, ff.2 53 rfl, ff.2 108 rfl, ff.2 54 rfl, ff.2 109 rfl, ff.2 55 rfl, ff.1 4 rfl]
        exact g6 m m0 m1
      · rw [ff.1 27 rfl] at m1 k1
        rw [ff.2 52 rfl]
        exact g7 m k m0 m1 k0 k1
    · intro X34 h34
      have z : s.2 104 x = -1 := by rcases gx with y | y <;> omega
      refine isB_b (Md_isSet_B rx h) (fun q => absurd c q) (fun _ => ⟨by omega, by rw [z]; decide, fun q => by omega, fun _ => stay _ (by decide)⟩)
end
