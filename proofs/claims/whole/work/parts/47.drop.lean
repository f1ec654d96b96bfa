section
/-! withdraw, about -/
theorem wd_iff {s : SS} (hb : iBook s) {e x : Int} (e0 : 0 ≤ e) (e1 : e ≤ s.1 1) : (0 ≤ x ∧ x < s.1 7 ∧ s.2 25 x < e) ↔ (0 ≤ x ∧ x < wdBy s e) := by
  obtain ⟨b1, b2, b3, b4, b5, b6, b7, b8, b9, b10, b11, b12, b13, b14⟩ := hb
  have hc := bkN_cnt b7 e0 e1
  have hc : 0 ≤ wdBy s e ∧ wdBy s e ≤ s.1 7 := hc
  constructor
  · intro h
    exact ⟨h.1, (bkN_by b7 e0 e1 h.1 h.2.1).mp h.2.2⟩
  · intro h
    have : x < s.1 7 := by omega
    exact ⟨h.1, this, (bkN_by b7 e0 e1 h.1 this).mpr h.2⟩
theorem LS_isWordBy_B {x e : Int} {s : SS} (hx : rng x) (he : rng e) (hw : wOk s) : isB (0 ≤ x ∧ x < s.1 7 ∧ s.2 25 x < e) s (Sp_LS_isWordBy x e s) := by
  intro K h1 h0
  have b3 := hw.1
  refine ⟨hx, fun c => h0 (by omega), fun c => ⟨hx, ⟨by omega, by omega⟩, fun d => h0 (by omega), fun d => ⟨by omega, ?_⟩⟩⟩
  have := hw.2 x c d
  exact ⟨⟨by omega, by omega⟩, he, fun f => h0 (by omega), fun f => h1 (by omega)⟩
theorem sim_withdraw {x : Int} {s : SS} {K : Int → Int → SS → Prop} (rx : rng x) (hb : iBook s) (hy : iKeys s) (hk : ∀ r s', rng r → iBook s' → frm [1, 29, 33, 34, 35] [26, 27, 60, 61, 62, 67, 68, 69, 70, 72] s s' → grw s s' → K r r s') : Sp_LS_withdraw x s (fun p s1 => Sp_Md_withdraw x s1 (fun q s2 => K p q s2)) := by
  obtain ⟨b1, b2, b3, b4, b5, b6, b7, b8, b9, b10, b11, b12, b13, b14⟩ := id hb
  have stay : ∀ v : Int, rng v → K v v s := fun v hv => hk v s hv hb (frm_rf _ _ s) (grw_rf s)
  have wB : ∀ t : SS, t.1 36 = s.1 7 → isB (0 ≤ x ∧ x < s.1 7) t (Sp_Md_isWord x t) := fun t ht K h1 h0 => ⟨rx, fun c => h0 (by omega), fun c => ⟨rx, ⟨by omega, by omega⟩, fun d => h0 (by omega), fun d => h1 (by omega)⟩⟩
  have hW : wdBy s (s.1 1) = s.1 7 := wd_all hb
  refine isB_b (LS_isWordBy_B rx ⟨by omega, by omega⟩ (wOk_b hb)) (fun c => ?_) (fun c => ?_)
  · refine isB_b (wB s b3.1.symm) (fun _ => stay _ (by decide)) (fun q => absurd ⟨q.1, q.2, (b7.2 x q.1 q.2).2.1⟩ c)
  · have hd := b10.1 x c.1 c.2.1
    refine ⟨by omega, by omega, fun z => ⟨by decide, fun _ => ?_, fun q => absurd rfl q⟩, fun z => ⟨by decide, fun q => absurd q (by decide), fun _ => ?_⟩⟩
    · refine isB_a (LS_bookIsFull_B b1.2) (fun nf => ?_) (fun ff => ?_)
      · refine Wo_readBy_ok (wOk_b hb) ⟨by omega, by omega⟩ ⟨by omega, by omega⟩ (fun s1 hf1 h27 => ?_)
        have e7 : s1.1 7 = s.1 7 := hf1.1 7 rfl
        have e1 : s1.1 1 = s.1 1 := hf1.1 1 rfl
        refine Wo_standing_ok (p := st s (s.1 1) (s.1 1)) (by omega) (fun w w0 w1 => h27 w w0 (by omega)) ⟨by omega, fun s2 h2 s3 h3 => ?_⟩
        have e31 : s3.1 1 = s.1 1 + 1 := by rw [h3, sF_s, h2, sA_1, e1]
        have f3 : frm [1] [26, 27] s s3 := by
          rw [h3, h2]
          exact frm_tr (frm_mono hf1 (by decide) (by decide)) (frm_tr (frm_A _ _ _ (by decide)) (frm_F _ _ (by decide)))
        have g26 : s3.2 26 = updF (s.2 26) x (s.1 1) := by rw [h3, sF_2, h2, sA_u, e1, hf1.2 26 rfl]
        have w3 : wOk s3 := by
          have hw := wOk_b hb
          unfold wOk at hw ⊢
          rw [f3.1 7 rfl, f3.2 25 rfl, f3.2 23 rfl, g26]
          refine ⟨hw.1, fun y y0 y1 => ?_⟩
          obtain ⟨q1, q2, q3⟩ := hw.2 y y0 y1
          refine ⟨q1, ?_, q3⟩
          by_cases w : y = x
          · rw [w, updF_s]; omega
          · rw [updF_n _ _ w]; exact q2
        rw [e31]
        refine Wo_readBy_ok w3 ⟨by omega, by omega⟩ ⟨by omega, by omega⟩ (fun s4 hf4 h27' => ?_)
        have e74 : s4.1 7 = s.1 7 := by rw [hf4.1 7 rfl, f3.1 7 rfl]
        refine Wo_standing_ok (p := st s3 (s.1 1 + 1) (s.1 1 + 1)) (by omega) (fun w w0 w1 => h27' w w0 (by rw [f3.1 7 rfl]; omega)) ?_
        rw [e7, e74]
        -- the model, with the book as it was
        have f4 : frm [1] [26, 27] s s4 := frm_tr f3 (frm_mono hf4 (by decide) (by decide))
        have p1 : s4.1 1 = s.1 1 + 1 := by rw [hf4.1 1 rfl, e31]
        have p26 : s4.2 26 = updF (s.2 26) x (s.1 1) := by rw [hf4.2 26 rfl, g26]
        have p29 : s4.1 29 = s.1 1 := by rw [f4.1 29 rfl]; exact b1.1.symm
        refine isB_b (wB s4 (by rw [f4.1 36 rfl]; exact b3.1.symm)) (fun q => absurd ⟨c.1, c.2.1⟩ q) (fun _ => ?_)
        rw [p29]
        refine Md_looks_g (Gh := s) hb (iKeys_agr (agr_of f4 (by decide)) hy) (agr_of f4 (by decide)) b1.2.1 (Int.le_refl _) (fun s5 hf5 q1 q2 q3 q4 q5 q6 q7 => ?_)
        have n29 : s5.1 29 = s.1 1 := by rw [hf5.1 29 rfl, p29]
        have h69 : s5.2 69 x = 0 := by rw [q7 x c.1 (by omega), if_neg (by omega)]
        rw [h69]
        refine ⟨by omega, by decide, fun _ => ⟨by omega, fun _ => ?_, fun q => by omega⟩, fun q => absurd rfl q⟩
        refine Md_standing_ok (p := fun w => decide (w < s.1 7) && st s (s.1 1) (s.1 1) w) (fun w w0 w1 => by rw [q6 w w0 w1, hW]; exact if_and) ?_
        rw [cntP_cut, show min 40 (s.1 7).toNat = (s.1 7).toNat by omega]
        refine Md_enters_ok (by omega) (fun s6 hf6 w29 w60 w61 w62 => ?_)
        rw [n29] at w29 w60 w61 w62
        have f6 : frm [1, 29, 33, 34, 35] [26, 27, 60, 61, 62, 67, 68, 69, 70, 72] s s6 := frm_tr (frm_tr (frm_mono f4 (by decide) (by decide)) (frm_mono hf5 (by decide) (by decide))) (frm_mono hf6 (by decide) (by decide))
        have r1 : s6.1 1 = s.1 1 + 1 := by rw [hf6.1 1 rfl, hf5.1 1 rfl, p1]
        have r26 : s6.2 26 = updF (s.2 26) x (s.1 1) := by rw [hf6.2 26 rfl, hf5.2 26 rfl, p26]
        have m60 : s5.2 60 = s.2 60 := by rw [hf5.2 60 rfl, f4.2 60 rfl]
        have m61 : s5.2 61 = s.2 61 := by rw [hf5.2 61 rfl, f4.2 61 rfl]
        have m62 : s5.2 62 = s.2 62 := by rw [hf5.2 62 rfl, f4.2 62 rfl]
        have hb6 : iBook s6 := by
          refine ⟨⟨by omega, by omega, by omega⟩, ?_, ?_, ?_, ?_, ?_⟩
          · rw [f6.1 4 rfl, f6.1 31 rfl]; exact b2
          · rw [f6.1 7 rfl, f6.1 36 rfl]; exact b3
          · rw [f6.1 18 rfl, f6.1 39 rfl]; exact b4
          · rw [f6.1 5 rfl, r1]; omega
          · rw [w60, w61, w62, m60, m61, m62, r1, r26, f6.2 8 rfl, f6.1 4 rfl, f6.2 25 rfl, f6.1 7 rfl, f6.2 39 rfl, f6.1 18 rfl, f6.2 9 rfl, f6.2 10 rfl, f6.2 11 rfl, f6.2 12 rfl, f6.1 5 rfl, f6.2 18 rfl, f6.2 19 rfl, f6.2 20 rfl, f6.2 21 rfl, f6.2 22 rfl, f6.2 23 rfl, f6.2 24 rfl, f6.2 75 rfl, f6.2 76 rfl, f6.2 77 rfl, f6.2 78 rfl, f6.2 79 rfl, f6.2 80 rfl, f6.2 81 rfl]
            exact ⟨bkN_o b6 b1.2.1 (by decide), bkN_o b7 b1.2.1 (by decide), bkN_o b8 b1.2.1 (by decide), bkD_o b9 b1.2.1 (by decide) (Int.le_refl _) (fun _ _ _ => rfl), bkW_s b10 b1.2.1 ⟨c.1, c.2.1⟩ c.2.2 z (by omega), bkR_o b11 (by decide), typ_o b12 (by decide), b13, b14⟩
        rw [w29]
        refine Md_looks_ok hb6 (iKeys_agr (agr_of f6 (by decide)) hy) (by omega) (by omega) (fun s7 hf7 y1 y2 y3 y4 y5 y6 y7 => ?_)
        have hW6 : wdBy s6 (s.1 1 + 1) = s.1 7 := by rw [← r1, wd_all hb6, f6.1 7 rfl]
        have st6 : ∀ a d y, st s6 a d y = st s3 a d y := fun a d y => by
          unfold st
          rw [f6.2 23 rfl, f6.2 25 rfl, r26, f3.2 23 rfl, f3.2 25 rfl, g26]
        refine Md_standing_ok (p := fun w => decide (w < s.1 7) && st s3 (s.1 1 + 1) (s.1 1 + 1) w) (fun w w0 w1 => by rw [y6 w w0 w1, hW6, st6]; exact if_and) ?_
        rw [cntP_cut, show min 40 (s.1 7).toNat = (s.1 7).toNat by omega]
        have k1 := cntP_b (st s (s.1 1) (s.1 1)) (s.1 7).toNat
        have k2 := cntP_b (st s3 (s.1 1 + 1) (s.1 1 + 1)) (s.1 7).toNat
        exact hk _ s7 ⟨by omega, by omega⟩ (iBook_agr (agr_of hf7 (by decide)) hb6) (frm_tr f6 (frm_mono hf7 (by decide) (by decide))) (grw_u (by rw [hf7.2 60 rfl, w60, m60]) b1.1 (by rw [hf7.1 29 rfl, w29]; omega))
      · refine isB_b (wB s b3.1.symm) (fun q => absurd ⟨c.1, c.2.1⟩ q) (fun _ => ?_)
        rw [← b1.1]
        refine Md_looks_ok hb hy b1.2.1 (Int.le_refl _) (fun s5 hf5 q1 q2 q3 q4 q5 q6 q7 => ?_)
        have n29 : s5.1 29 = s.1 1 := by rw [hf5.1 29 rfl]; exact b1.1.symm
        have h69 : s5.2 69 x = 0 := by rw [q7 x c.1 (by omega), if_neg (by omega)]
        rw [h69]
        exact ⟨by omega, by decide, fun _ => ⟨by omega, fun q => absurd (by omega) q, fun _ => hk _ _ (by decide) (iBook_agr (agr_of hf5 (by decide)) hb) (frm_mono hf5 (by decide) (by decide)) (grw_f (hf5.1 29 rfl) (hf5.2 60 rfl))⟩, fun q => absurd rfl q⟩
    · refine isB_b (wB s b3.1.symm) (fun q => absurd ⟨c.1, c.2.1⟩ q) (fun _ => ?_)
      rw [← b1.1]
      refine Md_looks_ok hb hy b1.2.1 (Int.le_refl _) (fun s5 hf5 q1 q2 q3 q4 q5 q6 q7 => ?_)
      have h69 : s5.2 69 x = 1 := by rw [q7 x c.1 (by omega), if_pos (by omega)]
      rw [h69]
      exact ⟨by omega, by decide, fun q => absurd q (by decide), fun _ => hk _ _ (by decide) (iBook_agr (agr_of hf5 (by decide)) hb) (frm_mono hf5 (by decide) (by decide)) (grw_f (hf5.1 29 rfl) (hf5.2 60 rfl))⟩
end
