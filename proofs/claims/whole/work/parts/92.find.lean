section
/-! RULES: finding, find -/
theorem cntE_c {f g : Int → Int} {t : Int} : ∀ n : Nat, (∀ x, 0 ≤ x → x < (n : Int) → f x = g x) → cntE f t n = cntE g t n := by
  intro n
  induction n with
  | zero => intro _; rfl
  | succ n ih =>
    intro h
    rw [cntE_s, cntE_s, ih (fun x a b => h x a (by omega)), h n (by omega) (by omega)]
theorem Ru_latestBy_ok {e : Int} {s : SS} {Q : Int → SS → Prop} (hb : iBook s) (e0 : 0 ≤ e) (e1 : e ≤ s.1 1) (hk : Q (rlBy s e) s) : Sp_Ru_latestBy e s Q := by
  obtain ⟨b1, b2, b3, b4, b5, b6, b7, b8, -⟩ := id hb
  have hc := bkN_cnt b8 e0 e1
  have hR : rlBy s e = cntE (s.2 60) 6 e.toNat - 1 := rfl
  intro X4 g4
  have key : ∀ (t : Nat) (k l : Int), 0 ≤ k → k ≤ s.1 18 → s.1 18 - k < t → l = min k (cntE (s.2 60) 6 e.toNat) - 1 → X4 e l k s := by
    intro t
    induction t with
    | zero => intro k l a b c; omega
    | succ t ih =>
      intro k l k0 k1 ht hl
      refine g4 _ _ _ _ ⟨⟨by omega, by omega⟩, ⟨by omega, by omega⟩, fun c => ?_, fun c => ?_⟩
      · rw [show l = rlBy s e by omega]; exact hk
      · obtain ⟨q1, q2, q3, q4⟩ := b8.2 k k0 c
        have hby := bkN_by b8 e0 e1 k0 c
        refine ⟨⟨by omega, by omega⟩, ⟨by omega, by omega⟩, ⟨by omega, by omega⟩, fun d => ih (k + 1) l (by omega) (by omega) (by omega) ?_, fun d => ih (k + 1) k (by omega) (by omega) (by omega) ?_⟩
        · have : ¬ k < cntE (s.2 60) 6 e.toNat := fun z => by have := hby.mpr z; omega
          omega
        · have := hby.mp d
          omega
  exact key (s.1 18 + 1).toNat 0 (-1) (by omega) (by omega) (by omega) (by omega)
theorem rl_lt {s : SS} (hb : iBook s) {e : Int} (e0 : 0 ≤ e) (e1 : e ≤ s.1 1) : -1 ≤ rlBy s e ∧ rlBy s e < s.1 39 := by
  have hc := bkN_cnt hb.2.2.2.2.2.2.2.1 e0 e1
  have b4 := hb.2.2.2.1
  unfold rlBy
  omega
/-- what the looks of the model rest on -/
def lgN : List Nat := [1, 4, 29, 31]
def lgA : List Nat := [6, 7, 59, 60, 61, 62, 75, 76, 77, 78, 79, 80, 81, 87, 88, 89, 90, 91]
theorem Md_there2 {a x e : Int} {s t : SS} {Q : Int → SS → Prop} (hb : iBook s) (hbt : iBook t) (hy : iKeys t) (hag : agr lgN lgA s t) (ra : rng a) (rx : rng x) (he : okE s x e) (h0 : ¬ (0 ≤ a ∧ a < nmBy s e) → ∀ s', frm mN mA t s' → Q 0 s') (hk : (0 ≤ a ∧ a < nmBy s e) → ∀ s', frm mN mA t s' → mlk s e e s' → s'.1 35 = rlBy s e → Q 1 s') : Sp_Md_isThere a x t Q := by
  obtain ⟨b1, b2, b3, b4, b5, b6, b7, b8, b9, b10, b11, b12, b13, b14⟩ := id hb
  have hc := bkN_cnt b6 he.1 he.2.1
  have hc : 0 ≤ nmBy s e ∧ nmBy s e ≤ s.1 4 := hc
  have t4 : t.1 4 = s.1 4 := hag.1 4 (by decide)
  have t29 : t.1 29 = s.1 29 := hag.1 29 (by decide)
  refine isB_a (Md_isName_B ra hbt) (fun c => h0 (by omega) _ (frm_rf _ _ _)) (fun ca => isB_b (Md_isTold_B rx (by omega)) (fun c => absurd (show -1 ≤ x ∧ x ≤ t.1 29 by have := he.2.2; omega) c) (fun _ => ?_))
  refine Md_by_ok rx (show (0 ≤ x → e = x) ∧ (x < 0 → e = t.1 29) by have := he.2.2; omega) ?_
  refine Md_looks_g (Gh := s) hb hy ⟨fun k hk => hag.1 k (by revert hk; revert k; decide), fun j hj => hag.2 j (by revert hj; revert j; decide)⟩ he.1 he.2.1 (fun s1 hf g1 g2 g3 g4 g5 g6 g7 => ?_)
  have hF : frm mN mA t s1 := frm_mono hf (by decide) (by decide)
  refine ⟨ra, by rw [g1]; exact ⟨by omega, by omega⟩, fun c => h0 (by omega) _ hF, fun c => hk (by omega) s1 hF ⟨g1, g2, g5.1, g6, fun k hk => absurd hk (by simp), fun j hj => ?_⟩ g3⟩
  have : ∀ j ∈ ([59, 75, 76, 77, 78, 79, 80, 81, 87, 88, 89, 90, 91] : List Nat), j ∈ lgA ∧ mA.contains j = false := by decide
  rw [hF.2 j (this j hj).2]
  exact hag.2 j (this j hj).1
def fnN : List Nat := [6, 8, 9, 10, 11, 12, 13, 14, 15, 16, 17, 23, 33, 34, 35, 37, 38]
def fnA : List Nat := [13, 14, 15, 27, 28, 29, 30, 31, 32, 33, 34, 35, 40, 41, 42, 67, 68, 69, 70, 71, 72, 73, 74, 82, 83, 84, 85, 86, 92, 93]
theorem sim_finding {a x : Int} {s : SS} {K : Int → Int → SS → Prop} (ra : rng a) (rx : rng x) (hl : iLand s) (hb : iBook s) (hy : iKeys s) (hr : iRule s) (hE : iEar s) (hk : ∀ r s', rng r → dg s s' → frm fnN fnA s s' → iEar s' → K r r s') : Sp_LS_finding a x s (fun p s1 => Sp_Md_finding a x s1 (fun q s2 => K p q s2)) := by
  have b1 := hb.1
  have ear : ∀ {t : SS}, t.2 83 = s.2 83 → iEar t := fun h => by unfold iEar; rw [h]; exact hE
  have fin0 : ∀ v s', rng v → frm mN mA s s' → K v v s' := fun v s' rv hf => hk _ _ rv (fun u _ _ => by rw [hf.2 13 rfl]) (frm_mono hf (by decide) (by decide)) (ear (hf.2 83 rfl))
  refine LS_upTo_ok rx b1.2 (fun e he => ?_)
  rcases he with ⟨e1, nt⟩ | he
  · refine isB_b (LS_isNameBy_B ra ⟨by omega, by omega⟩ hb) (fun _ => ?_) (fun q => absurd q (noBy hb e1))
    exact Md_isThere_no hb ra rx nt (b0' (fin0 _ _ (by decide) (frm_rf _ _ _)))
  · have he' : okE s x e := he
    refine isB_b (LS_isNameBy_B ra ⟨by have := he.1; omega, by have := he.2.1; omega⟩ hb) (fun c => ?_) (fun ca => ?_)
    · refine Md_there2 hb hb hy ⟨fun _ _ => rfl, fun _ _ => rfl⟩ ra rx he' (fun _ s' hf => b0' (fin0 _ _ (by decide) hf)) (fun q => absurd ((nm_iff hb he.1 he.2.1).mpr q) c)
    · have ca := (nm_iff hb he.1 he.2.1).mp ca
      have hrl := rl_lt hb he.1 he.2.1
      have b4 := hb.2.2.2.1
      refine Ru_latestBy_ok hb he.1 he.2.1 ⟨⟨by omega, by omega⟩, fun c => ?_, fun c => ?_⟩
      · refine LS_digitOf_ok hl hb hy hr c hrl.2 he.1 he.2.1 ⟨by have := he.1; omega, by have := he.2.1; omega⟩ ca (fun v t hv hft hdg hDV => ?_)
        refine Md_there2 hb (iBook_agr (agr_of hft (by decide)) hb) (iKeys_agr (agr_of hft (by decide)) hy) (agr_of hft (by decide)) ra rx he' (fun q => absurd ca q) (fun _ s1 hf1 hm h35 => b1' ⟨by rw [h35]; exact ⟨by omega, by omega⟩, fun _ => ⟨by have := bkN_cnt hb.2.2.2.2.2.1 he.1 he.2.1; unfold nmBy at ca; have := hb.2.1; omega, ?_⟩, fun q => by omega⟩)
        rw [h35]
        refine hDV s1 _ hm (by unfold iEar; rw [hf1.2 83 rfl, hft.2 83 rfl]; exact hE) (fun s2 hf2 hE2 => hk v s2 ⟨by omega, by omega⟩ (dg_tr hdg (fun u _ _ => by rw [hf2.2 13 rfl, hf1.2 13 rfl])) (frm_tr (frm_mono hft (by decide) (by decide)) (frm_tr (frm_mono hf1 (by decide) (by decide)) (frm_mono hf2 (by decide) (by decide)))) hE2)
      · refine Md_there2 hb hb hy ⟨fun _ _ => rfl, fun _ _ => rfl⟩ ra rx he' (fun q => absurd ca q) (fun _ s1 hf1 hm h35 => b1' ⟨by rw [h35]; exact ⟨by omega, by omega⟩, fun q => by omega, fun _ => fin0 _ _ (by decide) hf1⟩)
/-- the findings -/
def iFind (s : SS) : Prop := s.1 0 = s.1 44 ∧ (0 ≤ s.1 0 ∧ s.1 0 ≤ 30) ∧ ∀ f, 0 ≤ f → f < s.1 0 → (0 ≤ s.2 1 f ∧ s.2 1 f ≤ s.1 29) ∧ (0 ≤ s.2 0 f ∧ s.2 0 f < nmBy s (s.2 1 f)) ∧ (s.2 2 f = rlBy s (s.2 1 f) ∧ 0 ≤ s.2 2 f) ∧ (0 ≤ s.2 3 f ∧ s.2 3 f ≤ 9) ∧ s.2 94 f = s.2 0 f ∧ s.2 95 f = s.2 1 f ∧ s.2 96 f = s.2 3 f
theorem iFind_g {s t : SS} (h : agr [0, 44] [0, 1, 2, 3, 94, 95, 96] s t) (g : grw s t) (q : iFind s) : iFind t := by
  unfold iFind at q ⊢
  rw [h.1 0 (by decide), h.1 44 (by decide), h.2 0 (by decide), h.2 1 (by decide), h.2 2 (by decide), h.2 3 (by decide), h.2 94 (by decide), h.2 95 (by decide), h.2 96 (by decide)]
  obtain ⟨q1, q2, q3⟩ := q
  refine ⟨q1, q2, fun f f0 f1 => ?_⟩
  obtain ⟨w1, w2, w3, w4⟩ := q3 f f0 f1
  obtain ⟨g1, g2⟩ := g
  have en : nmBy t (s.2 1 f) = nmBy s (s.2 1 f) := cntE_c _ (fun x x0 x1 => g2 x x0 (by omega))
  have er : rlBy t (s.2 1 f) = rlBy s (s.2 1 f) := by
    unfold rlBy
    rw [cntE_c (f := t.2 60) (g := s.2 60) _ (fun x x0 x1 => g2 x x0 (by omega))]
  rw [en, er]
  exact ⟨by omega, w2, w3, w4⟩
def ffN : List Nat := [0, 6, 8, 9, 10, 11, 12, 13, 14, 15, 16, 17, 23, 33, 34, 35, 37, 38, 44]
def ffA : List Nat := [0, 1, 2, 3, 13, 14, 15, 27, 28, 29, 30, 31, 32, 33, 34, 35, 40, 41, 42, 67, 68, 69, 70, 71, 72, 73, 74, 82, 83, 84, 85, 86, 92, 93, 94, 95, 96]
theorem sim_find {a : Int} {s : SS} {K : Int → Int → SS → Prop} (ra : rng a) (hl : iLand s) (hb : iBook s) (hy : iKeys s) (hr : iRule s) (hE : iEar s) (hF : iFind s) (hk : ∀ r s', rng r → dg s s' → frm ffN ffA s s' → iEar s' → iFind s' → K r r s') : Sp_LS_find a s (fun p s1 => Sp_Md_find a s1 (fun q s2 => K p q s2)) := by
  have b1 := hb.1
  obtain ⟨F1, F2, F3⟩ := id hF
  have ear : ∀ {t : SS}, t.2 83 = s.2 83 → iEar t := fun h => by unfold iEar; rw [h]; exact hE
  have fin0 : ∀ v s', rng v → frm mN mA s s' → K v v s' := fun v s' rv hf => hk _ _ rv (fun u _ _ => by rw [hf.2 13 rfl]) (frm_mono hf (by decide) (by decide)) (ear (hf.2 83 rfl)) (iFind_g (agr_of hf (by decide)) (grw_f (hf.1 29 rfl) (hf.2 60 rfl)) hF)
  have he : okE s (-1) (s.1 1) := ⟨by omega, by omega, by omega, by omega, fun q => by omega, fun _ => rfl⟩
  have e0 : 0 ≤ s.1 1 := by omega
  have e1 : s.1 1 ≤ s.1 1 := by omega
  have hrl := rl_lt hb e0 e1
  have b4 := hb.2.2.2.1
  have b2 := hb.2.1
  have nmi : (0 ≤ a ∧ a < s.1 4) ↔ (0 ≤ a ∧ a < nmBy s (s.1 1)) := by
    have : nmBy s (s.1 1) = s.1 4 := hb.2.2.2.2.2.1.1
    rw [this]
  refine isB_b (LS_isName_B ra hb) (fun c => ?_) (fun ca => ?_)
  · exact Md_there2 hb hb hy ⟨fun _ _ => rfl, fun _ _ => rfl⟩ ra (by decide) he (fun _ s' hf => b0' (fin0 _ _ (by decide) hf)) (fun q => absurd (nmi.mpr q) c)
  · have ca' := nmi.mp ca
    refine Ru_latestBy_ok hb e0 e1 ⟨⟨by omega, by omega⟩, fun c => ⟨⟨by omega, by omega⟩, fun d => ?_, fun d => ?_⟩, fun c => ?_⟩
    · -- it is found
      have ix : 0 ≤ s.1 0 ∧ s.1 0 < 30 := ⟨F2.1, d⟩
      refine ⟨ix, fun s5 h5 => ?_⟩
      have p5 : s5.1 = s.1 := by rw [h5]; rfl
      rw [p5]
      refine ⟨ix, fun s6 h6 => ?_⟩
      have p6 : s6.1 = s.1 := by rw [h6]; exact p5
      rw [p6]
      refine ⟨ix, fun s7 h7 => ?_⟩
      have p7 : s7.1 = s.1 := by rw [h7]; exact p6
      have f7 : frm [] [0, 1, 2] s s7 := by rw [h7, h6, h5]; exact frm_tr (frm_tr (frm_A _ _ _ (by decide)) (frm_A _ _ _ (by decide))) (frm_A _ _ _ (by decide))
      have w0 : s7.2 0 = updF (s.2 0) (s.1 0) a := by rw [h7, sA_n _ _ _ (by decide), h6, sA_n _ _ _ (by decide), h5, sA_u]
      have w1 : s7.2 1 = updF (s.2 1) (s.1 0) (s.1 1) := by rw [h7, sA_n _ _ _ (by decide), h6, sA_u, h5, sA_n _ _ _ (by decide)]
      have w2 : s7.2 2 = updF (s.2 2) (s.1 0) (rlBy s (s.1 1)) := by rw [h7, sA_u, h6, sA_n _ _ _ (by decide), h5, sA_n _ _ _ (by decide)]
      have hb7 := iBook_agr (agr_of f7 (by decide)) hb
      have hy7 := iKeys_agr (agr_of f7 (by decide)) hy
      have nm7 : nmBy s7 (s.1 1) = nmBy s (s.1 1) := by unfold nmBy; rw [f7.2 60 rfl]
      have rl7 : rlBy s7 (s.1 1) = rlBy s (s.1 1) := by unfold rlBy; rw [f7.2 60 rfl]
      rw [p7]
      refine LS_digitOf_ok (s := s7) (iLand_agr (agr_of f7 (by decide)) hl) hb7 hy7 (iRule_agr (agr_of f7 (by decide)) hr) c (by rw [p7]; exact hrl.2) e0 (by rw [p7]; exact e1) ⟨by omega, by omega⟩ (by rw [nm7]; exact ca') (fun v t hv hft hdg hDV => ⟨ix, fun s10 h10 s11 h11 => ?_⟩)
      have p10 : s10.1 0 = s.1 0 := by rw [h10, sA_1, hft.1 0 rfl, p7]
      rw [show s11.1 0 - 1 = s.1 0 by rw [h11, sF_s, p10]; omega]
      have g0 : s11.1 0 = s.1 0 + 1 := by rw [h11, sF_s, p10]
      have f11 : frm [0, 6, 8, 9, 10, 11, 12, 13, 14, 15, 16, 17, 23] [3, 13, 14, 15, 27, 28, 29, 30, 31, 32, 33, 34, 35, 40, 41, 42] s7 s11 := by
        rw [h11, h10]; exact frm_tr (frm_mono hft (by decide) (by decide)) (frm_tr (frm_A _ _ _ (by decide)) (frm_F _ _ (by decide)))
      have g3 : s11.2 3 = updF (s.2 3) (s.1 0) v := by rw [h11, sF_2, h10, sA_u, hft.2 3 rfl, f7.2 3 rfl]
      refine Md_there2 (s := s7) (e := s.1 1) hb7 (iBook_agr (agr_of f11 (by decide)) hb7) (iKeys_agr (agr_of f11 (by decide)) hy7) (agr_of f11 (by decide)) ra (by decide) (by unfold okE; rw [p7]; exact he) (fun q => absurd (by rw [nm7]; exact ca') q) (fun _ s1 hf1 hm h35 => b1' ?_)
      rw [rl7] at h35
      have k44 : s1.1 44 = s.1 44 := by rw [hf1.1 44 rfl, f11.1 44 rfl, p7]
      rw [h35, k44]
      refine ⟨⟨by omega, by omega⟩, fun _ => ⟨⟨by omega, by omega⟩, fun _ => ⟨by omega, fun s3 h3 => ?_⟩, fun q => by omega⟩, fun q => by omega⟩
      have q3 : s3.1 = s1.1 := by rw [h3]; rfl
      rw [q3, k44]
      refine ⟨by omega, fun s4 h4 => ⟨by omega, ?_⟩⟩
      have q4 : s4.1 = s1.1 := by rw [h4]; exact q3
      have f4 : frm [] [94, 95] s1 s4 := by rw [h4, h3]; exact frm_tr (frm_A _ _ _ (by decide)) (frm_A _ _ _ (by decide))
      have k29 : s1.1 29 = s.1 29 := by rw [hf1.1 29 rfl, f11.1 29 rfl, p7]
      have x94 : s4.2 94 = updF (s.2 94) (s.1 44) a := by rw [h4, sA_n _ _ _ (by decide), h3, sA_u, hf1.2 94 rfl, f11.2 94 rfl, f7.2 94 rfl]
      have x95 : s4.2 95 = updF (s.2 95) (s.1 44) (s.1 29) := by rw [h4, sA_u, h3, sA_n _ _ _ (by decide), hf1.2 95 rfl, f11.2 95 rfl, f7.2 95 rfl, k29]
      have hm4 : mlk s7 (s.1 1) (s.1 1) s4 := by
        obtain ⟨m1, m2, m3, m4, m5⟩ := hm
        refine ⟨by rw [q4]; exact m1, by rw [q4]; exact m2, by rw [f4.2 72 rfl]; exact m3, by rw [f4.2 70 rfl]; exact m4, fun k hk => absurd hk (by simp), fun j hj => ?_⟩
        have : ∀ j ∈ ([59, 75, 76, 77, 78, 79, 80, 81, 87, 88, 89, 90, 91] : List Nat), ([94, 95] : List Nat).contains j = false := by decide
        rw [f4.2 j (this j hj)]
        exact m5.2 j hj
      rw [show s4.1 35 = rlBy s (s.1 1) by rw [q4, h35], show s4.1 44 = s.1 44 by rw [q4, k44]]
      refine hDV s4 _ hm4 (by unfold iEar; rw [f4.2 83 rfl, hf1.2 83 rfl, f11.2 83 rfl, f7.2 83 rfl]; exact hE) (fun s5' hf5 hE5 => ⟨by omega, fun s7' h7' s8 h8 => ?_⟩)
      have y44 : s7'.1 44 = s.1 44 := by rw [h7', sA_1, hf5.1 44 rfl, q4, k44]
      have y44' : s8.1 44 = s.1 44 + 1 := by rw [h8, sF_s, y44]
      rw [show s8.1 44 - 1 = s.1 0 by omega]
      have f8 : frm [37, 38, 44] [82, 83, 84, 85, 86, 92, 93, 96] s4 s8 := by rw [h8, h7']; exact frm_tr (frm_mono hf5 (by decide) (by decide)) (frm_tr (frm_A _ _ _ (by decide)) (frm_F _ _ (by decide)))
      have x96 : s8.2 96 = updF (s.2 96) (s.1 44) v := by rw [h8, sF_2, h7', sA_u, hf5.2 96 rfl, f4.2 96 rfl, hf1.2 96 rfl, f11.2 96 rfl, f7.2 96 rfl]
      have z0 : s8.2 0 = updF (s.2 0) (s.1 0) a := by rw [f8.2 0 rfl, f4.2 0 rfl, hf1.2 0 rfl, f11.2 0 rfl, w0]
      have z1 : s8.2 1 = updF (s.2 1) (s.1 0) (s.1 1) := by rw [f8.2 1 rfl, f4.2 1 rfl, hf1.2 1 rfl, f11.2 1 rfl, w1]
      have z2 : s8.2 2 = updF (s.2 2) (s.1 0) (rlBy s (s.1 1)) := by rw [f8.2 2 rfl, f4.2 2 rfl, hf1.2 2 rfl, f11.2 2 rfl, w2]
      have z3 : s8.2 3 = updF (s.2 3) (s.1 0) v := by rw [f8.2 3 rfl, f4.2 3 rfl, hf1.2 3 rfl, g3]
      have z94 : s8.2 94 = updF (s.2 94) (s.1 44) a := by rw [f8.2 94 rfl, x94]
      have z95 : s8.2 95 = updF (s.2 95) (s.1 44) (s.1 29) := by rw [f8.2 95 rfl, x95]
      have z60 : s8.2 60 = s.2 60 := by rw [f8.2 60 rfl, f4.2 60 rfl, hf1.2 60 rfl, f11.2 60 rfl, f7.2 60 rfl]
      have y0 : s8.1 0 = s.1 0 + 1 := by rw [f8.1 0 rfl, q4, hf1.1 0 rfl, g0]
      have y29 : s8.1 29 = s.1 29 := by rw [f8.1 29 rfl, q4, k29]
      have nm8 : ∀ e, nmBy s8 e = nmBy s e := fun e => by unfold nmBy; rw [z60]
      have rl8 : ∀ e, rlBy s8 e = rlBy s e := fun e => by unfold rlBy; rw [z60]
      refine hk (s.1 0) s8 ⟨by omega, by omega⟩ ?_ ?_ (by unfold iEar; rw [h8, sF_2, h7', sA_n _ _ _ (by decide)]; exact hE5) ⟨by omega, by omega, fun f f0 f1 => ?_⟩
      · refine dg_tr (dg_tr (fun u _ _ => by rw [f7.2 13 rfl]) hdg) (fun u _ _ => ?_)
        rw [f8.2 13 rfl, f4.2 13 rfl, hf1.2 13 rfl, h11, sF_2, h10, sA_n _ _ _ (by decide)]
      · exact frm_tr (frm_mono f7 (by decide) (by decide)) (frm_tr (frm_mono f11 (by decide) (by decide)) (frm_tr (frm_mono hf1 (by decide) (by decide)) (frm_tr (frm_mono f4 (by decide) (by decide)) (frm_mono f8 (by decide) (by decide)))))
      · rw [z0, z1, z2, z3, z94, z95, x96, y29]
        by_cases e : f = s.1 0
        · rw [e, ← F1, updF_s, updF_s, updF_s, updF_s, updF_s, updF_s, updF_s, nm8, rl8]
          exact ⟨by omega, ca', ⟨rfl, c⟩, hv, rfl, b1.1.symm, rfl⟩
        · rw [← F1, updF_n _ _ e, updF_n _ _ e, updF_n _ _ e, updF_n _ _ e, updF_n _ _ e, updF_n _ _ e, updF_n _ _ e, nm8, rl8]
          exact F3 f f0 (by omega)
    · -- no room
      refine Md_there2 hb hb hy ⟨fun _ _ => rfl, fun _ _ => rfl⟩ ra (by decide) he (fun q => absurd ca' q) (fun _ s1 hf1 hm h35 => b1' ?_)
      have k44 : s1.1 44 = s.1 44 := hf1.1 44 rfl
      rw [h35, k44]
      exact ⟨⟨by omega, by omega⟩, fun _ => ⟨⟨by omega, by omega⟩, fun q => by omega, fun _ => fin0 _ _ (by decide) hf1⟩, fun q => by omega⟩
    · refine Md_there2 hb hb hy ⟨fun _ _ => rfl, fun _ _ => rfl⟩ ra (by decide) he (fun q => absurd ca' q) (fun _ s1 hf1 hm h35 => b1' ⟨by rw [h35]; exact ⟨by omega, by omega⟩, fun q => by omega, fun _ => fin0 _ _ (by decide) hf1⟩)
end
