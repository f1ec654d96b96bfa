section
/-! could -/
theorem p2_10 {p : Int} (p0 : 0 ≤ p) (p1 : p < 10) : 0 ≤ p2 p ∧ p2 p ≤ 1023 := by
  have h := p2_9 p0 (show p ≤ 9 by omega)
  have := p2_pos p
  omega
theorem He_agreesWith_ok {m pl wa : Int} {s : SS} {Q : Int → SS → Prop} (h9 : s.1 9 = m) (m0 : 0 ≤ m ∧ m ≤ 40) (hp : 0 ≤ pl ∧ pl < 10) (hw : 0 ≤ wa ∧ wa ≤ 999) (hr : ∀ j, 0 ≤ j → j < m → 0 ≤ s.2 35 j ∧ s.2 35 j < 40) (hD : dOk (s.2 4)) (hi : ∀ j, 0 ≤ j → j < m → (0 ≤ s.2 20 (s.2 35 j) ∧ s.2 20 (s.2 35 j) ≤ 1023) ∧ (0 ≤ s.2 21 (s.2 35 j) ∧ s.2 21 (s.2 35 j) ≤ 999) ∧ (0 ≤ s.2 22 (s.2 35 j) ∧ s.2 22 (s.2 35 j) ≤ 999)) (hk : ∀ r s', frm [8, 17] [28, 29, 30, 31, 32] s s' → wkd (min 8 m + 1) (s.2 4) s' → (∀ k, 0 ≤ k → k < min 8 m → s'.2 28 k = s.2 20 (s.2 35 k) ∧ s'.2 29 k = s.2 21 (s.2 35 k) ∧ s'.2 30 k = s.2 22 (s.2 35 k)) → (s'.2 28 (min 8 m) = p2 pl ∧ s'.2 29 (min 8 m) = wa ∧ s'.2 30 (min 8 m) = wa) → (r = 0 ∨ r = 1) → (r = 1 ↔ wk s' (p2 (min 8 m + 1) - 1)) → Q r s') : Sp_He_agreesWith pl wa s Q := by
  have pp := p2_pos (min 8 m + 1)
  have p10 := p2_10 hp.1 hp.2
  refine He_loadWalk_ok h9 m0 hr (fun s1 hf1 h8 hs => ?_)
  unfold Sp_Wa_add
  rw [p2_shl hp.1 (by omega), h8]
  refine ⟨by omega, fun a1 ha1 => ?_⟩
  have b8 : a1.1 8 = min 8 m := by rw [ha1, sA_1, h8]
  rw [b8]
  refine ⟨by omega, fun a2 ha2 => ?_⟩
  have c8 : a2.1 8 = min 8 m := by rw [ha2, sA_1, b8]
  rw [c8]
  refine ⟨by omega, fun a3 ha3 => ?_⟩
  have d8 : a3.1 8 = min 8 m := by rw [ha3, sA_1, c8]
  rw [d8]
  intro a4 ha4
  have f8 : a4.1 8 = min 8 m + 1 := by rw [ha4, sF_s]
  have v28 : a4.2 28 = updF (s1.2 28) (min 8 m) (p2 pl) := by rw [ha4, sF_2, ha3, sA_n _ _ _ (by decide), ha2, sA_n _ _ _ (by decide), ha1, sA_u]
  have v29 : a4.2 29 = updF (s1.2 29) (min 8 m) wa := by rw [ha4, sF_2, ha3, sA_n _ _ _ (by decide), ha2, sA_u, ha1, sA_n _ _ _ (by decide)]
  have v30 : a4.2 30 = updF (s1.2 30) (min 8 m) wa := by rw [ha4, sF_2, ha3, sA_u, ha2, sA_n _ _ _ (by decide), ha1, sA_n _ _ _ (by decide)]
  have ff1 : frm [8, 17] [28, 29, 30, 31, 32] s a4 := by
    rw [ha4, ha3, ha2, ha1]
    exact frm_tr (frm_mono hf1 (by decide) (by decide)) (frm_tr (frm_tr (frm_tr (frm_A _ _ _ (by decide)) (frm_A _ _ _ (by decide))) (frm_A _ _ _ (by decide))) (frm_F _ _ (by decide)))
  have hs4 : ∀ k, 0 ≤ k → k < min 8 m → a4.2 28 k = s.2 20 (s.2 35 k) ∧ a4.2 29 k = s.2 21 (s.2 35 k) ∧ a4.2 30 k = s.2 22 (s.2 35 k) := fun k k0 k1 => by
    rw [v28, v29, v30, updF_n _ _ (by omega), updF_n _ _ (by omega), updF_n _ _ (by omega)]
    exact hs k k0 k1
  have hs5 : a4.2 28 (min 8 m) = p2 pl ∧ a4.2 29 (min 8 m) = wa ∧ a4.2 30 (min 8 m) = wa := by rw [v28, v29, v30, updF_s, updF_s, updF_s]; exact ⟨rfl, rfl, rfl⟩
  have hI : itm (min 8 m + 1) (a4.2 28) (a4.2 29) (a4.2 30) := fun k k0 k1 => by
    by_cases e : k = min 8 m
    · rw [e, hs5.1, hs5.2.1, hs5.2.2]
      exact ⟨by omega, by omega, by omega⟩
    · obtain ⟨a, b, c⟩ := hs4 k k0 (by omega)
      rw [a, b, c]
      exact hi k k0 (by omega)
  refine Wa_go_ok f8 (by omega) (by omega) hI (by rw [ff1.2 4 rfl]; exact hD) (fun s2 hf2 hF => ?_)
  have e28 : s2.2 28 = a4.2 28 := hf2.2 28 rfl
  have e29 : s2.2 29 = a4.2 29 := hf2.2 29 rfl
  have e30 : s2.2 30 = a4.2 30 := hf2.2 30 rfl
  have e8 : s2.1 8 = min 8 m + 1 := by rw [hf2.1 8 rfl, f8]
  rw [ff1.2 4 rfl] at hF
  have hw2 : wkd (min 8 m + 1) (s.2 4) s2 := ⟨e8, by rw [e28, e29, e30]; exact hI, by rw [e28, e29, e30]; exact hF⟩
  have ff : frm [8, 17] [28, 29, 30, 31, 32] s s2 := frm_tr ff1 (frm_mono hf2 (by decide) (by decide))
  refine all_ok e8 (by omega) (by omega) (wk_B (by omega) (by omega) hw2 (by omega) (by omega) _ (fun c => ⟨Or.inr rfl, ?_⟩) (fun c => ⟨Or.inl rfl, ?_⟩))
  · exact hk 1 s2 ff hw2 (by rw [e28, e29, e30]; exact hs4) (by rw [e28, e29, e30]; exact hs5) (Or.inr rfl) ⟨fun _ => c, fun _ => rfl⟩
  · exact hk 0 s2 ff hw2 (by rw [e28, e29, e30]; exact hs4) (by rw [e28, e29, e30]; exact hs5) (Or.inl rfl) ⟨fun z => absurd z (by decide), fun z => absurd z c⟩
theorem Md_with_ok {m pl wa : Int} {s : SS} {Q : SS → Prop} (h37 : s.1 37 = m) (m0 : 0 ≤ m ∧ m ≤ 40) (hp : 0 ≤ pl ∧ pl < 10) (hw : 0 ≤ wa ∧ wa ≤ 999) (hr : ∀ j, 0 ≤ j → j < m → 0 ≤ s.2 82 j ∧ s.2 82 j < 40) (hD : dM (s.2 59)) (hE : iEar s) (hi : ∀ j, 0 ≤ j → j < m → (0 ≤ s.2 77 (s.2 82 j) ∧ s.2 77 (s.2 82 j) ≤ 1023) ∧ (0 ≤ s.2 78 (s.2 82 j) ∧ s.2 78 (s.2 82 j) ≤ 999) ∧ (0 ≤ s.2 79 (s.2 82 j) ∧ s.2 79 (s.2 82 j) ≤ 999)) (hk : ∀ s', frm [38] [83, 84, 85, 86] s s' → mkd (min 8 m + 1) (s.2 59) s' → (∀ k, 0 ≤ k → k < min 8 m → s'.2 84 k = s.2 77 (s.2 82 k) ∧ s'.2 85 k = s.2 78 (s.2 82 k) ∧ s'.2 86 k = s.2 79 (s.2 82 k)) → (s'.2 84 (min 8 m) = p2 pl ∧ s'.2 85 (min 8 m) = wa ∧ s'.2 86 (min 8 m) = wa) → Q s') : Sp_Md_takesRoots s (fun s8 => (0 ≤ (s8.1 38) ∧ (s8.1 38) < 9) ∧ ∀ s9, s9 = sA s8 84 (s8.1 38) (shl 1 pl) → (0 ≤ (s9.1 38) ∧ (s9.1 38) < 9) ∧ ∀ s10, s10 = sA s9 85 (s9.1 38) wa → (0 ≤ (s10.1 38) ∧ (s10.1 38) < 9) ∧ ∀ s11, s11 = sA s10 86 (s10.1 38) wa → ∀ s12, s12 = sF s11 38 ((s11.1 38) + 1) → Sp_Md_fillEarliest s12 Q) := by
  have p10 := p2_10 hp.1 hp.2
  refine Md_takesRoots_ok h37 m0 hr (fun s1 hf1 h38 hs => ?_)
  rw [p2_shl hp.1 (by omega), h38]
  refine ⟨by omega, fun a1 ha1 => ?_⟩
  have b8 : a1.1 38 = min 8 m := by rw [ha1, sA_1, h38]
  rw [b8]
  refine ⟨by omega, fun a2 ha2 => ?_⟩
  have c8 : a2.1 38 = min 8 m := by rw [ha2, sA_1, b8]
  rw [c8]
  refine ⟨by omega, fun a3 ha3 => ?_⟩
  have d8 : a3.1 38 = min 8 m := by rw [ha3, sA_1, c8]
  rw [d8]
  intro a4 ha4
  have f8 : a4.1 38 = min 8 m + 1 := by rw [ha4, sF_s]
  have v84 : a4.2 84 = updF (s1.2 84) (min 8 m) (p2 pl) := by rw [ha4, sF_2, ha3, sA_n _ _ _ (by decide), ha2, sA_n _ _ _ (by decide), ha1, sA_u]
  have v85 : a4.2 85 = updF (s1.2 85) (min 8 m) wa := by rw [ha4, sF_2, ha3, sA_n _ _ _ (by decide), ha2, sA_u, ha1, sA_n _ _ _ (by decide)]
  have v86 : a4.2 86 = updF (s1.2 86) (min 8 m) wa := by rw [ha4, sF_2, ha3, sA_u, ha2, sA_n _ _ _ (by decide), ha1, sA_n _ _ _ (by decide)]
  have ff1 : frm [38] [83, 84, 85, 86] s a4 := by
    rw [ha4, ha3, ha2, ha1]
    exact frm_tr (frm_mono hf1 (by decide) (by decide)) (frm_tr (frm_tr (frm_tr (frm_A _ _ _ (by decide)) (frm_A _ _ _ (by decide))) (frm_A _ _ _ (by decide))) (frm_F _ _ (by decide)))
  have e83 : a4.2 83 = s.2 83 := by rw [ha4, sF_2, ha3, sA_n _ _ _ (by decide), ha2, sA_n _ _ _ (by decide), ha1, sA_n _ _ _ (by decide), hf1.2 83 rfl]
  have hs4 : ∀ k, 0 ≤ k → k < min 8 m → a4.2 84 k = s.2 77 (s.2 82 k) ∧ a4.2 85 k = s.2 78 (s.2 82 k) ∧ a4.2 86 k = s.2 79 (s.2 82 k) := fun k k0 k1 => by
    rw [v84, v85, v86, updF_n _ _ (by omega), updF_n _ _ (by omega), updF_n _ _ (by omega)]
    exact hs k k0 k1
  have hs5 : a4.2 84 (min 8 m) = p2 pl ∧ a4.2 85 (min 8 m) = wa ∧ a4.2 86 (min 8 m) = wa := by rw [v84, v85, v86, updF_s, updF_s, updF_s]; exact ⟨rfl, rfl, rfl⟩
  have hI : itm (min 8 m + 1) (a4.2 84) (a4.2 85) (a4.2 86) := fun k k0 k1 => by
    by_cases e : k = min 8 m
    · rw [e, hs5.1, hs5.2.1, hs5.2.2]
      exact ⟨by omega, by omega, by omega⟩
    · obtain ⟨a, b, c⟩ := hs4 k k0 (by omega)
      rw [a, b, c]
      exact hi k k0 (by omega)
  refine Md_fillEarliest_ok f8 (by omega) (by omega) hI (by rw [ff1.2 59 rfl]; exact hD) (fun i => by rw [e83]; exact hE i) (fun s2 hf2 hg hF => ?_)
  have e84 : s2.2 84 = a4.2 84 := hf2.2 84 rfl
  have e85 : s2.2 85 = a4.2 85 := hf2.2 85 rfl
  have e86 : s2.2 86 = a4.2 86 := hf2.2 86 rfl
  have e38 : s2.1 38 = min 8 m + 1 := by rw [hf2.1 38 rfl, f8]
  rw [ff1.2 59 rfl] at hF
  exact hk s2 (frm_tr ff1 (frm_mono hf2 (by decide) (by decide))) ⟨e38, by rw [e84, e85, e86]; exact hF, hg⟩ (by rw [e84, e85, e86]; exact hs4) (by rw [e84, e85, e86]; exact hs5)
theorem sim_could {a x pl wa : Int} {s : SS} {K : Int → Int → SS → Prop} (ra : rng a) (rx : rng x) (rp : rng pl) (rw_ : rng wa) (hl : iLand s) (hb : iBook s) (hy : iKeys s) (hE : iEar s) (hk : ∀ r s', rng r → dg s s' → frm cN cA s s' → iEar s' → K r r s') : Sp_LS_could a x pl wa s (fun p s1 => Sp_Md_could a x pl wa s1 (fun q s2 => K p q s2)) := by
  have bq1 := hb.1
  have b3 := hb.2.2.1
  have b14 := hb.2.2.2.2.2.2.2.2.2.2.2.2.2
  have fin0 : ∀ v s', rng v → frm mN mA s s' → K v v s' := fun v s' rv hf => hk _ _ rv (fun u _ _ => by rw [hf.2 13 rfl]) (frm_mono hf (by decide) (by decide)) (by unfold iEar; rw [hf.2 83 rfl]; exact hE)
  refine LS_upTo_ok rx bq1.2 (fun e he => ?_)
  rcases he with ⟨e1, nt⟩ | he
  · refine isB_a (LS_isNameBy_B ra ⟨by omega, by omega⟩ hb) (fun _ => ?_) (fun q => absurd q (noBy hb e1))
    exact Md_isThere_no hb ra rx nt (b0 (fin0 _ _ (by decide) (frm_rf _ _ _)))
  · refine isB_a (LS_isNameBy_B ra ⟨by have := he.1; omega, by have := he.2.1; omega⟩ hb) (fun c => ?_) (fun ca => ?_)
    · exact Md_there_ok hb hy ra rx he (fun _ s' hf => b0 (fin0 _ s' (by decide) hf)) (fun q => absurd ((nm_iff hb he.1 he.2.1).mpr q) c)
    · have ca := (nm_iff hb he.1 he.2.1).mp ca
      refine isB_b (La_isPlace_B rp s) (fun c => ?_) (fun cp => ?_)
      · exact Md_there_ok hb hy ra rx he (fun q => absurd ca q) (fun _ s1 hl1 => b1 (isB_b (Md_isPlace_B rp s1) (fun _ => fin0 _ _ (by decide) hl1.1) (fun q => absurd q c)))
      · have isW : isB (0 ≤ wa ∧ wa ≤ 999) s (Sp_LS_isWatch wa s) := by
          intro K2 h1 h0
          exact ⟨rw_, fun c => h0 (by omega), fun c => ⟨rw_, fun d => h0 (by omega), fun d => h1 (by omega)⟩⟩
        refine isB_b isW (fun c => ?_) (fun cw => ?_)
        · exact Md_there_ok hb hy ra rx he (fun q => absurd ca q) (fun _ s1 hl1 => b1 (isB_b (Md_isPlace_B rp s1) (fun q => absurd cp q) (fun _ => ⟨rw_, isB_b (Md_isIn_B rw_ (by decide) (by decide) s1) (fun _ => fin0 _ _ (by decide) hl1.1) (fun q => absurd q c)⟩)))
        · refine He_open_ok hb hy he.1 he.2.1 ⟨by have := he.1; omega, by have := he.2.1; omega⟩ ca (fun P t ht => ?_)
          obtain ⟨tb, ty, te, tn, tL, tq, t24, t7⟩ := hrd_t ht hb hy
          obtain ⟨m0, hm⟩ := hrd_roots hb ht
          obtain ⟨d1, d2, d3⟩ := iLand_d (t := t) hl (ht.1.2 4 rfl) (ht.1.2 59 rfl)
          refine He_agreesWith_ok (m := t.1 9) rfl m0 cp cw (fun j j0 j1 => (hm j j0 j1).1) d1 (fun j j0 j1 => (hm j j0 j1).2) (fun v u hu hw hs hs5 hv hwk => LS_bit_ok hv ?_)
          obtain ⟨w1, w2, w3, w4, w5, w6, w7, w8⟩ := frm_w (e := e) (show frm wN wA t u from hu)
          have uo := w3 x (te x he)
          refine Md_there_ok (w1 tb) (w2 ty) ra rx uo (fun q => absurd (by rw [w4, tn]; exact ca) q) (fun cq s1 hl1 => b1 (isB_b (Md_isPlace_B rp s1) (fun q => absurd cp q) (fun _ => ⟨rw_, isB_b (Md_isIn_B rw_ (by decide) (by decide) s1) (fun q => absurd cw q) (fun _ => ?_)⟩)))
          obtain ⟨lf, l34, -, lP, l70⟩ := hl1
          have bu := w1 tb
          refine ⟨by have := (bkN_cnt bu.2.2.2.2.2.1 uo.1 uo.2.1); have hc : 0 ≤ nmBy u e ∧ nmBy u e ≤ u.1 4 := this; have := bu.2.1; omega, ?_⟩
          refine Md_roots_g bu uo.1 uo.2.1 l34 lP l70 (agr_of lf (by decide)) cq (fun t3 hf3 hE3 => ?_)
          rw [w4, w5] at lP
          rw [w6, w7, w8] at hE3
          obtain ⟨u1, u2, u3⟩ := roots_g hb hy he.1 he.2.1 ca ht lP hE3
          have e77 : t3.2 77 = t.2 20 := by rw [hf3.2 77 rfl, lf.2 77 rfl, hu.2 77 rfl, ht.1.2 77 rfl, ht.1.2 20 rfl, b14.2.2.1]
          have e78 : t3.2 78 = t.2 21 := by rw [hf3.2 78 rfl, lf.2 78 rfl, hu.2 78 rfl, ht.1.2 78 rfl, ht.1.2 21 rfl, b14.2.2.2.1]
          have e79 : t3.2 79 = t.2 22 := by rw [hf3.2 79 rfl, lf.2 79 rfl, hu.2 79 rfl, ht.1.2 79 rfl, ht.1.2 22 rfl, b14.2.2.2.2.1]
          have e59 : t3.2 59 = t.2 59 := by rw [hf3.2 59 rfl, lf.2 59 rfl, hu.2 59 rfl]
          have e83 : t3.2 83 = s.2 83 := by rw [hf3.2 83 rfl, lf.2 83 rfl, hu.2 83 rfl, ht.1.2 83 rfl]
          refine Md_with_ok (m := t.1 9) u1.1.symm m0 cp cw (fun j j0 j1 => by rw [← (u2 j j0 j1).1]; exact (hm j j0 j1).1) (by rw [e59]; exact d2) (by unfold iEar; rw [e83]; exact hE) (fun j j0 j1 => by rw [e77, e78, e79, ← (u2 j j0 j1).1]; exact (hm j j0 j1).2) (fun s' hf' hm' hs' hs5' => ?_)
          have pp := p2_pos (min 8 (t.1 9) + 1)
          have same := wk_cb (by omega) (by omega) hw hm' (fun k k0 k1 => by
            by_cases ek : k = min 8 (t.1 9)
            · rw [ek, hs5.1, hs5.2.1, hs5.2.2, hs5'.1, hs5'.2.1, hs5'.2.2]
              exact ⟨rfl, rfl, rfl⟩
            · obtain ⟨a1, a2, a3⟩ := hs k k0 (by omega)
              obtain ⟨c1, c2, c3⟩ := hs' k k0 (by omega)
              rw [a1, a2, a3, c1, c2, c3, e77, e78, e79, ← (u2 k k0 (by omega)).1]
              exact ⟨rfl, rfl, rfl⟩) d1 (by rw [e59]; exact d3) (x := p2 (min 8 (t.1 9) + 1) - 1) (by omega) (by omega)
          have fin := fun r (rr : rng r) => hk r s' rr (dg_tr (dg_tr ht.2.1 (fun i _ _ => by rw [hu.2 13 rfl])) (fun i _ _ => by rw [hf'.2 13 rfl, hf3.2 13 rfl, lf.2 13 rfl])) (frm_tr (frm_tr (frm_tr (frm_tr (frm_mono ht.1 (by decide) (by decide)) (frm_mono hu (by decide) (by decide))) (frm_mono lf (by decide) (by decide))) (frm_mono hf3 (by decide) (by decide))) (frm_mono hf' (by decide) (by decide))) hm'.2.2
          rw [hm'.1, p2_shl (by omega) (by omega)]
          refine isB_a (cb_B (by omega) (by omega) hm' (by omega) (by omega)) (fun z => ?_) (fun z => ?_)
          · have : v = 0 := by
              rcases hv with y | y
              · exact y
              · exact absurd (same.mp (hwk.mp y)) z
            rw [this]
            exact fin 0 (by decide)
          · have : v = 1 := hwk.mpr (same.mpr z)
            rw [this]
            exact fin 1 (by decide)
end
