section
/-! quarrel: both -/
theorem Md_quarrel_l {n i : Int} {D : Int → Int} {W : Int → Bool} {s : SS} {Q : Int → SS → Prop} {X42 : Int → Int → Int → SS → Prop} {X107 : Int → Int → Int → Int → SS → Prop} (h42 : ∀ (x3 x4 x5 : Int) (s : SS), B_Md_quarrel_42 Q X42 X107 x3 x4 x5 s → X42 x3 x4 x5 s) (h107 : ∀ (x3 x4 x5 x6 : Int) (s : SS), B_Md_quarrel_107 Q X42 X107 x3 x4 x5 x6 s → X107 x3 x4 x5 x6 s) (n0 : 0 ≤ n) (n1 : n ≤ 9) (ri : rng i) (i1 : -1 ≤ i) (hw : mkd n D s) (hW : ∀ x, 0 ≤ x → x < p2 n → (W x = true ↔ cb s n x)) (hm : i = -1 → Q (popN (lqF W (p2 n - 1).toNat).toNat : Int) s) (hr : i ≠ -1 → ∀ r, ibt n (lqF W (p2 n - 1).toNat) i r → Q (if 0 ≤ r then s.2 82 r else -1) s) : X42 i 0 1 s := by
  have p9 := p2_9 n0 n1
  have pp := p2_pos n
  have l107 : ∀ b : Int, 0 ≤ b → b < p2 n → (∀ r, ibt n b i r → Q (if 0 ≤ r then s.2 82 r else -1) s) → i ≠ -1 → ∀ (t k : Nat), (k : Int) ≤ n → n - k < t → (∀ p, 0 ≤ p → p < (k : Int) → bt b p → cntP (bB b) p.toNat ≠ i) → cntP (bB b) k ≤ i → X107 i b (i - cntP (bB b) k) k s := by
    intro b bb0 bb1 hq hi t
    induction t with
    | zero => intro k a b; omega
    | succ t ih =>
      intro k k1 ht hI hle
      have cb := cntP_b (bB b) k
      have nx := ih (k + 1)
      rw [cntP_s] at nx
      refine h107 _ _ _ _ _ ⟨⟨by omega, by omega⟩, by rw [hw.1]; exact ⟨by omega, by omega⟩, fun d => ?_, fun d => ⟨ri, fun c => by omega, fun c => ?_⟩⟩
      · rw [hw.1] at d
        have := hq (-1) (Or.inr ⟨rfl, fun p p0 p1 => hI p p0 (by omega)⟩)
        rw [if_neg (by decide)] at this
        exact this
      · rw [hw.1] at d
        have b01 := bt_01 (x := b) (k := k) bb0 (by omega) (by omega) (by omega)
        refine ⟨by omega, fun g => ⟨⟨by omega, by omega⟩, fun f => ?_, fun f => ⟨by omega, ?_⟩⟩, fun g => ?_⟩
        · have hb : bt b k := by unfold bt; omega
          rw [if_pos (by unfold bB; exact decide_eq_true hb)] at nx
          have := nx (by omega) (by omega) (fun p p0 p1 hp => ?_) (by omega)
          · rw [show i - cntP (bB b) k + -1 = i - (cntP (bB b) k + 1) by omega]
            exact this
          · by_cases e : p = k
            · rw [e, Int.toNat_natCast]; omega
            · exact hI p p0 (by omega) hp
        · have hb : bt b k := by unfold bt; omega
          have := hq k (Or.inl ⟨by omega, d, hb, by rw [Int.toNat_natCast]; omega⟩)
          rw [if_pos (by omega)] at this
          exact this
        · have hb : ¬ bt b k := by unfold bt; omega
          rw [if_neg (by unfold bB; rw [decide_eq_true_eq]; exact hb), Int.add_zero] at nx
          refine nx (by omega) (by omega) (fun p p0 p1 hp => ?_) hle
          by_cases e : p = k
          · rw [e] at hp; exact absurd hp hb
          · exact hI p p0 (by omega) hp
  have loop : ∀ (t k : Nat), (k : Int) ≤ p2 n - 1 → p2 n - k < t → X42 i (lqF W k) ((k : Int) + 1) s := by
    intro t
    induction t with
    | zero => intro k a b; omega
    | succ t ih =>
      intro k k1 ht
      have lb := lqF_b W k
      have pl1 := popN_le (n := k + 1) (by omega)
      have pl2 := popN_le (n := (lqF W k).toNat) (by omega)
      refine h42 _ _ _ _ ?_
      unfold B_Md_quarrel_42
      rw [hw.1, p2_shl n0 (by omega)]
      refine ⟨⟨by omega, by omega⟩, ⟨by omega, by omega⟩, fun d => ⟨ri, fun c => ?_, fun c => ?_⟩, fun d => ?_⟩
      · rw [show k = (p2 n - 1).toNat by omega] at lb ⊢
        have := l107 (lqF W (p2 n - 1).toNat) lb.1 (by omega) (hr c) c 10 0 (by omega) (by omega) (fun p a b => by omega) (by show (0 : Int) ≤ i; omega)
        rw [show i - cntP (bB (lqF W (p2 n - 1).toNat)) 0 = i from Int.sub_zero i] at this
        exact this
      · rw [show k = (p2 n - 1).toNat by omega] at lb ⊢
        exact Md_bits_ok lb.1 (by omega) (hm c)
      · have nx := ih (k + 1) (by omega) (by omega)
        rw [lqF_s, Int.natCast_add] at nx
        refine isB_b (cb_B n0 n1 hw (by omega) (by omega)) (fun z => ⟨⟨by omega, by omega⟩, fun c => ?_, fun c => Md_bits_ok (by omega) (by omega) (Md_bits_ok (by omega) (by omega) ?_)⟩) (fun z => ?_)
        · rw [if_pos ⟨Or.inl c, by rw [← Bool.not_eq_true]; exact fun y => z ((hW _ (by omega) (by omega)).mp y)⟩] at nx
          exact nx
        · rw [show ((k : Int) + 1).toNat = k + 1 by omega]
          refine ⟨⟨by omega, by omega⟩, ⟨by omega, by omega⟩, fun f => ?_, fun f => ?_⟩
          · rw [if_neg (fun y => by have := y.1; omega)] at nx
            exact nx
          · rw [if_pos ⟨Or.inr (by omega), by rw [← Bool.not_eq_true]; exact fun y => z ((hW _ (by omega) (by omega)).mp y)⟩] at nx
            exact nx
        · rw [if_neg (fun y => by rw [(hW _ (by omega) (by omega)).mpr z] at y; exact absurd y.2 (by decide))] at nx
          exact nx
  exact loop (p2 n + 1).toNat 0 (by omega) (by omega)
theorem sim_quarrel {a x i : Int} {s : SS} {K : Int → Int → SS → Prop} (ra : rng a) (rx : rng x) (ri : rng i) (hl : iLand s) (hb : iBook s) (hy : iKeys s) (hE : iEar s) (hk : ∀ r s', rng r → dg s s' → frm cN cA s s' → iEar s' → K r r s') : Sp_LS_quarrel a x i s (fun p s1 => Sp_Md_quarrel a x i s1 (fun q s2 => K p q s2)) := by
  have bq1 := hb.1
  have b3 := hb.2.2.1
  have b14 := hb.2.2.2.2.2.2.2.2.2.2.2.2.2
  have fin0 : ∀ s', frm mN2 mA2 s s' → K (-1) (-1) s' := fun s' hf => hk _ _ (by decide) (fun u _ _ => by rw [hf.2 13 rfl]) (frm_mono hf (by decide) (by decide)) (by unfold iEar; rw [hf.2 83 rfl]; exact hE)
  refine LS_upTo_ok rx bq1.2 (fun e he => ?_)
  rcases he with ⟨e1, nt⟩ | he
  · refine isB_a (LS_isNameBy_B ra ⟨by omega, by omega⟩ hb) (fun _ => ?_) (fun q => absurd q (noBy hb e1))
    intro X42 X107 h42 h107
    exact ⟨ri, fun _ => fin0 _ (frm_rf _ _ _), fun _ => Md_hear_no hb ra rx nt (fin0 _ (frm_rf _ _ _))⟩
  · refine isB_a (LS_isNameBy_B ra ⟨by have := he.1; omega, by have := he.2.1; omega⟩ hb) (fun c => ?_) (fun ca => ⟨ri, fun ci => ?_, fun ci => ?_⟩)
    · intro X42 X107 h42 h107
      exact ⟨ri, fun _ => fin0 _ (frm_rf _ _ _), fun _ => Md_hear_ok hb hy ra rx he (fun _ s' hf => fin0 s' hf) (fun q => absurd ((nm_iff hb he.1 he.2.1).mpr q) c)⟩
    · have ca := (nm_iff hb he.1 he.2.1).mp ca
      refine He_open_ok hb hy he.1 he.2.1 ⟨by have := he.1; omega, by have := he.2.1; omega⟩ ca (fun P t ht => ?_)
      obtain ⟨tb, ty, te, tn, tL, tq, t24, t7⟩ := hrd_t ht hb hy
      obtain ⟨m0, hm⟩ := hrd_roots hb ht
      obtain ⟨d1, d2, d3⟩ := iLand_d (t := t) hl (ht.1.2 4 rfl) (ht.1.2 59 rfl)
      refine He_weigh_ok (m := t.1 9) rfl m0 (fun j j0 j1 => (hm j j0 j1).1) d1 (fun j j0 j1 => (hm j j0 j1).2) (fun u hu hw hs h17 hwk => ⟨h17, ?_⟩)
      obtain ⟨w1, w2, w3, w4, w5, w6, w7, w8⟩ := frm_w (e := e) (show frm wN wA t u from hu)
      obtain ⟨W, hW⟩ : ∃ W : Int → Bool, ∀ x, W x = true ↔ wk u x := ⟨fun x => @decide (wk u x) (Classical.propDecidable _), fun x => @decide_eq_true_iff _ (Classical.propDecidable _)⟩
      obtain ⟨n, hn⟩ : ∃ n, n = min 8 (t.1 9) := ⟨_, rfl⟩
      rw [← hn] at hw hs hwk
      have pp := p2_pos n
      have p9 := p2_9 (n := n) (by omega) (by omega)
      have lb := lqF_b W (p2 n - 1).toNat
      have pl := popN_le (n := (lqF W (p2 n - 1).toNat).toNat) (by omega)
      have e35 : u.2 35 = t.2 35 := hu.2 35 rfl
      have md : ∀ v, rng v → (u.1 17 = 1 → v = -3) → (u.1 17 = 0 → i = -1 → v = (popN (lqF W (p2 n - 1).toNat).toNat : Int)) → (u.1 17 = 0 → i ≠ -1 → ∀ r, ibt n (lqF W (p2 n - 1).toNat) i r → v = if 0 ≤ r then t.2 35 r else -1) → Sp_Md_quarrel a x i u (fun q s2 => K v q s2) := by
        intro v rv c1 c2 c3 X42 X107 h42 h107
        refine ⟨ri, fun c => by omega, fun _ => ?_⟩
        refine Md_hear_ok (w1 tb) (w2 ty) ra rx (w3 x (te x he)) (fun q => absurd (by rw [w4, tn]; exact ca) q) (fun _ R t3 hR hf3 hE3 => ?_)
        rw [w4, w5] at hR
        rw [w6, w7, w8] at hE3
        obtain ⟨u1, u2, u3⟩ := roots_g hb hy he.1 he.2.1 ca ht hR hE3
        have e77 : t3.2 77 = t.2 20 := by rw [hf3.2 77 rfl, hu.2 77 rfl, ht.1.2 77 rfl, ht.1.2 20 rfl, b14.2.2.1]
        have e78 : t3.2 78 = t.2 21 := by rw [hf3.2 78 rfl, hu.2 78 rfl, ht.1.2 78 rfl, ht.1.2 21 rfl, b14.2.2.2.1]
        have e79 : t3.2 79 = t.2 22 := by rw [hf3.2 79 rfl, hu.2 79 rfl, ht.1.2 79 rfl, ht.1.2 22 rfl, b14.2.2.2.2.1]
        have e59 : t3.2 59 = t.2 59 := by rw [hf3.2 59 rfl, hu.2 59 rfl]
        have e83 : t3.2 83 = s.2 83 := by rw [hf3.2 83 rfl, hu.2 83 rfl, ht.1.2 83 rfl]
        refine Md_canAll_ok (m := t.1 9) u1.1.symm m0 (fun j j0 j1 => by rw [← (u2 j j0 j1).1]; exact (hm j j0 j1).1) (by rw [e59]; exact d2) (by unfold iEar; rw [e83]; exact hE) (fun j j0 j1 => by rw [e77, e78, e79, ← (u2 j j0 j1).1]; exact (hm j j0 j1).2) (fun r s' hf' hm' hs' hr01 hcb => ?_)
        rw [← hn] at hm' hs' hcb
        have same : ∀ y, 0 ≤ y → y < p2 n → (wk u y ↔ cb s' n y) := fun y y0 y1 => wk_cb (by omega) (by omega) hw hm' (fun k k0 k1 => by
          obtain ⟨a1, a2, a3⟩ := hs k k0 k1
          obtain ⟨g1, g2, g3⟩ := hs' k k0 k1
          rw [a1, a2, a3, g1, g2, g3, e77, e78, e79, ← (u2 k k0 (by omega)).1]
          exact ⟨rfl, rfl, rfl⟩) d1 (by rw [e59]; exact d3) y0 y1
        have er : u.1 17 = r := by
          have := hwk.trans ((same _ (by omega) (by omega)).trans hcb.symm)
          omega
        have fin := hk v s' rv (dg_tr (dg_tr ht.2.1 (fun i _ _ => by rw [hu.2 13 rfl])) (fun i _ _ => by rw [hf'.2 13 rfl, hf3.2 13 rfl])) (frm_tr (frm_tr (frm_tr (frm_mono ht.1 (by decide) (by decide)) (frm_mono hu (by decide) (by decide))) (frm_mono hf3 (by decide) (by decide))) (frm_mono hf' (by decide) (by decide))) hm'.2.2
        refine ⟨⟨by omega, by omega⟩, fun z => ?_, fun z => ?_⟩
        · refine Md_quarrel_l h42 h107 (by omega) (by omega) ri ci hm' (fun y y0 y1 => (hW y).trans (same y y0 y1)) (fun q => ?_) (fun q r' hr' => ?_)
          · rw [← c2 (by omega) q]; exact fin
          · have e82 : s'.2 82 = t3.2 82 := hf'.2 82 rfl
            have : (if 0 ≤ r' then s'.2 82 r' else -1) = v := by
              rw [c3 (by omega) q r' hr', e82]
              by_cases y : 0 ≤ r'
              · have : r' < n := by
                  rcases hr' with ⟨-, g, -⟩ | ⟨g, -⟩ <;> omega
                rw [if_pos y, if_pos y, (u2 r' y (by omega)).1]
              · rw [if_neg y, if_neg y]
            rw [this]
            exact fin
        · rw [← c1 (by omega)]; exact fin
      refine ⟨⟨by omega, by omega⟩, fun z => ?_, fun z => ?_⟩
      · refine Wa_leastQuarrel_ok (by omega) (by omega) hw (fun y _ _ => hW y) ⟨ri, fun q => ?_, fun q => ?_⟩
        · refine LS_bitAt_ok (n := n) (by omega) (by omega) lb.1 (by omega) ri (fun r hr => ?_)
          have uq : ∀ r', ibt n (lqF W (p2 n - 1).toNat) i r' → r' = r := fun r' hr' => by
            rcases hr with ⟨f1, f2, f3, f4⟩ | ⟨f1, f2⟩
            · exact ibt_u hr' f1 f2 f3 f4
            · rcases hr' with ⟨g1, g2, g3, g4⟩ | ⟨g1, g2⟩
              · exact absurd g4 (f2 r' g1 g2 g3)
              · omega
          have rb : -1 ≤ r ∧ r < 9 := by rcases hr with ⟨f1, f2, f3, f4⟩ | ⟨f1, f2⟩ <;> omega
          refine ⟨⟨by omega, by omega⟩, fun c => ⟨by omega, ?_⟩, fun c => ?_⟩
          · rw [e35]
            have rn : r < n := by rcases hr with ⟨f1, f2, f3, f4⟩ | ⟨f1, f2⟩ <;> omega
            have hmr := (hm r c (by omega)).1
            exact md _ ⟨by omega, by omega⟩ (fun y => by omega) (fun _ y => absurd y q) (fun _ _ r' hr' => by rw [uq r' hr', if_pos c])
          · exact md _ (by decide) (fun y => by omega) (fun _ y => absurd y q) (fun _ _ r' hr' => by rw [uq r' hr', if_neg (by omega)])
        · refine Jl_bitCount_ok lb.1 (by omega) ?_
          exact md _ ⟨by omega, by omega⟩ (fun y => by omega) (fun _ _ => rfl) (fun _ y => absurd q y)
      · exact md _ (by decide) (fun _ => rfl) (fun y => absurd y z) (fun y => absurd y z)
    · intro X42 X107 h42 h107
      exact ⟨ri, fun _ => fin0 _ (frm_rf _ _ _), fun c => by omega⟩
end
