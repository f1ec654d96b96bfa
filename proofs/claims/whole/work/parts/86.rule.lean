section
/-! RULES: rule -/
theorem i2b_bnd (x : Int) : bnd (i2b x) 255 = bnd x 255 := by
  unfold bnd i2b
  rw [iI_ti, show iI 255 = 255 from rfl, bp_b]
theorem bnd_id {v : Int} (h0 : 0 ≤ v) (h1 : v ≤ 255) : bnd v 255 = v := by
  have key : ∀ n : Fin 256, n.val &&& 255 = n.val := by decide +kernel
  have h := key ⟨v.toNat, by omega⟩
  have e : v = ((v.toNat : Nat) : Int) := by omega
  rw [e]
  rw [show (255 : Int) = ((255 : Nat) : Int) from rfl, bnd_nat (Or.inl (by omega))]
  exact congrArg _ h
/-- a text that the class keeps -/
def txr (s : SS) (r i : Int) : Int := if 0 ≤ i ∧ i < s.2 37 r then bnd (s.2 36 (r * 200 + i)) 255 else -1
def rlOk (s : SS) (r : Int) : Prop := ∃ (L : ClL) (c' k' : Int), CLt (txr s r) 0 L c' ∧ CLm (fun j => s.2 87 (600 * r + j)) (fun n => s.2 88 (8 * r + n)) (fun n => s.2 89 (8 * r + n)) 0 0 L k' ∧ k' ≤ 200 ∧ L.length ≤ 8 ∧ s.2 90 r = L.length ∧ s.2 38 r = L.length + 1 ∧ (0 ≤ s.2 37 r ∧ s.2 37 r ≤ 200) ∧ txr s r (s.2 37 r - 1) = s.2 91 r + 48 ∧ (0 ≤ s.2 91 r ∧ s.2 91 r ≤ 9)
def iRule (s : SS) : Prop := ∀ r, 0 ≤ r → r < s.1 39 → rlOk s r
theorem iRule_agr {s t : SS} (h : agr [39] [36, 37, 38, 87, 88, 89, 90, 91] s t) (q : iRule s) : iRule t := by
  intro r r0 r1
  rw [h.1 39 (by decide)] at r1
  have := q r r0 r1
  unfold rlOk txr at this ⊢
  rw [h.2 36 (by decide), h.2 37 (by decide), h.2 38 (by decide), h.2 87 (by decide), h.2 88 (by decide), h.2 89 (by decide), h.2 90 (by decide), h.2 91 (by decide)]
  exact this
theorem Ru_enter_ok {cnt en : Int} {s : SS} {Q : SS → Prop} (ht : iTape s) (h18 : 0 ≤ s.1 18 ∧ s.1 18 < 20) (hk : ∀ s', frm [18] [36, 37, 38, 39] s s' → s'.1 18 = s.1 18 + 1 → s'.2 37 = updF (s.2 37) (s.1 18) (s.1 3) → s'.2 38 = updF (s.2 38) (s.1 18) cnt → s'.2 39 = updF (s.2 39) (s.1 18) en → (∀ i, 0 ≤ i → i < s.1 3 → bnd (s'.2 36 (s.1 18 * 200 + i)) 255 = s.2 63 i) → (∀ x, x < s.1 18 * 200 → s'.2 36 x = s.2 36 x) → Q s') : Sp_Ru_enter cnt en s Q := by
  obtain ⟨t1, t2, t3⟩ := ht
  intro X3 g3
  have key : ∀ (t : Nat) (i : Int) (s1 : SS), 0 ≤ i → i ≤ s.1 3 → s.1 3 - i < t → frm [] [36] s s1 → (∀ j, 0 ≤ j → j < i → bnd (s1.2 36 (s.1 18 * 200 + j)) 255 = s.2 63 j) → (∀ x, x < s.1 18 * 200 → s1.2 36 x = s.2 36 x) → X3 cnt en i s1 := by
    intro t
    induction t with
    | zero => intro i s1 a b c; omega
    | succ t ih =>
      intro i s1 i0 i1 it hf hI hX
      have e3 : s1.1 3 = s.1 3 := hf.1 3 rfl
      have e18 : s1.1 18 = s.1 18 := hf.1 18 rfl
      refine g3 _ _ _ _ ?_
      unfold B_Ru_enter_3 Sp_Ta_size
      rw [e3]
      refine ⟨⟨by omega, by omega⟩, ⟨by omega, by omega⟩, fun c => ?_, fun c => ?_⟩
      · rw [e3, e18]
        refine ⟨h18, fun s5 h5 => ?_⟩
        have e5 : s5.1 = s1.1 := by rw [h5]; rfl
        rw [e5, e18]
        refine ⟨h18, fun s6 h6 => ?_⟩
        have e6 : s6.1 = s1.1 := by rw [h6]; exact e5
        rw [e6, e18]
        refine ⟨h18, fun s7 h7 s8 h8 => ?_⟩
        have e7 : s7.1 = s1.1 := by rw [h7]; exact e6
        refine hk s8 ?_ (by rw [h8, sF_s, e7, e18]) ?_ ?_ ?_ ?_ ?_
        · rw [h8, h7, h6, h5]
          exact frm_tr (frm_mono hf (by decide) (by decide)) (frm_tr (frm_tr (frm_tr (frm_A _ _ _ (by decide)) (frm_A _ _ _ (by decide))) (frm_A _ _ _ (by decide))) (frm_F _ _ (by decide)))
        · rw [h8, sF_2, h7, sA_n _ _ _ (by decide), h6, sA_n _ _ _ (by decide), h5, sA_u, hf.2 37 rfl]
        · rw [h8, sF_2, h7, sA_n _ _ _ (by decide), h6, sA_u, h5, sA_n _ _ _ (by decide), hf.2 38 rfl]
        · rw [h8, sF_2, h7, sA_u, h6, sA_n _ _ _ (by decide), h5, sA_n _ _ _ (by decide), hf.2 39 rfl]
        · intro j j0 j1
          rw [h8, sF_2, h7, sA_n _ _ _ (by decide), h6, sA_n _ _ _ (by decide), h5, sA_n _ _ _ (by decide)]
          exact hI j j0 (by omega)
        · intro x hx
          rw [h8, sF_2, h7, sA_n _ _ _ (by decide), h6, sA_n _ _ _ (by decide), h5, sA_n _ _ _ (by decide)]
          exact hX x hx
      · refine ⟨⟨by omega, by omega⟩, fun d => by omega, fun _ => ⟨⟨by omega, by omega⟩, by rw [e3]; exact ⟨by omega, by omega⟩, fun _ => ⟨⟨by omega, by omega⟩, ?_⟩, fun d => by rw [e3] at d; omega⟩⟩
        obtain ⟨u1, u2, u3⟩ := t3 i i0 c
        have e5 : s1.2 5 = s.2 5 := hf.2 5 rfl
        rw [e5, e18]
        refine ⟨⟨by omega, by omega⟩, fun s11 h11 => ?_⟩
        have k36 : s11.2 36 = updF (s1.2 36) (s.1 18 * 200 + i) (i2b (bnd (s.2 5 i) 255)) := by rw [h11, sA_u]
        refine ih (i + 1) s11 (by omega) (by omega) (by omega) (by rw [h11]; exact frm_tr hf (frm_A _ _ _ (by decide))) (fun j j0 j1 => ?_) (fun x hx => ?_)
        · rw [k36]
          by_cases z : j = i
          · rw [z, updF_s, i2b_bnd, ← u1, bnd_id u2 u3]
          · rw [updF_n _ _ (by omega)]
            exact hI j j0 (by omega)
        · rw [k36, updF_n _ _ (by omega)]
          exact hX x hx
  exact key (s.1 3 + 1).toNat 0 s (by omega) (by omega) (by omega) (frm_rf _ _ _) (fun j a b => by omega) (fun _ _ => rfl)
theorem bad_r {p : Int × Int} {s0 s : SS} {r : Int} (h0 : txO s0) (hp : pJ s0 s) (hb : pBad p s0 s) (hc : chkR p (tpx s0) (s0.1 30).toNat r) : r = -10 - s.1 40 := by
  have h40 := hp.2.1
  have h30 := h0.1
  obtain ⟨b1, b2⟩ := hb
  have := chk_bad hc (k := (s.1 40).toNat) (by omega) b1 (by
    rcases b2 with ⟨c1, c2⟩ | ⟨c1, c2⟩
    · refine Or.inl ⟨by omega, ?_⟩
      show (aft (run p (tpx s0) (s.1 40).toNat) (tpx s0 ((s.1 40).toNat : Int))).st = -1
      rw [show (((s.1 40).toNat : Nat) : Int) = s.1 40 by omega]
      exact c2
    · refine Or.inr ⟨by omega, ?_⟩
      unfold rA at c2
      rw [c1] at c2
      exact c2)
  rw [this]
  omega
theorem txO_t {s : SS} (ht : iTape s) (h39 : 0 ≤ s.1 39 ∧ s.1 39 < 20) : txO s := by
  obtain ⟨t1, t2, t3⟩ := ht
  refine ⟨by omega, h39, fun i => ?_⟩
  unfold tpx
  by_cases c : 0 ≤ i ∧ i < s.1 30
  · rw [if_pos c]
    have := t3 i c.1 (by omega)
    omega
  · rw [if_neg c]
    omega
def ruN : List Nat := [1, 3, 18, 19, 20, 21, 22, 29, 30, 39, 40, 41, 42, 43]
def ruA : List Nat := [36, 37, 38, 39, 60, 61, 62, 87, 88, 89, 90, 91, 92]
theorem sim_rule {s : SS} {K : Int → Int → SS → Prop} (ht : iTape s) (hb : iBook s) (hr : iRule s) (hk : ∀ r s', rng r → iTape s' → iBook s' → iRule s' → frm ruN ruA s s' → grw s s' → K r r s') : Sp_LS_rule s (fun a s1 => Sp_Md_rule s1 (fun b s2 => K a b s2)) := by
  obtain ⟨b1, b2, b3, b4, b5, b6, b7, b8, b9, b10, b11, b12, b13, b14⟩ := id hb
  obtain ⟨t1, t2, t3⟩ := id ht
  have stay : K (-4) (-4) s := hk (-4) s (by decide) ht hb hr (frm_rf _ _ _) (grw_rf s)
  refine ⟨⟨by omega, by omega⟩, fun c => ⟨⟨by omega, by omega⟩, fun _ => stay, fun q => by omega⟩, fun c => isB_a (LS_bookIsFull_B b1.2) (fun nf => ?_) (fun ff => ⟨⟨by omega, by omega⟩, fun q => by omega, fun _ => ⟨⟨by omega, by omega⟩, fun q => by omega, fun _ => stay⟩⟩)⟩
  refine Ru_check_ok ht (fun r s5 rr hf5 hc => ⟨rr, fun r0 s7 h7 => ?_, fun r0 => ?_⟩)
  · -- no rule
    have f7 : frm [3, 19, 20, 21, 22] [] s s7 := by rw [h7]; exact frm_tr (frm_mono hf5 (by decide) (by decide)) (frm_F _ _ (by decide))
    have k3 : s7.1 3 = 0 := by rw [h7, sF_s]
    have etx : tpx s7 = tpx s := by funext i; unfold tpx; rw [f7.1 30 rfl, f7.2 63 rfl]
    have h0 : txO s7 := by
      have := txO_t ht (by omega)
      unfold txO at this ⊢
      rw [etx, f7.1 30 rfl, f7.1 39 rfl]
      exact this
    have e30 : s7.1 30 = s.1 30 := f7.1 30 rfl
    have e39 : s7.1 39 = s.1 39 := f7.1 39 rfl
    have e29 : s7.1 29 = s.1 29 := f7.1 29 rfl
    rw [← etx, ← e30] at hc
    refine ⟨⟨by omega, by omega⟩, fun q => by omega, fun _ => ⟨⟨by omega, by omega⟩, fun _ => ?_, fun q => by omega⟩⟩
    refine Md_parses_ok (p := (s.1 21, s.1 22)) h0 (fun s' hp hfr hbd s3 h3 => ⟨by decide, fun q => absurd rfl q, fun _ => ?_⟩) (fun s' L c' k' hp hfr h14 h40 hcl hl hT hM hk' h90 he hd => ?_)
    · have er := bad_r h0 hp hbd hc
      have k40 : s3.1 40 = s'.1 40 := by rw [h3, sF_n _ _ (by decide)]
      have fr : frm ruN ruA s s3 := by
        rw [h3]
        exact frm_tr (frm_mono f7 (by decide) (by decide)) (frm_tr (frm_mono hp.1 (by decide) (by decide)) (frm_F _ _ (by decide)))
      rw [k40, ← er]
      have k30 : s3.1 30 = 0 := by rw [h3, sF_s]
      have k3' : s3.1 3 = 0 := by rw [h3, sF_n _ _ (by decide), hp.1.1 3 rfl, k3]
      have fb : agr bkSc bkAr s s3 := by
        rw [h3]
        exact agr_of (frm_tr (frm_mono f7 (ks' := [3, 19, 20, 21, 22, 30, 40, 41, 42, 43]) (js' := [87, 88, 89, 90, 91, 92]) (by decide) (by decide)) (frm_tr (frm_mono hp.1 (by decide) (by decide)) (frm_F _ _ (by decide)))) (by decide)
      refine hk r s3 rr ⟨by omega, by omega, fun i a b => by omega⟩ (iBook_agr fb hb) (fun x x0 x1 => ?_) fr (grw_f (by rw [h3, sF_n _ _ (by decide), hp.1.1 29 rfl, e29]) (by rw [h3, sF_2, hp.1.2 60 rfl, f7.2 60 rfl]))
      have x1 : x < s.1 39 := by rw [h3, sF_n _ _ (by decide), hp.1.1 39 rfl, e39] at x1; exact x1
      obtain ⟨L, c', k', q1, q2, q3, q4, q5, q6, q7, q8, q9⟩ := hr x x0 x1
      have e2 : s3.2 = s'.2 := by rw [h3]; rfl
      have etr : txr s3 x = txr s x := by
        funext i
        unfold txr
        rw [e2, hp.1.2 36 rfl, hp.1.2 37 rfl, f7.2 36 rfl, f7.2 37 rfl]
      unfold fR at hfr
      rw [e39] at hfr
      refine ⟨L, c', k', by rw [etr]; exact q1, CLm_up q2 (fun j j0 j1 => ?_) (fun j j0 j1 => ?_), q3, q4, ?_, ?_, ?_, ?_, ?_⟩
      · show s3.2 87 _ = s.2 87 _
        rw [e2, hfr.1 _ (by omega), f7.2 87 rfl]
      · show s3.2 88 _ = s.2 88 _ ∧ s3.2 89 _ = s.2 89 _
        have := hfr.2.1 (8 * x + j) (by omega)
        rw [e2, this.1, this.2, f7.2 88 rfl, f7.2 89 rfl]
        exact ⟨rfl, rfl⟩
      · rw [e2, (hfr.2.2 x (by omega)).1, f7.2 90 rfl]; exact q5
      · rw [e2, hp.1.2 38 rfl, f7.2 38 rfl]; exact q6
      · rw [e2, hp.1.2 37 rfl, f7.2 37 rfl]; exact q7
      · rw [etr, e2, hp.1.2 37 rfl, f7.2 37 rfl, (hfr.2.2 x (by omega)).2, f7.2 91 rfl]; exact q8
      · rw [e2, (hfr.2.2 x (by omega)).2, f7.2 91 rfl]; exact q9
    · have hg : (run (s.1 21, s.1 22) (tpx s7) (s7.1 30).toNat).st = 14 ∧ (run (s.1 21, s.1 22) (tpx s7) (s7.1 30).toNat).cl = L.length := by
        unfold rA at h14 hcl
        rw [h40] at h14 hcl
        exact ⟨h14, hcl⟩
      have := chk_good hc hg.1
      omega
  · -- a rule
    have ht5 : iTape s5 := iTape_agr (agr_of hf5 (by decide)) ht
    have k18 : s5.1 18 = s.1 18 := hf5.1 18 rfl
    have k1 : s5.1 1 = s.1 1 := hf5.1 1 rfl
    have k3 : s5.1 3 = s.1 3 := hf5.1 3 rfl
    rw [k1]
    refine Ru_enter_ok ht5 (by omega) (fun s8 hf8 w18 w37 w38 w39 w36 wx s9 h9 s10 h10 => ?_)
    rw [k18] at w18 w37 w38 w39 w36 wx
    rw [k3] at w37 w36
    have f10 : frm [1, 3, 18, 19, 20, 21, 22] [36, 37, 38, 39] s s10 := by
      rw [h10, h9]
      exact frm_tr (frm_mono hf5 (by decide) (by decide)) (frm_tr (frm_mono hf8 (by decide) (by decide)) (frm_tr (frm_F _ _ (by decide)) (frm_F _ _ (by decide))))
    have m2 : s10.2 = s8.2 := by rw [h10, h9]; rfl
    have m1 : s10.1 1 = s.1 1 + 1 := by rw [h10, sF_n _ _ (by decide), h9, sF_s, hf8.1 1 rfl, k1]
    have m3 : s10.1 3 = 0 := by rw [h10, sF_s]
    have m18 : s10.1 18 = s.1 18 + 1 := by rw [h10, sF_n _ _ (by decide), h9, sF_n _ _ (by decide), w18]
    have etx : tpx s10 = tpx s := by funext i; unfold tpx; rw [f10.1 30 rfl, f10.2 63 rfl]
    have h0 : txO s10 := by
      have := txO_t ht (by omega)
      unfold txO at this ⊢
      rw [etx, f10.1 30 rfl, f10.1 39 rfl]
      exact this
    have e30 : s10.1 30 = s.1 30 := f10.1 30 rfl
    have e39 : s10.1 39 = s.1 39 := f10.1 39 rfl
    have e29 : s10.1 29 = s.1 29 := f10.1 29 rfl
    rw [← etx, ← e30] at hc
    refine ⟨⟨by omega, by omega⟩, fun q => by omega, fun _ => ⟨⟨by omega, by omega⟩, fun _ => ?_, fun q => by omega⟩⟩
    refine Md_parses_ok (p := (s.1 21, s.1 22)) h0 (fun s' hp hfr hbd => ?_) (fun s' L c' k' hp hfr h14 h40 hcl hl hT hM hk' h90 he hd s3 h3 => ⟨by decide, fun _ => ?_, fun q => absurd q (by decide)⟩)
    · have er := bad_r h0 hp hbd hc
      have := hp.2.1
      omega
    · have hg : (run (s.1 21, s.1 22) (tpx s10) (s10.1 30).toNat).st = 14 ∧ (run (s.1 21, s.1 22) (tpx s10) (s10.1 30).toNat).cl = L.length := by
        unfold rA at h14 hcl
        rw [h40] at h14 hcl
        exact ⟨h14, hcl⟩
      have er := chk_good hc hg.1
      rw [hg.2] at er
      have f3 : frm [1, 3, 18, 19, 20, 21, 22, 30, 40, 41, 42, 43] [36, 37, 38, 39, 87, 88, 89, 90, 91, 92] s s3 := by
        rw [h3]
        exact frm_tr (frm_mono f10 (by decide) (by decide)) (frm_tr (frm_mono hp.1 (by decide) (by decide)) (frm_F _ _ (by decide)))
      have n39 : s3.1 39 = s.1 39 := f3.1 39 rfl
      have n29 : s3.1 29 = s.1 29 := f3.1 29 rfl
      have e2 : s3.2 = s'.2 := by rw [h3]; rfl
      rw [n39]
      refine Md_enters_ok (by omega) (fun s4 hf4 v29 v60 v61 v62 s6 h6 => ?_)
      rw [n29] at v29 v60 v61 v62
      have j2 : s6.2 = s4.2 := by rw [h6]; rfl
      have j39 : s6.1 39 = s.1 39 + 1 := by rw [h6, sF_s, hf4.1 39 rfl, n39]
      have fr : frm ruN ruA s s6 := by
        rw [h6]
        exact frm_tr (frm_mono f3 (by decide) (by decide)) (frm_tr (frm_mono hf4 (by decide) (by decide)) (frm_F _ _ (by decide)))
      have j90 : s6.2 90 = s'.2 90 := by rw [j2, hf4.2 90 rfl, e2]
      have j91 : s6.2 91 = s'.2 91 := by rw [j2, hf4.2 91 rfl, e2]
      have j87 : s6.2 87 = s'.2 87 := by rw [j2, hf4.2 87 rfl, e2]
      have j88 : s6.2 88 = s'.2 88 := by rw [j2, hf4.2 88 rfl, e2]
      have j89 : s6.2 89 = s'.2 89 := by rw [j2, hf4.2 89 rfl, e2]
      have j36 : s6.2 36 = s8.2 36 := by rw [j2, hf4.2 36 rfl, e2, hp.1.2 36 rfl, m2]
      have j37 : s6.2 37 = updF (s.2 37) (s.1 18) (s.1 3) := by rw [j2, hf4.2 37 rfl, e2, hp.1.2 37 rfl, m2, w37, hf5.2 37 rfl]
      have j38 : s6.2 38 = updF (s.2 38) (s.1 18) r := by rw [j2, hf4.2 38 rfl, e2, hp.1.2 38 rfl, m2, w38, hf5.2 38 rfl]
      have j39' : s6.2 39 = updF (s.2 39) (s.1 18) (s.1 1) := by rw [j2, hf4.2 39 rfl, e2, hp.1.2 39 rfl, m2, w39, hf5.2 39 rfl]
      have j1 : s6.1 1 = s.1 1 + 1 := by rw [h6, sF_n _ _ (by decide), hf4.1 1 rfl, h3, sF_n _ _ (by decide), hp.1.1 1 rfl, m1]
      have j29 : s6.1 29 = s.1 29 + 1 := by rw [h6, sF_n _ _ (by decide), v29]
      have j18 : s6.1 18 = s.1 18 + 1 := by rw [h6, sF_n _ _ (by decide), hf4.1 18 rfl, h3, sF_n _ _ (by decide), hp.1.1 18 rfl, m18]
      have j3 : s6.1 3 = 0 := by rw [h6, sF_n _ _ (by decide), hf4.1 3 rfl, h3, sF_n _ _ (by decide), hp.1.1 3 rfl, m3]
      have j30 : s6.1 30 = 0 := by rw [h6, sF_n _ _ (by decide), hf4.1 30 rfl, h3, sF_s]
      rw [e39] at h90 he hd hM
      refine ⟨by omega, ?_⟩
      rw [show s6.1 39 - 1 = s.1 39 by omega, j90, h90, ← er]
      refine hk r s6 rr ⟨by omega, by omega, fun i a b => by omega⟩ ?_ (fun x x0 x1 => ?_) fr (grw_u (by rw [j2, v60, f3.2 60 rfl]) rfl (by omega))
      · refine ⟨⟨by omega, by omega, by omega⟩, ?_, ?_, ⟨by omega, by omega, by omega⟩, ?_, ?_⟩
        · rw [fr.1 4 rfl, fr.1 31 rfl]; exact b2
        · rw [fr.1 7 rfl, fr.1 36 rfl]; exact b3
        · rw [fr.1 5 rfl, j1]; omega
        · rw [j2, v60, v61, v62, ← j2, fr.2 8 rfl, fr.1 4 rfl, fr.2 25 rfl, j39', fr.2 9 rfl, fr.2 10 rfl, fr.2 11 rfl, fr.2 12 rfl, fr.1 5 rfl, fr.2 26 rfl, fr.2 18 rfl, fr.2 19 rfl, fr.2 20 rfl, fr.2 21 rfl, fr.2 22 rfl, fr.2 23 rfl, fr.2 24 rfl, fr.1 7 rfl, j1, j18, f3.2 60 rfl, f3.2 61 rfl, f3.2 62 rfl, fr.2 75 rfl, fr.2 76 rfl, fr.2 77 rfl, fr.2 78 rfl, fr.2 79 rfl, fr.2 80 rfl, fr.2 81 rfl, ← b1.1, ← b4.1]
          exact ⟨bkN_o b6 b1.2.1 (by decide), bkN_o b7 b1.2.1 (by decide), bkN_s b8 b1.2.1, bkD_o b9 b1.2.1 (by decide) (Int.le_refl _) (fun _ _ _ => rfl), bkW_o b10 (by decide) (Int.le_refl _) (fun w w0 w1 => ⟨rfl, rfl⟩) (fun w w0 w1 => by omega), bkR_s b11 b4.2.1, typ_o b12 (by decide), b13, b14⟩
      · by_cases z : x = s.1 39
        · -- the new one
          have etr : txr s6 x = tpx s10 := by
            funext i
            rw [etx]
            unfold txr tpx
            rw [j36, j37, z, ← b4.1, updF_s, ← t1]
            by_cases c : 0 ≤ i ∧ i < s.1 3
            · rw [if_pos c, if_pos c, w36 i c.1 c.2, hf5.2 63 rfl]
            · rw [if_neg c, if_neg c]
          refine ⟨L, c', k', by rw [etr]; exact hT, ?_, hk', hl, by rw [j90, z]; exact h90, by rw [j38, z, ← b4.1, updF_s]; exact er, by rw [j37, z, ← b4.1, updF_s]; exact t2, ?_, by rw [j91, z]; exact hd⟩
          · rw [j87, j88, j89, z]
            have ecd : cd s' = fun j => s'.2 87 (600 * s.1 39 + j) := by
              funext j
              unfold cd
              rw [hp.1.1 39 rfl, e39]
            rw [ecd] at hM
            exact hM
          · rw [etr, j37, z, ← b4.1, updF_s, j91, b4.1, t1, ← e30]
            exact he
        · have x1 : x < s.1 39 := by omega
          obtain ⟨L, c', k', q1, q2, q3, q4, q5, q6, q7, q8, q9⟩ := hr x x0 x1
          unfold fR at hfr
          rw [e39] at hfr
          have k37 : s6.2 37 x = s.2 37 x := by rw [j37, updF_n _ _ (by omega)]
          have etr : txr s6 x = txr s x := by
            funext i
            unfold txr
            rw [k37]
            by_cases c : 0 ≤ i ∧ i < s.2 37 x
            · rw [if_pos c, if_pos c, j36, wx _ (by omega), hf5.2 36 rfl]
            · rw [if_neg c, if_neg c]
          refine ⟨L, c', k', by rw [etr]; exact q1, CLm_up q2 (fun j j0 j1 => ?_) (fun j j0 j1 => ?_), q3, q4, ?_, ?_, ?_, ?_, ?_⟩
          · show s6.2 87 _ = s.2 87 _
            rw [j87, hfr.1 _ (by omega), f10.2 87 rfl]
          · show s6.2 88 _ = s.2 88 _ ∧ s6.2 89 _ = s.2 89 _
            have := hfr.2.1 (8 * x + j) (by omega)
            rw [j88, j89, this.1, this.2, f10.2 88 rfl, f10.2 89 rfl]
            exact ⟨rfl, rfl⟩
          · rw [j90, (hfr.2.2 x (by omega)).1, f10.2 90 rfl]; exact q5
          · rw [j38, updF_n _ _ (by omega)]; exact q6
          · rw [k37]; exact q7
          · rw [etr, k37, j91, (hfr.2.2 x (by omega)).2, f10.2 91 rfl]; exact q8
          · rw [j91, (hfr.2.2 x (by omega)).2, f10.2 91 rfl]; exact q9
end
