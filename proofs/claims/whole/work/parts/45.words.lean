section
/-! WORDS: word -/
theorem bkO_s {wi na pl fi la he ro wt nm : Int → Int} {W N E x1 x2 x3 x4 x5 x6 : Int} (h : bkO wi na pl fi la he ro wt W nm N) (W0 : 0 ≤ W) (q1 : 0 ≤ x1 ∧ x1 ≤ 29) (q2 : 0 ≤ x2 ∧ x2 < N) (q2b : nm x2 < E) (q3 : 1 ≤ x3 ∧ x3 ≤ 1023) (q4 : 0 ≤ x4 ∧ x4 ≤ x5 ∧ x5 ≤ 999) (q6 : -1 ≤ x6 ∧ x6 < W) : bkO (updF wi W x1) (updF na W x2) (updF pl W x3) (updF fi W x4) (updF la W x5) (updF he W x6) (updF ro W (if 0 ≤ x6 then ro x6 else W)) (updF wt W E) (W + 1) nm N := by
  intro w w0 w1
  by_cases e : w = W
  · subst e
    rw [updF_s, updF_s, updF_s, updF_s, updF_s, updF_s, updF_s, updF_s]
    refine ⟨q1, ⟨q2.1, q2.2, q2b⟩, q3, q4, q6, ?_⟩
    by_cases z : 0 ≤ x6
    · have := h x6 z q6.2
      rw [if_pos z, updF_n _ _ (show x6 ≠ w by omega)]
      omega
    · rw [if_neg z]; omega
  · rw [updF_n _ _ e, updF_n _ _ e, updF_n _ _ e, updF_n _ _ e, updF_n _ _ e, updF_n _ _ e, updF_n _ _ e, updF_n _ _ e]
    obtain ⟨w1', w2', w3', w4', w5', w6', w7', w8', w9'⟩ := h w w0 (by omega)
    refine ⟨w1', w2', w3', w4', w5', w6', w7', w8', fun z => ?_⟩
    rw [updF_n _ _ (show he w ≠ W by omega)]
    exact w9' z
def wC1 (N W x1 x2 x6 : Int) : Prop := (0 ≤ x1 ∧ x1 ≤ 29) ∧ (0 ≤ x2 ∧ x2 < N) ∧ (-1 ≤ x6 ∧ x6 < W)
def wC2 (x3 x4 x5 : Int) : Prop := (1 ≤ x3 ∧ x3 ≤ 1023) ∧ (0 ≤ x4 ∧ x4 ≤ x5 ∧ x5 ≤ 999)
theorem LS_isWatch_B {x : Int} (hx : rng x) (s : SS) : isB (0 ≤ x ∧ x ≤ 999) s (Sp_LS_isWatch x s) := by
  intro K h1 h0
  exact ⟨hx, fun c => h0 (by omega), fun c => ⟨hx, fun d => h0 (by omega), fun d => h1 (by omega)⟩⟩
theorem Md_word_ok {x1 x2 x3 x4 x5 x6 : Int} {s : SS} {Q : Int → SS → Prop} (r1 : rng x1) (r2 : rng x2) (r3 : rng x3) (r4 : rng x4) (r5 : rng x5) (r6 : rng x6) (hN : 0 ≤ s.1 31 ∧ s.1 31 ≤ 20) (hW : 0 ≤ s.1 36 ∧ s.1 36 ≤ 40) (hE : 0 ≤ s.1 29 ∧ s.1 29 ≤ 200) (n1 : ¬ wC1 (s.1 31) (s.1 36) x1 x2 x6 → Q (-1) s) (n2 : wC1 (s.1 31) (s.1 36) x1 x2 x6 → ¬ wC2 x3 x4 x5 → Q (-2) s) (n4 : wC1 (s.1 31) (s.1 36) x1 x2 x6 → wC2 x3 x4 x5 → (s.1 36 = 40 ∨ s.1 29 = 200) → Q (-4) s) (go : wC1 (s.1 31) (s.1 36) x1 x2 x6 → wC2 x3 x4 x5 → ¬ (s.1 36 = 40 ∨ s.1 29 = 200) → ∀ s', frm [29, 36] [60, 61, 62, 75, 76, 77, 78, 79, 80, 81] s s' → s'.1 29 = s.1 29 + 1 → s'.1 36 = s.1 36 + 1 → s'.2 60 = updF (s.2 60) (s.1 29) 4 → s'.2 61 = updF (s.2 61) (s.1 29) (s.1 36) → s'.2 62 = updF (s.2 62) (s.1 29) 0 → s'.2 75 = updF (s.2 75) (s.1 36) x1 → s'.2 76 = updF (s.2 76) (s.1 36) x2 → s'.2 77 = updF (s.2 77) (s.1 36) x3 → s'.2 78 = updF (s.2 78) (s.1 36) x4 → s'.2 79 = updF (s.2 79) (s.1 36) x5 → s'.2 80 = updF (s.2 80) (s.1 36) x6 → s'.2 81 = updF (s.2 81) (s.1 36) (if 0 ≤ x6 then s.2 81 x6 else s.1 36) → Q (s.1 36) s') : Sp_Md_word x1 x2 x3 x4 x5 x6 s Q := by
  have nB : isB (0 ≤ x2 ∧ x2 < s.1 31) s (Sp_Md_isName x2 s) := fun K h1 h0 => ⟨r2, fun c => h0 (by omega), fun c => ⟨r2, ⟨by omega, by omega⟩, fun d => h0 (by omega), fun d => h1 (by omega)⟩⟩
  have wB : isB (0 ≤ x6 ∧ x6 < s.1 36) s (Sp_Md_isWord x6 s) := fun K h1 h0 => ⟨r6, fun c => h0 (by omega), fun c => ⟨r6, ⟨by omega, by omega⟩, fun d => h0 (by omega), fun d => h1 (by omega)⟩⟩
  intro X37 h37
  have body : wC1 (s.1 31) (s.1 36) x1 x2 x6 → X37 x1 x2 x3 x4 x5 x6 s := by
    intro c1
    obtain ⟨p1, p2, p6⟩ := id c1
    refine h37 _ _ _ _ _ _ _ ⟨r3, isB_a (Md_isIn_B r3 (by decide) (by decide) s) (fun c => n2 c1 (fun q => c q.1)) (fun c3 => ⟨r4, isB_a (Md_isIn_B r4 (by decide) (by decide) s) (fun c => n2 c1 (fun q => c (by have := q.2; omega))) (fun c4 => ⟨r5, r4, isB_b (Md_isIn_B r5 r4 (by decide) s) (fun c => n2 c1 (fun q => c (by have := q.2; omega))) (fun c5 => ?_)⟩)⟩)⟩
    have c2 : wC2 x3 x4 x5 := ⟨c3, by omega⟩
    refine ⟨⟨by omega, by omega⟩, fun f => n4 c1 c2 (Or.inl f), fun f => ⟨⟨by omega, by omega⟩, fun g => ?_, fun g => n4 c1 c2 (Or.inr g)⟩⟩
    have ng : ¬ (s.1 36 = 40 ∨ s.1 29 = 200) := by omega
    have iW : 0 ≤ s.1 36 ∧ s.1 36 < 40 := by omega
    refine ⟨iW, fun s13 h13 => ⟨iW, fun s14 h14 => ⟨iW, fun s15 h15 => ⟨iW, fun s16 h16 => ⟨iW, fun s17 h17 => ⟨iW, fun s18 h18 => ⟨r6, ?_⟩⟩⟩⟩⟩⟩⟩
    have e18 : s18.2 = (sA (sA (sA (sA (sA (sA s 75 (s.1 36) x1) 76 (s.1 36) x2) 77 (s.1 36) x3) 78 (s.1 36) x4) 79 (s.1 36) x5) 80 (s.1 36) x6).2 := by rw [h18, h17, h16, h15, h14, h13]
    have f18 : s18.1 = s.1 := by rw [h18, h17, h16, h15, h14, h13]; rfl
    have frm18 : frm [29, 36] [60, 61, 62, 75, 76, 77, 78, 79, 80, 81] s s18 := by
      rw [h18, h17, h16, h15, h14, h13]
      exact frm_tr (frm_tr (frm_tr (frm_tr (frm_tr (frm_A _ _ _ (by decide)) (frm_A _ _ _ (by decide))) (frm_A _ _ _ (by decide))) (frm_A _ _ _ (by decide))) (frm_A _ _ _ (by decide))) (frm_A _ _ _ (by decide))
    have e81 : s18.2 81 = s.2 81 := by rw [e18]; rw [sA_n _ _ _ (by decide), sA_n _ _ _ (by decide), sA_n _ _ _ (by decide), sA_n _ _ _ (by decide), sA_n _ _ _ (by decide), sA_n _ _ _ (by decide)]
    have fin : ∀ (v : Int) (s19 : SS), s19 = sA s18 81 (s.1 36) v → v = (if 0 ≤ x6 then s.2 81 x6 else s.1 36) → Sp_Md_enters 4 (s.1 36) 0 s19 (fun s20 => ∀ s21, s21 = sF s20 36 ((s20.1 36) + 1) → Q (s.1 36) s21) := by
      intro v s19 h19 hv
      have q1 : s19.1 = s.1 := by rw [h19]; exact f18
      refine Md_enters_ok (by rw [q1]; omega) (fun s20 hf w29 w60 w61 w62 s21 h21 => ?_)
      rw [q1] at w29 w60 w61 w62
      have q36 : s20.1 36 = s.1 36 := by rw [hf.1 36 rfl, q1]
      have k2 : s21.2 = s20.2 := by rw [h21]; rfl
      refine go c1 c2 ng s21 ?_ (by rw [h21, sF_n _ _ (by decide), w29]) (by rw [h21, sF_s, q36]) ?_ ?_ ?_ ?_ ?_ ?_ ?_ ?_ ?_ ?_
      · rw [h21]
        refine frm_tr (frm_tr (frm_tr frm18 ?_) (frm_mono hf (by decide) (by decide))) (frm_F _ _ (by decide))
        rw [h19]; exact frm_A _ _ _ (by decide)
      · rw [k2, w60, h19, sA_n _ _ _ (by decide), e18]; rw [sA_n _ _ _ (by decide), sA_n _ _ _ (by decide), sA_n _ _ _ (by decide), sA_n _ _ _ (by decide), sA_n _ _ _ (by decide), sA_n _ _ _ (by decide)]
      · rw [k2, w61, h19, sA_n _ _ _ (by decide), e18]; rw [sA_n _ _ _ (by decide), sA_n _ _ _ (by decide), sA_n _ _ _ (by decide), sA_n _ _ _ (by decide), sA_n _ _ _ (by decide), sA_n _ _ _ (by decide)]
      · rw [k2, w62, h19, sA_n _ _ _ (by decide), e18]; rw [sA_n _ _ _ (by decide), sA_n _ _ _ (by decide), sA_n _ _ _ (by decide), sA_n _ _ _ (by decide), sA_n _ _ _ (by decide), sA_n _ _ _ (by decide)]
      · rw [k2, hf.2 75 rfl, h19, sA_n _ _ _ (by decide), e18]; rw [sA_n _ _ _ (by decide), sA_n _ _ _ (by decide), sA_n _ _ _ (by decide), sA_n _ _ _ (by decide), sA_n _ _ _ (by decide), sA_u]
      · rw [k2, hf.2 76 rfl, h19, sA_n _ _ _ (by decide), e18]; rw [sA_n _ _ _ (by decide), sA_n _ _ _ (by decide), sA_n _ _ _ (by decide), sA_n _ _ _ (by decide), sA_u, sA_n _ _ _ (by decide)]
      · rw [k2, hf.2 77 rfl, h19, sA_n _ _ _ (by decide), e18]; rw [sA_n _ _ _ (by decide), sA_n _ _ _ (by decide), sA_n _ _ _ (by decide), sA_u, sA_n _ _ _ (by decide), sA_n _ _ _ (by decide)]
      · rw [k2, hf.2 78 rfl, h19, sA_n _ _ _ (by decide), e18]; rw [sA_n _ _ _ (by decide), sA_n _ _ _ (by decide), sA_u, sA_n _ _ _ (by decide), sA_n _ _ _ (by decide), sA_n _ _ _ (by decide)]
      · rw [k2, hf.2 79 rfl, h19, sA_n _ _ _ (by decide), e18]; rw [sA_n _ _ _ (by decide), sA_u, sA_n _ _ _ (by decide), sA_n _ _ _ (by decide), sA_n _ _ _ (by decide), sA_n _ _ _ (by decide)]
      · rw [k2, hf.2 80 rfl, h19, sA_n _ _ _ (by decide), e18]; rw [sA_u, sA_n _ _ _ (by decide), sA_n _ _ _ (by decide), sA_n _ _ _ (by decide), sA_n _ _ _ (by decide), sA_n _ _ _ (by decide)]
      · rw [k2, hf.2 81 rfl, h19, sA_u, e81, hv]
    exact ⟨fun z => ⟨by omega, iW, fun s19 h19 => fin _ s19 h19 (by rw [if_pos z, e81])⟩, fun z => ⟨iW, fun s19 h19 => fin _ s19 h19 (by rw [if_neg (by omega)])⟩⟩
  refine ⟨r1, isB_a (Md_isIn_B r1 (by decide) (by decide) s) (fun c => n1 (fun q => c q.1)) (fun c1 => isB_a nB (fun c => n1 (fun q => c q.2.1)) (fun c2 => ⟨r6, fun z => body ⟨c1, c2, by omega⟩, fun z => isB_b wB (fun c => n1 (fun q => c (by have := q.2.2; omega))) (fun c => body ⟨c1, c2, by omega⟩)⟩))⟩
theorem sim_word {x1 x2 x3 x4 x5 x6 : Int} {s : SS} {K : Int → Int → SS → Prop} (r1 : rng x1) (r2 : rng x2) (r3 : rng x3) (r4 : rng x4) (r5 : rng x5) (r6 : rng x6) (hb : iBook s) (hk : ∀ r s', rng r → iBook s' → frm [1, 7, 29, 36] [18, 19, 20, 21, 22, 23, 24, 25, 26, 60, 61, 62, 75, 76, 77, 78, 79, 80, 81] s s' → grw s s' → K r r s') : Sp_LS_word x1 x2 x3 x4 x5 x6 s (fun a s1 => Sp_Md_word x1 x2 x3 x4 x5 x6 s1 (fun b s2 => K a b s2)) := by
  obtain ⟨b1, b2, b3, b4, b5, b6, b7, b8, b9, b10, b11, b12, b13, b14⟩ := id hb
  have stay : ∀ v : Int, rng v → K v v s := fun v hv => hk v s hv hb (frm_rf _ _ s) (grw_rf s)
  have no1 : ¬ wC1 (s.1 4) (s.1 7) x1 x2 x6 → Sp_Md_word x1 x2 x3 x4 x5 x6 s (fun b s2 => K (-1) b s2) := fun h => Md_word_ok r1 r2 r3 r4 r5 r6 (by omega) (by omega) (by omega) (fun _ => stay _ (by decide)) (fun q => absurd q (by rw [← b2.1, ← b3.1]; exact h)) (fun q => absurd q (by rw [← b2.1, ← b3.1]; exact h)) (fun q => absurd q (by rw [← b2.1, ← b3.1]; exact h))
  have no2 : wC1 (s.1 4) (s.1 7) x1 x2 x6 → ¬ wC2 x3 x4 x5 → Sp_Md_word x1 x2 x3 x4 x5 x6 s (fun b s2 => K (-2) b s2) := fun h h2 => Md_word_ok r1 r2 r3 r4 r5 r6 (by omega) (by omega) (by omega) (fun q => absurd (by rw [← b2.1, ← b3.1]; exact h) q) (fun _ _ => stay _ (by decide)) (fun _ q => absurd q h2) (fun _ q => absurd q h2)
  have no4 : wC1 (s.1 4) (s.1 7) x1 x2 x6 → wC2 x3 x4 x5 → (s.1 7 = 40 ∨ s.1 1 = 200) → Sp_Md_word x1 x2 x3 x4 x5 x6 s (fun b s2 => K (-4) b s2) := fun h h2 h4 => Md_word_ok r1 r2 r3 r4 r5 r6 (by omega) (by omega) (by omega) (fun q => absurd (by rw [← b2.1, ← b3.1]; exact h) q) (fun _ q => absurd h2 q) (fun _ _ _ => stay _ (by decide)) (fun _ _ q => absurd (by omega) q)
  refine ⟨r1, fun c => no1 (fun q => by have := q.1; omega), fun c => ⟨r1, fun d => no1 (fun q => by have := q.1; omega), fun d => isB_b (LS_isName_B r2 hb) (fun c2 => no1 (fun q => c2 q.2.1)) (fun c2 => ⟨r6, fun f => no1 (fun q => by have := q.2.2; omega), fun f => ⟨r6, ⟨by omega, by omega⟩, fun g => ?_, fun g => no1 (fun q => by have := q.2.2; omega)⟩⟩)⟩⟩
  have q1 : wC1 (s.1 4) (s.1 7) x1 x2 x6 := ⟨by omega, c2, by omega⟩
  refine ⟨r3, fun c3 => no2 q1 (fun q => by have := q.1; omega), fun c3 => ⟨r3, fun d3 => isB_a (LS_isWatch_B r4 s) (fun c4 => no2 q1 (fun q => c4 (by have := q.2; omega))) (fun c4 => isB_a (LS_isWatch_B r5 s) (fun c5 => no2 q1 (fun q => c5 (by have := q.2; omega))) (fun c5 => ⟨r4, r5, fun f5 => ?_, fun f5 => no2 q1 (fun q => by have := q.2; omega)⟩)), fun d3 => no2 q1 (fun q => by have := q.1; omega)⟩⟩
  have q2 : wC2 x3 x4 x5 := ⟨by omega, by omega⟩
  refine ⟨⟨by omega, by omega⟩, fun f => no4 q1 q2 (by omega), fun f => isB_a (LS_bookIsFull_B b1.2) (fun nf => ?_) (fun ff => no4 q1 q2 (Or.inr ff))⟩
  -- it comes
  have iW : 0 ≤ s.1 7 ∧ s.1 7 < 40 := by omega
  have comes : ∀ (v : Int) (t : SS), t = sF (sA (sA (sA (sA (sA (sA s 18 (s.1 7) x1) 19 (s.1 7) x2) 25 (s.1 7) (s.1 1)) 26 (s.1 7) 201) 23 (s.1 7) x6) 24 (s.1 7) v) 7 (s.1 7 + 1) → v = (if 0 ≤ x6 then s.2 24 x6 else s.1 7) → Sp_Wo_placeAt (s.1 7) x3 x4 x5 t (fun s15 => ∀ s16, s16 = sF s15 1 ((s15.1 1) + 1) → Sp_Md_word x1 x2 x3 x4 x5 x6 s16 (fun b s2 => K (s.1 7) b s2)) := by
    intro v t ht hv
    refine ⟨iW, fun t1 h1 => ⟨iW, fun t2 h2 => ⟨iW, fun t3 h3 t4 h4 => ?_⟩⟩⟩
    have e4 : t4 = sF (sA (sA (sA (sF (sA (sA (sA (sA (sA (sA s 18 (s.1 7) x1) 19 (s.1 7) x2) 25 (s.1 7) (s.1 1)) 26 (s.1 7) 201) 23 (s.1 7) x6) 24 (s.1 7) v) 7 (s.1 7 + 1)) 20 (s.1 7) x3) 21 (s.1 7) x4) 22 (s.1 7) x5) 1 (s.1 1 + 1) := by rw [h4, h3, h2, h1, ht]; rfl
    have f4 : frm [1, 7] [18, 19, 20, 21, 22, 23, 24, 25, 26] s t4 := by
      rw [e4]
      repeat (first | refine frm_tr ?_ (frm_A _ _ _ (by decide)) | refine frm_tr ?_ (frm_F _ _ (by decide)))
      exact frm_rf _ _ _
    have g1 : t4.1 1 = s.1 1 + 1 := by rw [e4, sF_s]
    have g7 : t4.1 7 = s.1 7 + 1 := by rw [e4, sF_n _ _ (by decide)]; rfl
    have g18 : t4.2 18 = updF (s.2 18) (s.1 7) x1 := by
      rw [e4]
      repeat (first | rw [sA_u] | rw [sA_n _ _ _ (by decide)] | rw [sF_2])
    have g19 : t4.2 19 = updF (s.2 19) (s.1 7) x2 := by
      rw [e4]
      repeat (first | rw [sA_u] | rw [sA_n _ _ _ (by decide)] | rw [sF_2])
    have g20 : t4.2 20 = updF (s.2 20) (s.1 7) x3 := by
      rw [e4]
      repeat (first | rw [sA_u] | rw [sA_n _ _ _ (by decide)] | rw [sF_2])
    have g21 : t4.2 21 = updF (s.2 21) (s.1 7) x4 := by
      rw [e4]
      repeat (first | rw [sA_u] | rw [sA_n _ _ _ (by decide)] | rw [sF_2])
    have g22 : t4.2 22 = updF (s.2 22) (s.1 7) x5 := by
      rw [e4]
      repeat (first | rw [sA_u] | rw [sA_n _ _ _ (by decide)] | rw [sF_2])
    have g23 : t4.2 23 = updF (s.2 23) (s.1 7) x6 := by
      rw [e4]
      repeat (first | rw [sA_u] | rw [sA_n _ _ _ (by decide)] | rw [sF_2])
    have g24 : t4.2 24 = updF (s.2 24) (s.1 7) v := by
      rw [e4]
      repeat (first | rw [sA_u] | rw [sA_n _ _ _ (by decide)] | rw [sF_2])
    have g25 : t4.2 25 = updF (s.2 25) (s.1 7) (s.1 1) := by
      rw [e4]
      repeat (first | rw [sA_u] | rw [sA_n _ _ _ (by decide)] | rw [sF_2])
    have g26 : t4.2 26 = updF (s.2 26) (s.1 7) 201 := by
      rw [e4]
      repeat (first | rw [sA_u] | rw [sA_n _ _ _ (by decide)] | rw [sF_2])
    have m29 : t4.1 29 = s.1 1 := by rw [f4.1 29 rfl, b1.1]
    have m31 : t4.1 31 = s.1 4 := by rw [f4.1 31 rfl, b2.1]
    have m36 : t4.1 36 = s.1 7 := by rw [f4.1 36 rfl, b3.1]
    refine Md_word_ok r1 r2 r3 r4 r5 r6 (by omega) (by omega) (by omega) (fun q => absurd (by rw [m31, m36]; exact q1) q) (fun _ q => absurd q2 q) (fun _ _ q => absurd q (by omega)) (fun _ _ _ s' hf' w29 w36 w60 w61 w62 w75 w76 w77 w78 w79 w80 w81 => ?_)
    rw [m29] at w29 w60 w61 w62
    rw [m36] at w36 w61 w75 w76 w77 w78 w79 w80 w81 ⊢
    have ff : frm [1, 7, 29, 36] [18, 19, 20, 21, 22, 23, 24, 25, 26, 60, 61, 62, 75, 76, 77, 78, 79, 80, 81] s s' := frm_tr (frm_mono f4 (by decide) (by decide)) (frm_mono hf' (by decide) (by decide))
    have u1 : s'.1 1 = s.1 1 + 1 := by rw [hf'.1 1 rfl, g1]
    have u7 : s'.1 7 = s.1 7 + 1 := by rw [hf'.1 7 rfl, g7]
    have nE := (b6.2 x2 c2.1 c2.2).2.1
    refine hk _ s' ⟨by omega, by omega⟩ ⟨⟨by omega, by omega, by omega⟩, ?_, ⟨by omega, by omega, by omega⟩, ?_, ?_, ?_⟩ ff (grw_u (by rw [w60, f4.2 60 rfl]) b1.1 (by omega))
    · rw [ff.1 4 rfl, ff.1 31 rfl]; exact b2
    · rw [ff.1 18 rfl, ff.1 39 rfl]; exact b4
    · rw [ff.1 5 rfl, u1]; omega
    · rw [w60, w61, w62, u1, u7, ff.2 8 rfl, ff.1 4 rfl, hf'.2 25 rfl, g25, ff.2 39 rfl, ff.1 18 rfl, ff.2 9 rfl, ff.2 10 rfl, ff.2 11 rfl, ff.2 12 rfl, ff.1 5 rfl, hf'.2 26 rfl, g26, hf'.2 18 rfl, g18, hf'.2 19 rfl, g19, hf'.2 20 rfl, g20, hf'.2 21 rfl, g21, hf'.2 22 rfl, g22, hf'.2 23 rfl, g23, hf'.2 24 rfl, g24, w75, w76, w77, w78, w79, w80, w81, f4.2 60 rfl, f4.2 61 rfl, f4.2 62 rfl, f4.2 75 rfl, f4.2 76 rfl, f4.2 77 rfl, f4.2 78 rfl, f4.2 79 rfl, f4.2 80 rfl, f4.2 81 rfl, hv, b14.1, b14.2.1, b14.2.2.1, b14.2.2.2.1, b14.2.2.2.2.1, b14.2.2.2.2.2.1, b14.2.2.2.2.2.2]
      rw [b14.1, b14.2.1, b14.2.2.1, b14.2.2.2.1, b14.2.2.2.2.1, b14.2.2.2.2.2.1, b14.2.2.2.2.2.2] at b13
      exact ⟨bkN_o b6 b1.2.1 (by decide), bkN_s b7 b1.2.1, bkN_o b8 b1.2.1 (by decide), bkD_o b9 b1.2.1 (by decide) (Int.le_refl _) (fun _ _ _ => rfl), bkW_o b10 (by decide) (by omega) (fun w w0 w1 => ⟨updF_n _ _ (by omega), updF_n _ _ (by omega)⟩) (fun w w0 w1 => by rw [show w = s.1 7 by omega, updF_s]), bkR_o b11 (by decide), typ_o b12 (by decide), bkO_s b13 iW.1 (by omega) c2 nE q2.1 q2.2 q1.2.2, ⟨rfl, rfl, rfl, rfl, rfl, rfl, rfl⟩⟩
  refine ⟨iW, fun s1 h1 => ?_⟩
  have p1 : s1.1 = s.1 := by rw [h1]; rfl
  rw [p1]
  refine ⟨iW, fun s2 h2 => ?_⟩
  have p2 : s2.1 = s.1 := by rw [h2]; exact p1
  rw [p2]
  refine ⟨iW, fun s3 h3 => ?_⟩
  have p3 : s3.1 = s.1 := by rw [h3]; exact p2
  rw [p3]
  refine ⟨iW, fun s4 h4 => ?_⟩
  have p4 : s4.1 = s.1 := by rw [h4]; exact p3
  rw [p4]
  refine ⟨iW, fun s5 h5 => ?_⟩
  have p5 : s5.1 = s.1 := by rw [h5]; exact p4
  rw [p5]
  have e24 : s5.2 24 = s.2 24 := by
    rw [h5, h4, h3, h2, h1]
    repeat (first | rw [sA_n _ _ _ (by decide)])
  refine ⟨r6, fun z => ⟨by omega, iW, fun s6 h6 s7 h7 => ?_⟩, fun z => ⟨iW, fun s6 h6 s7 h7 => ?_⟩⟩
  · have p6 : s6.1 = s.1 := by rw [h6]; exact p5
    have p7 : s7.1 7 - 1 = s.1 7 := by rw [h7, sF_s, p6]; omega
    rw [p7]
    exact comes (s5.2 24 x6) s7 (by rw [h7, p6, h6, h5, h4, h3, h2, h1]) (by rw [if_pos z, e24])
  · have p6 : s6.1 = s.1 := by rw [h6]; exact p5
    have p7 : s7.1 7 - 1 = s.1 7 := by rw [h7, sF_s, p6]; omega
    rw [p7]
    exact comes (s.1 7) s7 (by rw [h7, p6, h6, h5, h4, h3, h2, h1]) (by rw [if_neg (by omega)])
end
