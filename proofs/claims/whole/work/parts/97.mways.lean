section
/-! GRAVES: the model's ways -/
/-- what one set's row adds, for all up to m -/
def sS (G : Nat → Nat → Bool) (f : Nat → Nat) (M : Nat) (r : List Nat) (j m k : Nat) : Nat := sumN (fun m => if G j m = true ∧ k.testBit (f m) = false then Vw G f M r (wth k.testBit (f m)) else 0) m
theorem sS_all (G : Nat → Nat → Bool) (f : Nat → Nat) (M : Nat) (r : List Nat) (j k : Nat) : sS G f M r j M k = Vw G f M (j :: r) k.testBit := rfl
def capd (c : Int → Int) (w : Nat → Nat) : Prop := ∀ k : Nat, k < 1024 → c k = min (w k : Int) 1000000
theorem Md_waysOf_ok {N which one alone : Int} {s t : SS} {P : Int → Int} {G : Nat → Nat → Bool} {f : Nat → Nat} {Q : Int → SS → Prop} (h : iGrv N s) (hN : s.1 4 ≤ 20) (hag : agr mgSc mgAr s t) (h72 : ∀ a, 0 ≤ a → a < s.1 4 → t.2 72 a = P a) (hr : ∀ a, 0 ≤ a → a < s.1 4 → rng (P a)) (h110 : ∀ m : Nat, (m : Int) < s.1 27 → t.2 110 m = (f m : Int) ∧ f m < 10) (hG : ∀ k m : Nat, (k : Int) < s.1 25 → (m : Int) < s.1 27 → (G k m = true ↔ mayG s P k m ∧ ((k : Int) ≠ one ∨ (m : Int) = alone))) (r1 : rng one) (r2 : rng alone) (w0 : 0 ≤ which) (w1 : which < 2147483648) (hk : ∀ u, frm [] [111, 112] t u → Q (min (Vw G f (s.1 27).toNat (lsf which.toNat.testBit 0 (s.1 25).toNat) (fun _ => false) : Nat) 1000000) u) : Sp_Md_waysOf which one alone t Q := by
  have g1 := h.1
  have g2 := h.2.1
  intro X3 X37 X61 X100 X149 X257 h3 h37 h61 h100 h149 h257
  have agu : ∀ {u : SS}, frm [] [111, 112] t u → agr mgSc mgAr s u := fun {u} hu => ⟨fun k hk => by rw [hu.1 k rfl]; exact hag.1 k hk, fun j hj => by
    have : ∀ j ∈ mgAr, ([111, 112] : List Nat).contains j = false := by decide
    rw [hu.2 j (this j hj)]; exact hag.2 j hj⟩
  have e46 : ∀ {u : SS}, frm [] [111, 112] t u → u.1 46 = s.1 25 := fun {u} hu => by rw [(agu hu).1 46 (by decide)]; exact g1.1.symm
  have e47 : ∀ {u : SS}, frm [] [111, 112] t u → u.1 47 = s.1 27 := fun {u} hu => by rw [(agu hu).1 47 (by decide)]; exact g2.1.symm
  -- the sum of all
  have l257 : ∀ (T : Nat) (w : Nat → Nat) (u : SS), frm [] [111, 112] t u → capd (u.2 111) w → sumN w 1024 = T → Q (min (T : Int) 1000000) u → ∀ (b k : Nat), k ≤ 1024 → 1024 - k < b → X257 (min (sumN w k : Int) 1000000) k u := by
    intro T w u hu hc hT hq b
    induction b with
    | zero => intro k a c; omega
    | succ b ih =>
      intro k k1 kb
      refine h257 _ _ _ ⟨⟨by omega, by omega⟩, fun c => ?_, fun c => ?_⟩
      · have e : k = 1024 := by omega
        rw [e, hT]; exact hq
      · have nx := ih (k + 1) (by omega) (by omega)
        have ck := hc k (by omega)
        rw [sumN_s, show ((k + 1 : Nat) : Int) = (k : Int) + 1 by omega] at nx
        rw [ck]
        refine ⟨⟨by omega, by omega⟩, ⟨by omega, by omega⟩, fun d => ⟨⟨by omega, by omega⟩, ?_⟩, fun d => ?_⟩
        · rw [show min ((sumN w k + w k : Nat) : Int) 1000000 = min (sumN w k : Int) 1000000 + min (w k : Int) 1000000 by omega] at nx
          exact nx
        · rw [show min ((sumN w k + w k : Nat) : Int) 1000000 = 1000000 by omega] at nx
          exact nx
  have l37 : ∀ (b : Nat) (j : Nat) (w : Nat → Nat) (u : SS), (j : Int) ≤ s.1 25 → s.1 25 - j < b → frm [] [111, 112] t u → capd (u.2 111) w → sumN (fun k => w k * Vw G f (s.1 27).toNat (lsf which.toNat.testBit j ((s.1 25).toNat - j)) k.testBit) 1024 = Vw G f (s.1 27).toNat (lsf which.toNat.testBit 0 (s.1 25).toNat) (fun _ => false) → X37 which one alone j u := by
    intro b
    induction b with
    | zero => intro j w u a c; omega
    | succ b ih =>
      intro j w u j1 jb hfu hcp hsum
      refine h37 _ _ _ _ _ ⟨⟨by omega, by omega⟩, by rw [e46 hfu]; exact ⟨by omega, by omega⟩, fun c => ?_, fun c => ?_⟩
      · rw [e46 hfu] at c
        rw [show (s.1 25).toNat - j = 0 by omega] at hsum
        have e : sumN w 1024 = Vw G f (s.1 27).toNat (lsf which.toNat.testBit 0 (s.1 25).toNat) (fun _ => false) := by
          rw [← hsum]
          exact sumN_c 1024 (fun k _ => (Nat.mul_one _).symm)
        have := l257 _ w u hfu hcp e (hk u hfu) 1025 0 (by omega) (by omega)
        exact this
      · rw [e46 hfu] at c
        have bo := bit_ok (x := which) (k := j) w0 w1 (by omega) (by omega)
        rw [show ((j : Int)).toNat = j by omega] at bo
        have en : (s.1 25).toNat - j = (s.1 25).toNat - (j + 1) + 1 := by omega
        rw [bo]
        refine ⟨by split <;> decide, fun d => ?_, fun d => ?_⟩
        · have hb : which.toNat.testBit j = true := by
            by_cases z : which.toNat.testBit j = true
            · exact z
            · rw [if_neg z] at d; exact absurd rfl d
          rw [en, show lsf which.toNat.testBit j ((s.1 25).toNat - (j + 1) + 1) = j :: lsf which.toNat.testBit (j + 1) ((s.1 25).toNat - (j + 1)) from if_pos hb] at hsum
          -- this set's row
          generalize hrr : lsf which.toNat.testBit (j + 1) ((s.1 25).toNat - (j + 1)) = rr at hsum ih
          have l100 : ∀ (b' : Nat) (m : Nat) (w' : Nat → Nat) (u' : SS), (m : Int) ≤ s.1 27 → s.1 27 - m < b' → frm [] [111, 112] t u' → capd (u'.2 112) w → capd (u'.2 111) w' → sumN (fun k => w' k * Vw G f (s.1 27).toNat rr k.testBit) 1024 = sumN (fun k => w k * sS G f (s.1 27).toNat rr j m k) 1024 → X100 which one alone j m u' := by
            intro b'
            induction b' with
            | zero => intro m w' u' a c'; omega
            | succ b' ih2 =>
              intro m w' u' m1 mb hfu' hcB hcW heq
              refine h100 _ _ _ _ _ _ ⟨⟨by omega, by omega⟩, by rw [e47 hfu']; exact ⟨by omega, by omega⟩, fun e => ?_, fun e => ?_⟩
              · rw [e47 hfu'] at e
                have nx := ih (j + 1) w' u' (by omega) (by omega) hfu' hcW (by
                  rw [hrr, heq, ← hsum]
                  refine sumN_c 1024 (fun k _ => ?_)
                  rw [show m = (s.1 27).toNat by omega, sS_all])
                rw [show ((j + 1 : Nat) : Int) = (j : Int) + 1 by omega] at nx
                exact nx
              · rw [e47 hfu'] at e
                have skip : G j m = false → X100 which one alone j ((m : Int) + 1) u' := fun hg => by
                  have nx := ih2 (m + 1) w' u' (by omega) (by omega) hfu' hcB hcW (by
                    rw [heq]
                    refine sumN_c 1024 (fun k _ => ?_)
                    have : sS G f (s.1 27).toNat rr j (m + 1) k = sS G f (s.1 27).toNat rr j m k + if G j m = true ∧ k.testBit (f m) = false then Vw G f (s.1 27).toNat rr (wth k.testBit (f m)) else 0 := rfl
                    rw [this, if_neg (fun q => by rw [hg] at q; exact absurd q.1 (by decide)), Nat.add_zero])
                  rw [show ((m + 1 : Nat) : Int) = (m : Int) + 1 by omega] at nx
                  exact nx
                obtain ⟨f1, f2⟩ := h110 m e
                have e110 : u'.2 110 m = (f m : Int) := by rw [hfu'.2 110 rfl]; exact f1
                have take : G j m = true → X149 which one alone j m (shl 1 (u'.2 110 m)) 0 u' := by
                  intro hg
                  rw [e110]
                  have l149 : ∀ (b2 : Nat) (k0 : Nat) (w2 : Nat → Nat) (v : SS), k0 ≤ 1024 → 1024 - k0 < b2 → frm [] [111, 112] t v → capd (v.2 112) w → capd (v.2 111) w2 → sumN (fun k => w2 k * Vw G f (s.1 27).toNat rr k.testBit) 1024 = sumN (fun k => w k * sS G f (s.1 27).toNat rr j m k) 1024 + sumN (fun k => if k.testBit (f m) = false then w k * Vw G f (s.1 27).toNat rr (wth k.testBit (f m)) else 0) k0 → X149 which one alone j m (shl 1 (f m)) k0 v := by
                    intro b2
                    induction b2 with
                    | zero => intro k0 w2 v a c'; omega
                    | succ b2 ih3 =>
                      intro k0 w2 v k01 kb hfv hcB2 hcW2 heq2
                      refine h149 _ _ _ _ _ _ _ _ ⟨⟨by omega, by omega⟩, fun z => ?_, fun z => ?_⟩
                      · have nx := ih2 (m + 1) w2 v (by omega) (by omega) hfv hcB2 hcW2 (by
                          rw [heq2, show k0 = 1024 by omega, ← sumN_add]
                          refine sumN_c 1024 (fun k _ => ?_)
                          have : sS G f (s.1 27).toNat rr j (m + 1) k = sS G f (s.1 27).toNat rr j m k + if G j m = true ∧ k.testBit (f m) = false then Vw G f (s.1 27).toNat rr (wth k.testBit (f m)) else 0 := rfl
                          rw [this]
                          by_cases y : k.testBit (f m) = false
                          · rw [if_pos y, if_pos ⟨hg, y⟩, Nat.mul_add]
                          · rw [if_neg y, if_neg (fun q => y q.2), Nat.add_zero, Nat.add_zero])
                        rw [show ((m + 1 : Nat) : Int) = (m : Int) + 1 by omega] at nx
                        exact nx
                      · have bn := bnd1_ok (x := k0) (k := f m) (by omega) (by omega) (by omega) (by omega)
                        have bo2 := bor1_ok (x := k0) (k := f m) (by omega) (by omega) (by omega) (by omega)
                        rw [show ((k0 : Int)).toNat = k0 by omega, show ((f m : Int)).toNat = f m by omega] at bn bo2
                        have nxt : ∀ (w3 : Nat → Nat) (v' : SS), frm [] [111, 112] t v' → capd (v'.2 112) w → capd (v'.2 111) w3 → sumN (fun k => w3 k * Vw G f (s.1 27).toNat rr k.testBit) 1024 = sumN (fun k => w2 k * Vw G f (s.1 27).toNat rr k.testBit) 1024 + (if k0.testBit (f m) = false then w k0 * Vw G f (s.1 27).toNat rr (wth k0.testBit (f m)) else 0) → X149 which one alone j m (shl 1 (f m)) ((k0 : Int) + 1) v' := fun w3 v' q1 q2 q3 q4 => by
                          have nx := ih3 (k0 + 1) w3 v' (by omega) (by omega) q1 q2 q3 (by rw [q4, heq2, sumN_s _ k0]; omega)
                          rw [show ((k0 + 1 : Nat) : Int) = (k0 : Int) + 1 by omega] at nx
                          exact nx
                        have cB := hcB2 k0 (by omega)
                        refine ⟨⟨by omega, by omega⟩, fun y => nxt w2 v hfv hcB2 hcW2 (by rw [if_neg (fun q => y (bn.2.mpr q))]; omega), fun y => ⟨⟨by omega, by omega⟩, by rw [cB]; exact ⟨by omega, by omega⟩, fun x => ?_, fun x => ?_⟩⟩
                        · rw [cB] at x
                          have wz : w k0 = 0 := by omega
                          exact nxt w2 v hfv hcB2 hcW2 (by rw [wz, Nat.zero_mul]; split <;> omega)
                        · have hbit := bn.2.mp y
                          have ei : bor (k0 : Int) (shl 1 (f m)) = (((bor (k0 : Int) (shl 1 (f m))).toNat : Nat) : Int) := by omega
                          have cI := hcW2 (bor (k0 : Int) (shl 1 (f m))).toNat (by omega)
                          rw [← ei] at cI
                          have up : ∀ (val : Int) (v' : SS), v' = sA v 111 (bor (k0 : Int) (shl 1 (f m))) val → val = min ((w2 (bor (k0 : Int) (shl 1 (f m))).toNat + w k0 : Nat) : Int) 1000000 → X149 which one alone j m (shl 1 (f m)) ((k0 : Int) + 1) v' := by
                            intro val v' hv' hval
                            refine nxt (fun k => if k = (bor (k0 : Int) (shl 1 (f m))).toNat then w2 k + w k0 else w2 k) v' (by rw [hv']; exact frm_tr hfv (frm_A _ _ _ (by decide))) (by rw [hv', sA_n _ _ _ (by decide)]; exact hcB2) (fun k hk1 => ?_) ?_
                            · rw [hv', sA_s]
                              by_cases q : k = (bor (k0 : Int) (shl 1 (f m))).toNat
                              · rw [if_pos (by omega), hval]
                                show _ = min (((if k = (bor (k0 : Int) (shl 1 (f m))).toNat then w2 k + w k0 else w2 k) : Nat) : Int) 1000000
                                rw [if_pos q, q]
                              · rw [if_neg (by omega)]
                                show _ = min (((if k = (bor (k0 : Int) (shl 1 (f m))).toNat then w2 k + w k0 else w2 k) : Nat) : Int) 1000000
                                rw [if_neg q]
                                exact hcW2 k hk1
                            · rw [sumN_up, if_pos (by omega), if_pos hbit, bo2.2.2]
                          have bi := bo2.1
                          rw [cI, cB]
                          refine ⟨by omega, ⟨by omega, by omega⟩, ⟨by omega, by omega⟩, fun q => ⟨by omega, ⟨by omega, by omega⟩, by omega, fun s7 h7 => ?_⟩, fun q => ⟨by omega, fun s8 h8 => ?_⟩⟩
                          · exact up _ s7 h7 (by omega)
                          · exact up _ s8 h8 (by omega)
                  exact l149 1025 0 w' u' (by omega) (by omega) hfu' hcB hcW (by rw [heq]; exact (Nat.add_zero _).symm)
                have hgm := hG j m c e
                refine Md_mayGet_B h hN (agu hfu') (fun a a0 a1 => by rw [hfu'.2 72 rfl]; exact h72 a a0 a1) hr (by omega) c (by omega) e _ (fun my => ⟨by decide, fun q => absurd q (by decide), fun _ => ⟨⟨by omega, by omega⟩, r1, fun q => ⟨by omega, take (hgm.mpr ⟨my, Or.inl q⟩)⟩, fun q => ⟨⟨by omega, by omega⟩, r2, fun z => ⟨by omega, take (hgm.mpr ⟨my, Or.inr z⟩)⟩, fun z => skip (by
                  cases y : G j m
                  · rfl
                  · rcases (hgm.mp y).2 with x | x
                    · exact absurd q x
                    · exact absurd x z)⟩⟩⟩) (fun mn => ⟨by decide, fun _ => skip (by
                  cases y : G j m
                  · rfl
                  · exact absurd (hgm.mp y).1 mn), fun q => absurd rfl q⟩)
          -- first the row is put aside
          have l61 : ∀ (b' : Nat) (k : Nat) (v : SS), k ≤ 1024 → 1024 - k < b' → frm [] [111, 112] t v → (∀ i : Nat, i < k → v.2 112 i = u.2 111 i ∧ v.2 111 i = 0) → (∀ i : Nat, k ≤ i → i < 1024 → v.2 111 i = u.2 111 i) → X61 which one alone j k v := by
            intro b'
            induction b' with
            | zero => intro k v a c'; omega
            | succ b' ih2 =>
              intro k v k1 kb hfv hlo hhi
              refine h61 _ _ _ _ _ _ ⟨⟨by omega, by omega⟩, fun e => ?_, fun e => ⟨⟨by omega, by omega⟩, ⟨by omega, by omega⟩, fun s3 h3' => ⟨⟨by omega, by omega⟩, fun s4 h4 => ?_⟩⟩⟩
              · have := l100 ((s.1 27).toNat + 1) 0 (fun _ => 0) v (by omega) (by omega) hfv (fun i hi => by rw [(hlo i (by omega)).1]; exact hcp i hi) (fun i hi => by rw [(hlo i (by omega)).2]; rfl) (by
                  rw [show sumN (fun k => 0 * Vw G f (s.1 27).toNat rr k.testBit) 1024 = sumN (fun _ => 0) 1024 from sumN_c 1024 (fun k _ => Nat.zero_mul _)]
                  exact sumN_c 1024 (fun k _ => rfl))
                exact this
              · have e111 : s4.2 111 = updF (v.2 111) k 0 := by rw [h4, sA_u, h3', sA_n _ _ _ (by decide)]
                have e112 : s4.2 112 = updF (v.2 112) k (v.2 111 k) := by rw [h4, sA_n _ _ _ (by decide), h3', sA_u]
                have nx := ih2 (k + 1) s4 (by omega) (by omega) (by rw [h4, h3']; exact frm_tr hfv (frm_tr (frm_A _ _ _ (by decide)) (frm_A _ _ _ (by decide)))) (fun i hi => by
                  rw [e111, e112]
                  by_cases z : i = k
                  · rw [z, updF_s, updF_s]; exact ⟨hhi k (Nat.le_refl _) (by omega), rfl⟩
                  · rw [updF_n _ _ (by omega), updF_n _ _ (by omega)]; exact hlo i (by omega)) (fun i i0 i1 => by rw [e111, updF_n _ _ (by omega)]; exact hhi i (by omega) i1)
                rw [show ((k + 1 : Nat) : Int) = (k : Int) + 1 by omega] at nx
                exact nx
          exact l61 1025 0 u (by omega) (by omega) hfu (fun i hi => by omega) (fun _ _ _ => rfl)
        · have hb : ¬ which.toNat.testBit j = true := fun z => by rw [if_pos z] at d; exact absurd d (by decide)
          rw [en, show lsf which.toNat.testBit j ((s.1 25).toNat - (j + 1) + 1) = lsf which.toNat.testBit (j + 1) ((s.1 25).toNat - (j + 1)) from if_neg hb] at hsum
          have nx := ih (j + 1) w u (by omega) (by omega) hfu hcp hsum
          rw [show ((j + 1 : Nat) : Int) = (j : Int) + 1 by omega] at nx
          exact nx
  have l3 : ∀ (b : Nat) (k : Nat) (u : SS), k ≤ 1024 → 1024 - k < b → frm [] [111, 112] t u → (∀ i : Nat, i < k → u.2 111 i = if i = 0 then 1 else 0) → X3 which one alone k u := by
    intro b
    induction b with
    | zero => intro k u a c; omega
    | succ b ih =>
      intro k u k1 kb hfu hlo
      have nxt : k < 1024 → ∀ (v : Int) (u' : SS), u' = sA u 111 k v → v = (if k = 0 then 1 else 0) → X3 which one alone ((k : Int) + 1) u' := fun hlt v u' hu' hv => by
        have nx := ih (k + 1) u' (by omega) (by omega) (by rw [hu']; exact frm_tr hfu (frm_A _ _ _ (by decide))) (fun i hi => by
          rw [hu', sA_s]
          by_cases z : i = k
          · rw [if_pos (by omega), hv, z]
          · rw [if_neg (by omega)]; exact hlo i (by omega))
        rw [show ((k + 1 : Nat) : Int) = (k : Int) + 1 by omega] at nx
        exact nx
      refine h3 _ _ _ _ _ ⟨⟨by omega, by omega⟩, fun c => ?_, fun c => ⟨⟨by omega, by omega⟩, fun d => ⟨⟨by omega, by omega⟩, fun s1 h1 => nxt (by omega) 0 s1 h1 (by rw [if_neg (by omega)])⟩, fun d => ⟨⟨by omega, by omega⟩, fun s2 h2 => nxt (by omega) 1 s2 h2 (by rw [if_pos (by omega)])⟩⟩⟩
      have := l37 ((s.1 25).toNat + 1) 0 (fun i => if i = 0 then 1 else 0) u (by omega) (by omega) hfu (fun i hi => by
        rw [hlo i (by omega)]
        show _ = min (((if i = 0 then 1 else 0) : Nat) : Int) 1000000
        by_cases z : i = 0
        · rw [if_pos z, if_pos z]; rfl
        · rw [if_neg z, if_neg z]; rfl) (by
        rw [Nat.sub_zero]
        have key : ∀ m : Nat, sumN (fun k => (if k = 0 then 1 else 0) * Vw G f (s.1 27).toNat (lsf which.toNat.testBit 0 (s.1 25).toNat) k.testBit) (m + 1) = Vw G f (s.1 27).toNat (lsf which.toNat.testBit 0 (s.1 25).toNat) (Nat.testBit 0) := by
          intro m
          induction m with
          | zero => rw [sumN_s, if_pos rfl, Nat.one_mul]; exact Nat.zero_add _
          | succ m ih => rw [sumN_s, ih, if_neg (by omega), Nat.zero_mul, Nat.add_zero]
        rw [key 1023]
        congr 1
        funext i
        exact Nat.zero_testBit i)
      exact this
  exact l3 1025 0 t (by omega) (by omega) (frm_rf _ _ _) (fun i hi => by omega)
end
