section
/-! KEYS: the model's steps, and that both find one KEY -/
def plF (c : Int) : Int := if c = 113 ∨ c = 107 then 99 else if c = 122 then 115 else if c = 121 ∨ c = 106 then 105 else if c = 119 then 118 else c
def keyF (l : List Int) : List Int := gF drV 0 [] (gF drT 0 [] (gF drH 0 [] (blR (l.map plF))))
theorem plF_ltr {c : Int} (h : 97 ≤ c ∧ c ≤ 122) : 97 ≤ plF c ∧ plF c ≤ 122 := by unfold plF; (repeat' split) <;> omega
theorem map_ltr {l : List Int} (h : ltr l) : ltr (l.map plF) := by
  intro v hv
  obtain ⟨c, hc, rfl⟩ := List.mem_map.mp hv
  exact plF_ltr (h c hc)
theorem gF_ltr {dr : Nat → List Int → Int → Bool} {l : List Int} (h : ltr l) : ltr (gF dr 0 [] l) := fun v hv => (gF_mem dr l 0 [] v hv).elim (fun q => by cases q) (h v)
theorem gF_len0 (dr : Nat → List Int → Int → Bool) (l : List Int) : (gF dr 0 [] l).length ≤ l.length := by
  have := gF_len dr l 0 []
  have e : ([] : List Int).length = 0 := rfl
  omega
theorem blR_both : ∀ (n : Nat) (l : List Int), l.length ≤ n → (blR l).length ≤ l.length ∧ (ltr l → ltr (blR l)) := by
  intro n
  induction n with
  | zero =>
    intro l hl
    have e : l = [] := List.length_eq_zero_iff.mp (by omega)
    subst e
    exact ⟨Nat.le_refl _, id⟩
  | succ n ih =>
    intro l hl
    cases l with
    | nil => exact ⟨Nat.le_refl _, id⟩
    | cons c t =>
      cases t with
      | nil => exact ⟨Nat.le_refl _, id⟩
      | cons d t =>
        rw [List.length_cons, List.length_cons] at hl
        by_cases h : c = 112 ∧ d = 104
        · have e : blR (c :: d :: t) = 102 :: blR t := if_pos h
          have := ih t (by omega)
          rw [e, List.length_cons, List.length_cons, List.length_cons]
          refine ⟨by omega, fun q v hv => ?_⟩
          rcases List.mem_cons.mp hv with rfl | hv
          · decide
          · exact this.2 (fun w hw => q w (List.mem_cons_of_mem _ (List.mem_cons_of_mem _ hw))) v hv
        · have e : blR (c :: d :: t) = c :: blR (d :: t) := if_neg h
          have := ih (d :: t) (by rw [List.length_cons]; omega)
          rw [e, List.length_cons, List.length_cons]
          refine ⟨by have := this.1; omega, fun q v hv => ?_⟩
          rcases List.mem_cons.mp hv with rfl | hv
          · exact q _ (List.mem_cons_self ..)
          · exact this.2 (fun w hw => q w (List.mem_cons_of_mem _ hw)) v hv
theorem keyF_ok {l : List Int} (h : ltr l) : ltr (keyF l) ∧ (keyF l).length ≤ l.length := by
  have b := blR_both _ (l.map plF) (Nat.le_refl _)
  have e : (l.map plF).length = l.length := List.length_map ..
  refine ⟨gF_ltr (gF_ltr (gF_ltr (b.2 (map_ltr h)))), ?_⟩
  have g1 := gF_len0 drH (blR (l.map plF))
  have g2 := gF_len0 drT (gF drH 0 [] (blR (l.map plF)))
  have g3 := gF_len0 drV (gF drT 0 [] (gF drH 0 [] (blR (l.map plF))))
  unfold keyF
  omega
/-- the model's marks: ph made f and nothing -/
def mkR : List Int → List Int
  | [] => []
  | [c] => [c]
  | c :: d :: t => if c = 112 ∧ d = 104 then 102 :: 0 :: mkR t else c :: mkR (d :: t)
theorem mkR_0 (t : List Int) : mkR (0 :: t) = 0 :: mkR t := by
  cases t with
  | nil => rfl
  | cons d t => exact if_neg (fun q => absurd q.1 (by decide))
theorem mkR_len : ∀ (n : Nat) (l : List Int), l.length ≤ n → (mkR l).length = l.length := by
  intro n
  induction n with
  | zero =>
    intro l hl
    have e : l = [] := List.length_eq_zero_iff.mp (by omega)
    subst e
    rfl
  | succ n ih =>
    intro l hl
    cases l with
    | nil => rfl
    | cons c t =>
      cases t with
      | nil => rfl
      | cons d t =>
        rw [List.length_cons, List.length_cons] at hl
        by_cases h : c = 112 ∧ d = 104
        · have e : mkR (c :: d :: t) = 102 :: 0 :: mkR t := if_pos h
          rw [e, List.length_cons, List.length_cons, List.length_cons, List.length_cons, ih t (by omega)]
        · have e : mkR (c :: d :: t) = c :: mkR (d :: t) := if_neg h
          rw [e, List.length_cons, ih (d :: t) (by rw [List.length_cons]; omega)]
          rfl
theorem mkR_rng : ∀ (n : Nat) (l : List Int), l.length ≤ n → ltr l → ∀ v ∈ mkR l, 0 ≤ v ∧ v ≤ 122 := by
  intro n
  induction n with
  | zero =>
    intro l hl
    have e : l = [] := List.length_eq_zero_iff.mp (by omega)
    subst e
    intro _ v hv
    cases hv
  | succ n ih =>
    intro l hl q
    cases l with
    | nil => intro v hv; cases hv
    | cons c t =>
      cases t with
      | nil =>
        intro v hv
        have := q v hv
        omega
      | cons d t =>
        rw [List.length_cons, List.length_cons] at hl
        by_cases h : c = 112 ∧ d = 104
        · have e : mkR (c :: d :: t) = 102 :: 0 :: mkR t := if_pos h
          rw [e]
          intro v hv
          rcases List.mem_cons.mp hv with rfl | hv
          · decide
          · rcases List.mem_cons.mp hv with rfl | hv
            · decide
            · exact ih t (by omega) (fun w hw => q w (List.mem_cons_of_mem _ (List.mem_cons_of_mem _ hw))) v hv
        · have e : mkR (c :: d :: t) = c :: mkR (d :: t) := if_neg h
          rw [e]
          intro v hv
          rcases List.mem_cons.mp hv with rfl | hv
          · have := q _ (List.mem_cons_self ..)
            omega
          · exact ih (d :: t) (by rw [List.length_cons]; omega) (fun w hw => q w (List.mem_cons_of_mem _ hw)) v hv
theorem gF_drZ : ∀ (l : List Int) (i : Nat) (acc : List Int), gF drZ i acc l = acc ++ l.filter (fun c => decide (c ≠ 0)) := by
  intro l
  induction l with
  | nil => intro i acc; exact (List.append_nil acc).symm
  | cons c t ih =>
    intro i acc
    rw [gF_c, ih]
    by_cases h : c = 0
    · subst h
      rfl
    · rw [if_neg (by unfold drZ; rw [decide_eq_true_eq]; exact h), List.filter_cons_of_pos (by rw [decide_eq_true_eq]; exact h), List.append_assoc]
      rfl
theorem mkR_bl : ∀ (n : Nat) (l : List Int), l.length ≤ n → ltr l → (mkR l).filter (fun c => decide (c ≠ 0)) = blR l := by
  intro n
  induction n with
  | zero =>
    intro l hl _
    have e : l = [] := List.length_eq_zero_iff.mp (by omega)
    subst e
    rfl
  | succ n ih =>
    intro l hl q
    cases l with
    | nil => rfl
    | cons c t =>
      have hc : c ≠ 0 := by have := q c (List.mem_cons_self ..); omega
      cases t with
      | nil =>
        show [c].filter _ = [c]
        rw [List.filter_cons_of_pos (by rw [decide_eq_true_eq]; exact hc)]
        rfl
      | cons d t =>
        rw [List.length_cons, List.length_cons] at hl
        by_cases h : c = 112 ∧ d = 104
        · have e : mkR (c :: d :: t) = 102 :: 0 :: mkR t := if_pos h
          have e2 : blR (c :: d :: t) = 102 :: blR t := if_pos h
          rw [e, e2, List.filter_cons_of_pos (by decide), List.filter_cons_of_neg (by decide), ih t (by omega) (fun w hw => q w (List.mem_cons_of_mem _ (List.mem_cons_of_mem _ hw)))]
        · have e : mkR (c :: d :: t) = c :: mkR (d :: t) := if_neg h
          have e2 : blR (c :: d :: t) = c :: blR (d :: t) := if_neg h
          rw [e, e2, List.filter_cons_of_pos (by rw [decide_eq_true_eq]; exact hc), ih (d :: t) (by rw [List.length_cons]; omega) (fun w hw => q w (List.mem_cons_of_mem _ hw))]
theorem gF_drU {l : List Int} (h : ltr l) : ∀ (t : Nat) (i : Nat) (acc : List Int), i + t = l.length → (i = 0 → acc = []) → (0 < i → 0 < acc.length ∧ acc.getD (acc.length - 1) 0 = l.getD (i - 1) 0) → gF (drU l) i acc (l.drop i) = gF drT i acc (l.drop i) := by
  intro t
  induction t with
  | zero =>
    intro i acc h1 _ _
    have e : i = l.length := by omega
    subst e
    rw [List.drop_length]
    rfl
  | succ t ih =>
    intro i acc h1 h2 h3
    have hi : i < l.length := by omega
    rw [drop_get hi, gF_c, gF_c]
    have hl := h _ (getD_mem hi)
    have e : drU l i acc (l.getD i 0) = drT i acc (l.getD i 0) := by
      unfold drU drT bef
      by_cases hz : i = 0
      · rw [if_pos hz, h2 hz]
        rw [decide_eq_false (by omega), decide_eq_false (by intro q; exact absurd q.1 (by decide))]
      · have := h3 (by omega)
        rw [if_neg hz, ← this.2]
        by_cases q : l.getD i 0 = acc.getD (acc.length - 1) 0
        · rw [decide_eq_true q, decide_eq_true ⟨this.1, q.symm⟩]
        · rw [decide_eq_false q, decide_eq_false (fun z => q z.2.symm)]
    rw [e]
    have hlast : drT i acc (l.getD i 0) = true → 0 < acc.length ∧ acc.getD (acc.length - 1) 0 = l.getD i 0 := fun q => of_decide_eq_true q
    refine ih (i + 1) _ (by omega) (fun q => by omega) (fun _ => ?_)
    rw [show i + 1 - 1 = i by omega]
    split
    · next q => exact hlast q
    · rw [List.length_append]
      refine ⟨Nat.succ_pos _, ?_⟩
      show (acc ++ [l.getD i 0]).getD (acc.length + 1 - 1) 0 = _
      rw [Nat.add_sub_cancel, getD_app_eq]
theorem Md_drops_ok {step : Int} {l : List Int} {dr : Nat → List Int → Int → Bool} {s : SS} {Q : SS → Prop} (hdr : (step = 0 ∧ dr = drZ) ∨ (step = 1 ∧ dr = drH) ∨ (step = 2 ∧ dr = drU l) ∨ (step = 3 ∧ dr = drV)) (hl : ∀ v ∈ l, 0 ≤ v ∧ v ≤ 122) (hn : l.length ≤ 12) (hz : s.1 32 = (l.length : Int)) (hp : pre (s.2 66) l)
    (hk : ∀ s', frm [32] [66] s s' → s'.1 32 = ((gF dr 0 [] l).length : Int) → pre (s'.2 66) (gF dr 0 [] l) → Q s') : Sp_Md_drops step s Q := by
  intro X7 X105 h7 h105
  have := cmp_loop 66 l dr (fun k i s1 => X7 step (k : Int) (bef l i) (i : Int) s1) s (fun acc s1 hf hpr e => ?_) (fun i acc s1 hi hle hpr hv hm he k1 k2 hf => ?_) l.length 0 [] s (by omega) (frm_rf _ _ s) (Nat.le_refl _) (fun i h => absurd h (Nat.not_lt_zero _)) (fun j _ h => hp j h) (fun v h => by cases h) (by rw [List.drop_zero])
  · exact this
  · have e32 : s1.1 32 = (l.length : Int) := by rw [hf.1 32 rfl, hz]
    refine h7 _ _ _ _ _ ⟨⟨by omega, by omega⟩, by rw [e32]; exact ⟨by omega, by omega⟩, fun _ s2 h2 => ?_, fun c => by omega⟩
    subst e
    refine hk s2 (by rw [h2]; exact frm_tr (frm_mono hf (by decide) (fun _ h => h)) (frm_F s1 _ (by decide))) (by rw [h2, sF_s]) (by rw [h2, sF_2]; exact hpr)
  · have e32 : s1.1 32 = (l.length : Int) := by rw [hf.1 32 rfl, hz]
    have hr0 := hl _ (getD_mem hi)
    have hr : rng (l.getD i 0) := ⟨by omega, by omega⟩
    have hbf : bef l (i + 1) = l.getD i 0 := by unfold bef; rw [if_neg (by omega)]; rfl
    have kd : dr i acc (l.getD i 0) = true → X105 step (acc.length : Int) (i : Int) (l.getD i 0) 1 s1 := fun hd => h105 _ _ _ _ _ _ ⟨by decide, fun c => absurd c (by decide), fun _ => by
      have := k1 hd
      rw [hbf] at this
      exact this⟩
    have kk : dr i acc (l.getD i 0) = false → X105 step (acc.length : Int) (i : Int) (l.getD i 0) 0 s1 := fun hd => h105 _ _ _ _ _ _ ⟨by decide, fun _ => ⟨by omega, fun s2 h2 => by
      have := k2 hd s2 h2
      rw [hbf] at this
      exact this⟩, fun c => absurd rfl c⟩
    have hbr : rng (bef l i) := by
      unfold bef
      split
      · decide
      · have := hl _ (getD_mem (l := l) (i := i - 1) (by omega))
        exact ⟨by omega, by omega⟩
    refine h7 _ _ _ _ _ ⟨⟨by omega, by omega⟩, by rw [e32]; exact ⟨by omega, by omega⟩, fun c => by omega, fun _ => ⟨by omega, ?_⟩⟩
    rw [hv]
    rcases hdr with ⟨rfl, rfl⟩ | ⟨rfl, rfl⟩ | ⟨rfl, rfl⟩ | ⟨rfl, rfl⟩
    · refine ⟨by decide, fun _ => ⟨by decide, fun _ => ⟨by decide, fun _ => ⟨hr, fun c => kk (decide_eq_false c), fun c => kd (decide_eq_true c)⟩, fun c => absurd c (by decide)⟩, fun c => absurd c (by decide)⟩, fun c => absurd c (by decide)⟩
    · refine ⟨by decide, fun c => absurd rfl c, fun _ => ⟨hr, fun c => kk (decide_eq_false (fun q => c q.2)), fun c => ⟨⟨by omega, by omega⟩, fun d => kk (decide_eq_false (fun q => by omega)), fun d => kd (decide_eq_true ⟨by omega, c⟩)⟩⟩⟩
    · refine ⟨by decide, fun _ => ⟨by decide, fun c => absurd rfl c, fun _ => ⟨hr, hbr, fun c => kk (decide_eq_false c), fun c => kd (decide_eq_true c)⟩⟩, fun c => absurd c (by decide)⟩
    · refine ⟨by decide, fun _ => ⟨by decide, fun _ => ⟨by decide, fun c => absurd rfl c, fun _ => ?_⟩, fun c => absurd c (by decide)⟩, fun c => absurd c (by decide)⟩
      refine isB_a (Md_isVowel_B hr s1) (fun d => kk ?_) (fun d => ⟨⟨by omega, by omega⟩, fun c => kk ?_, fun c => kd ?_⟩)
      · unfold drV
        rw [Bool.eq_false_iff.mpr d, Bool.and_false]
      · unfold drV
        rw [decide_eq_false (by omega), Bool.false_and]
      · unfold drV
        rw [decide_eq_true (by omega), d]
        rfl
theorem pre_2 {f g : Int → Int} {done t : List Int} {c d : Int} (h : pre f (done ++ c :: d :: t)) (hg : ∀ x, g x = if x = (done.length : Int) + 1 then 0 else if x = (done.length : Int) then 102 else f x) : pre g ((done ++ [102]) ++ 0 :: t) := by
  intro i hi
  rw [hg]
  rw [List.length_append, List.length_append] at hi
  have hi : i < done.length + 1 + (t.length + 1) := hi
  have hh := h i (by rw [List.length_append]; show i < done.length + (t.length + 1 + 1); omega)
  rw [List.getD_eq_getElem?_getD] at hh ⊢
  by_cases h1 : i < done.length
  · rw [if_neg (by omega), if_neg (by omega), hh, List.getElem?_append_left h1, List.getElem?_append_left (by rw [List.length_append]; exact Nat.lt_succ_of_lt h1), List.getElem?_append_left h1]
  · by_cases h2 : i = done.length
    · subst h2
      rw [if_neg (by omega), if_pos rfl, List.getElem?_append_left (by rw [List.length_append]; exact Nat.lt_succ_self _), List.getElem?_append_right (Nat.le_refl _), Nat.sub_self]
      rfl
    · obtain ⟨k, rfl⟩ : ∃ k, i = done.length + 1 + k := ⟨i - done.length - 1, by omega⟩
      rw [List.getElem?_append_right (by rw [List.length_append]; show done.length + 1 ≤ _; omega)]
      rw [List.length_append, show done.length + 1 + k - (done.length + [(102 : Int)].length) = k by show done.length + 1 + k - (done.length + 1) = k; omega]
      cases k with
      | zero => rw [if_pos (by omega)]; rfl
      | succ k =>
        rw [if_neg (by omega), if_neg (by omega), hh, List.getElem?_append_right (by omega), show done.length + 1 + (k + 1) - done.length = k + 2 by omega]
        rfl
theorem Md_plain_ok {c : Int} {s : SS} {K : Int → SS → Prop} (h : rng c) (hk : K (plF c) s) : Sp_Md_plain c s K := by
  obtain ⟨a, b⟩ := h
  have hk' : ∀ v : Int, v = plF c → K v s := fun v e => by rw [e]; exact hk
  unfold Sp_Md_plain
  (repeat' first | apply And.intro | intro _) <;> first | omega | exact hk' _ (by unfold plF; (repeat' split) <;> omega)
theorem Na_alike_ok {c : Int} {s : SS} {K : Int → SS → Prop} (h : rng c) (hk : K (plF c) s) : Sp_Na_alike c s K := by
  obtain ⟨a, b⟩ := h
  have hk' : ∀ v : Int, v = plF c → K v s := fun v e => by rw [e]; exact hk
  unfold Sp_Na_alike
  (repeat' first | apply And.intro | intro _) <;> first | omega | exact hk' _ (by unfold plF; (repeat' split) <;> omega)
theorem Md_findKey_ok {n : Int} {l : List Int} {s : SS} {Q : SS → Prop} (hn : 0 ≤ n ∧ n < 20) (hl : ltr l) (h12 : l.length ≤ 12) (hz : s.1 30 = (l.length : Int)) (hp : pre (s.2 63) l)
    (hk : ∀ s', frm [32] [64, 65, 66] s s' → s'.2 65 = updF (s.2 65) n ((keyF l).length : Int) → (∀ i : Nat, i < (keyF l).length → s'.2 64 (12 * n + i) = (keyF l).getD i 0 - 97) → (∀ x, x < 12 * n → s'.2 64 x = s.2 64 x) → Q s') : Sp_Md_findKey n s Q := by
  intro X10 X41 X103 X131 h10 h41 h103 h131
  intro s0 hs0
  have g32 : s0.1 32 = (l.length : Int) := by rw [hs0, sF_s, hz]
  have g30 : s0.1 30 = (l.length : Int) := by rw [hs0, sF_n _ _ (by decide), hz]
  have g63 : s0.2 63 = s.2 63 := by rw [hs0]; rfl
  have f0 : frm [32] [64, 65, 66] s s0 := by rw [hs0]; exact frm_F s _ (by decide)
  have kl := keyF_ok hl
  -- the copy
  have c131 : ∀ (t i : Nat) (s1 : SS), i + t = (keyF l).length → frm [32] [64, 65, 66] s s1 → s1.1 32 = ((keyF l).length : Int) → pre (s1.2 66) (keyF l) → s1.2 65 = updF (s.2 65) n ((keyF l).length : Int) → (∀ j : Nat, j < i → s1.2 64 (12 * n + j) = (keyF l).getD j 0 - 97) → (∀ x, x < 12 * n → s1.2 64 x = s.2 64 x) → X131 n (i : Int) s1 := by
    intro t
    induction t with
    | zero =>
      intro i s1 hi hf e1 e2 e3 e4 e5
      refine h131 _ _ _ ⟨⟨by omega, by omega⟩, by rw [e1]; exact ⟨by omega, by omega⟩, fun _ => hk s1 hf e3 (fun j hj => e4 j (by omega)) e5, fun c => by omega⟩
    | succ t ih =>
      intro i s1 hi hf e1 e2 e3 e4 e5
      refine h131 _ _ _ ⟨⟨by omega, by omega⟩, by rw [e1]; exact ⟨by omega, by omega⟩, fun c => by omega, fun _ => ⟨by omega, by omega, fun s2 h2 => ?_⟩⟩
      have e64 : ∀ x, s2.2 64 x = if x = 12 * n + (i : Int) then s1.2 66 (i : Int) - 97 else s1.2 64 x := by intro x; rw [h2, sA_s]
      refine ih (i + 1) s2 (by omega) (by rw [h2]; exact frm_tr hf (frm_A s1 _ _ (by decide))) (by rw [h2, sA_1, e1]) (by rw [h2, sA_n _ _ _ (by decide)]; exact e2) (by rw [h2, sA_n _ _ _ (by decide), e3]) (fun j hj => ?_) (fun x hx => ?_)
      · rw [e64]
        by_cases q : j = i
        · subst q
          rw [if_pos rfl, e2 j (by omega)]
        · rw [if_neg (by omega)]
          exact e4 j (by omega)
      · rw [e64, if_neg (by omega)]
        exact e5 x hx
  have c103 : ∀ s1 : SS, frm [32] [66] s0 s1 → s1.1 32 = (l.length : Int) → pre (s1.2 66) (mkR (l.map plF)) → X103 n 0 s1 := by
    intro s1 hf1 e1 p1
    have ml : (l.map plF).length = l.length := List.length_map ..
    have hml := map_ltr hl
    have mk1 := mkR_len _ (l.map plF) (Nat.le_refl _)
    have bl := blR_both _ (l.map plF) (Nat.le_refl _)
    have eZ : gF drZ 0 [] (mkR (l.map plF)) = blR (l.map plF) := by
      rw [gF_drZ, List.nil_append, mkR_bl _ _ (Nat.le_refl _) hml]
    have hb := bl.2 hml
    have l1 := gF_len0 drH (blR (l.map plF))
    have l2 := gF_len0 drT (gF drH 0 [] (blR (l.map plF)))
    have eU : gF (drU (gF drH 0 [] (blR (l.map plF)))) 0 [] (gF drH 0 [] (blR (l.map plF))) = gF drT 0 [] (gF drH 0 [] (blR (l.map plF))) := by
      have := gF_drU (gF_ltr (dr := drH) hb) _ 0 [] (Nat.zero_add _) (fun _ => rfl) (fun q => absurd q (Nat.lt_irrefl 0))
      rwa [List.drop_zero] at this
    have lw : ∀ {l : List Int}, ltr l → ∀ v ∈ l, 0 ≤ v ∧ v ≤ 122 := fun h v hv => by have := h v hv; omega
    refine h103 _ _ _ ⟨by decide, fun c => absurd c (by decide), fun _ => Md_drops_ok (Or.inl ⟨rfl, rfl⟩) (mkR_rng _ _ (Nat.le_refl _) hml) (by omega) (by rw [e1]; omega) p1 (fun s2 hf2 q2 p2 => ?_)⟩
    rw [eZ] at q2 p2
    refine h103 _ _ _ ⟨by decide, fun c => absurd c (by decide), fun _ => Md_drops_ok (Or.inr (Or.inl ⟨rfl, rfl⟩)) (lw hb) (by omega) q2 p2 (fun s3 hf3 q3 p3 => ?_)⟩
    refine h103 _ _ _ ⟨by decide, fun c => absurd c (by decide), fun _ => Md_drops_ok (Or.inr (Or.inr (Or.inl ⟨rfl, rfl⟩))) (lw (gF_ltr hb)) (by omega) q3 p3 (fun s4 hf4 q4 p4 => ?_)⟩
    rw [eU] at q4 p4
    refine h103 _ _ _ ⟨by decide, fun c => absurd c (by decide), fun _ => Md_drops_ok (Or.inr (Or.inr (Or.inr ⟨rfl, rfl⟩))) (lw (gF_ltr (gF_ltr hb))) (by omega) q4 p4 (fun s5 hf5 q5 p5 => ?_)⟩
    have q5 : s5.1 32 = ((keyF l).length : Int) := q5
    have p5 : pre (s5.2 66) (keyF l) := p5
    have hff : frm [32] [64, 65, 66] s s5 := frm_tr f0 (frm_mono (frm_tr (frm_tr (frm_tr (frm_tr hf1 hf2) hf3) hf4) hf5) (by decide) (by decide))
    have e65 : s5.2 65 = s.2 65 := by rw [hf5.2 65 rfl, hf4.2 65 rfl, hf3.2 65 rfl, hf2.2 65 rfl, hf1.2 65 rfl, hs0]; rfl
    have e64 : s5.2 64 = s.2 64 := by rw [hf5.2 64 rfl, hf4.2 64 rfl, hf3.2 64 rfl, hf2.2 64 rfl, hf1.2 64 rfl, hs0]; rfl
    refine h103 _ _ _ ⟨by decide, fun _ => ⟨hn, fun s7 h7 => ?_⟩, fun c => absurd c (by decide)⟩
    refine c131 _ 0 s7 (Nat.zero_add _) (by rw [h7]; exact frm_tr hff (frm_A s5 _ _ (by decide))) (by rw [h7, sA_1, q5]) (by rw [h7, sA_n _ _ _ (by decide)]; exact p5) (by rw [h7, sA_u, e65, q5]) (fun j hj => absurd hj (Nat.not_lt_zero _)) (fun x _ => by rw [h7, sA_n _ _ _ (by decide), e64])
  have c41 : ∀ (t : Nat) (done r : List Int) (s1 : SS), r.length ≤ t → done.length + r.length = l.length → (∀ v ∈ r, 0 ≤ v ∧ v ≤ 122) → frm [32] [66] s0 s1 → s1.1 32 = (l.length : Int) → pre (s1.2 66) (done ++ r) → done ++ mkR r = mkR (l.map plF) → X41 n (done.length : Int) s1 := by
    intro t
    induction t with
    | zero =>
      intro done r s1 ht hlen hr hf e1 hpr he
      have e : r = [] := List.length_eq_zero_iff.mp (by omega)
      subst e
      have hlen : done.length + 0 = l.length := hlen
      have e30 : s1.1 30 = (l.length : Int) := by rw [hf.1 30 rfl, g30]
      refine h41 _ _ _ ⟨⟨by omega, by omega⟩, by rw [e30]; exact ⟨by omega, by omega⟩, fun _ => c103 s1 hf e1 (by rw [← he]; exact hpr), fun c => by omega⟩
    | succ t ih =>
      intro done r s1 ht hlen hr hf e1 hpr he
      have e30 : s1.1 30 = (l.length : Int) := by rw [hf.1 30 rfl, g30]
      match r, ht, hlen, hr, hpr, he with
      | [], ht, hlen, hr, hpr, he =>
        have hlen : done.length + 0 = l.length := hlen
        exact h41 _ _ _ ⟨⟨by omega, by omega⟩, by rw [e30]; exact ⟨by omega, by omega⟩, fun _ => c103 s1 hf e1 (by rw [← he]; exact hpr), fun c => by omega⟩
      | [c], ht, hlen, hr, hpr, he =>
        have hlen : done.length + 1 = l.length := hlen
        exact h41 _ _ _ ⟨⟨by omega, by omega⟩, by rw [e30]; exact ⟨by omega, by omega⟩, fun _ => c103 s1 hf e1 (by rw [← he]; exact hpr), fun c => by omega⟩
      | c :: d :: r, ht, hlen, hr, hpr, he =>
        have hlen : done.length + (r.length + 1 + 1) = l.length := hlen
        have ht : r.length + 1 + 1 ≤ t + 1 := ht
        have vc : s1.2 66 (done.length : Int) = c := by
          rw [hpr done.length (by rw [List.length_append]; show done.length < done.length + (r.length + 1 + 1); omega), List.getD_eq_getElem?_getD, List.getElem?_append_right (Nat.le_refl _), Nat.sub_self]
          rfl
        have vd : s1.2 66 ((done.length : Int) + 1) = d := by
          rw [show (done.length : Int) + 1 = ((done.length + 1 : Nat) : Int) by omega, hpr (done.length + 1) (by rw [List.length_append]; show done.length + 1 < done.length + (r.length + 1 + 1); omega), List.getD_eq_getElem?_getD, List.getElem?_append_right (by omega), show done.length + 1 - done.length = 1 by omega]
          rfl
        have rc := hr c (List.mem_cons_self ..)
        have rd := hr d (List.mem_cons_of_mem _ (List.mem_cons_self ..))
        have plain : ¬ (c = 112 ∧ d = 104) → X41 n ((done.length : Int) + 1) s1 := by
          intro h
          have e : mkR (c :: d :: r) = c :: mkR (d :: r) := if_neg h
          rw [e] at he
          have := ih (done ++ [c]) (d :: r) s1 (by rw [List.length_cons]; omega) (by rw [List.length_append]; show done.length + 1 + (r.length + 1) = _; omega) (fun v hv => hr v (List.mem_cons_of_mem _ hv)) hf e1 (by rw [List.append_assoc]; exact hpr) (by rw [List.append_assoc]; exact he)
          rw [List.length_append] at this
          exact this
        refine h41 _ _ _ ⟨⟨by omega, by omega⟩, by rw [e30]; exact ⟨by omega, by omega⟩, fun c => by omega, fun _ => ⟨by omega, by rw [vc]; exact ⟨by omega, by omega⟩, fun c1 => plain (fun q => c1 (by rw [vc]; exact q.1)), fun c1 => ⟨by omega, by rw [vd]; exact ⟨by omega, by omega⟩, fun c2 => ⟨by omega, fun s5 h5 => ⟨by omega, fun s6 h6 => ?_⟩⟩, fun c2 => plain (fun q => c2 (by rw [vd]; exact q.2))⟩⟩⟩
        rw [vc] at c1
        rw [vd] at c2
        have e : mkR (c :: d :: r) = 102 :: 0 :: mkR r := if_pos ⟨c1, c2⟩
        rw [e] at he
        have g66 : ∀ x, s6.2 66 x = if x = (done.length : Int) + 1 then 0 else if x = (done.length : Int) then 102 else s1.2 66 x := by intro x; rw [h6, sA_s, h5, sA_s]
        have := ih (done ++ [102]) (0 :: r) s6 (by rw [List.length_cons]; omega) (by rw [List.length_append]; show done.length + 1 + (r.length + 1) = _; omega) (fun v hv => by
          rcases List.mem_cons.mp hv with rfl | hv
          · decide
          · exact hr v (List.mem_cons_of_mem _ (List.mem_cons_of_mem _ hv))) (by rw [h6, h5]; exact frm_tr (frm_tr hf (frm_A s1 _ _ (by decide))) (frm_A _ _ _ (by decide))) (by rw [h6, sA_1, h5, sA_1, e1]) (pre_2 hpr g66) (by rw [mkR_0, List.append_assoc]; exact he)
        rw [List.length_append] at this
        exact this
  have c10 : ∀ (t i : Nat) (s1 : SS), i + t = l.length → frm [32] [66] s0 s1 → s1.1 32 = (l.length : Int) → (∀ j : Nat, j < i → s1.2 66 (j : Int) = (l.map plF).getD j 0) → X10 n (i : Int) s1 := by
    intro t
    induction t with
    | zero =>
      intro i s1 hi hf e1 e2
      have e30 : s1.1 30 = (l.length : Int) := by rw [hf.1 30 rfl, g30]
      refine h10 _ _ _ ⟨⟨by omega, by omega⟩, by rw [e30]; exact ⟨by omega, by omega⟩, fun _ => ?_, fun c => by omega⟩
      have ml : (l.map plF).length = l.length := List.length_map ..
      exact c41 _ [] (l.map plF) s1 (Nat.le_refl _) (by rw [ml]; exact Nat.zero_add _) (fun v hv => by have := map_ltr hl v hv; omega) hf e1 (fun j hj => e2 j (by rw [List.nil_append, ml] at hj; omega)) rfl
    | succ t ih =>
      intro i s1 hi hf e1 e2
      have e30 : s1.1 30 = (l.length : Int) := by rw [hf.1 30 rfl, g30]
      have il : i < l.length := by omega
      have e63 : s1.2 63 (i : Int) = l.getD i 0 := by rw [hf.2 63 rfl, g63, hp i il]
      refine h10 _ _ _ ⟨⟨by omega, by omega⟩, by rw [e30]; exact ⟨by omega, by omega⟩, fun c => by omega, fun _ => ⟨by omega, ?_⟩⟩
      rw [e63]
      refine Md_plain_ok (ltr_rng hl il) ⟨by omega, fun s4 h4 => ?_⟩
      refine ih (i + 1) s4 (by omega) (by rw [h4]; exact frm_tr hf (frm_A s1 _ _ (by decide))) (by rw [h4, sA_1, e1]) (fun j hj => ?_)
      rw [h4, sA_s]
      by_cases q : j = i
      · subst q
        rw [if_pos rfl, List.getD_eq_getElem?_getD, List.getD_eq_getElem?_getD, List.getElem?_map, List.getElem?_eq_getElem il]
        rfl
      · rw [if_neg (by omega)]
        exact e2 j (by omega)
  exact c10 l.length 0 s0 (Nat.zero_add _) (frm_rf _ _ s0) g32 (fun j hj => absurd hj (Nat.not_lt_zero _))
end
