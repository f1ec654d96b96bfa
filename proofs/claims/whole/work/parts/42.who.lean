section
/-! link, person, count 2 -/
def qN : List Nat := [6, 33, 34, 35]
def qA : List Nat := [13, 14, 15, 16, 67, 68, 69, 70, 72, 73, 74]
/-- what the model's looking changes -/
def mN : List Nat := [33, 34, 35]
def mA : List Nat := [67, 68, 69, 70, 72, 73, 74]
theorem mq {s t : SS} (h : frm mN mA s t) : frm qN qA s t := frm_mono h (by decide) (by decide)
theorem dg_m {s t : SS} (h : frm mN mA s t) : dg s t := fun u _ _ => by rw [h.2 13 rfl]
theorem dg_rf (s : SS) : dg s s := fun _ _ _ => rfl
theorem dg_tr {s t u : SS} (h : dg s t) (g : dg t u) : dg s u := fun x a b => (g x a b).trans (h x a b)
theorem LS_upTo_ok {x : Int} {s : SS} {Q : Int → SS → Prop} (hx : rng x) (h : 0 ≤ s.1 1 ∧ s.1 1 ≤ 200) (hk : ∀ e, (e = -1 ∧ ¬ (-1 ≤ x ∧ x ≤ s.1 1)) ∨ (0 ≤ e ∧ e ≤ s.1 1 ∧ -1 ≤ x ∧ x ≤ s.1 1 ∧ (0 ≤ x → e = x) ∧ (x < 0 → e = s.1 1)) → Q e s) : Sp_LS_upTo x s Q := by
  have hx' := hx
  obtain ⟨x0, x1⟩ := hx'
  exact ⟨hx, fun c => ⟨hx, fun d => hk _ (Or.inl ⟨rfl, by omega⟩), fun d => ⟨hx, ⟨by omega, by omega⟩, fun f => hk _ (Or.inr (by omega)), fun f => hk _ (Or.inl ⟨rfl, by omega⟩)⟩⟩, fun c => hk _ (Or.inr (by omega))⟩
theorem Md_isTold_B {x : Int} {s : SS} (hx : rng x) (h : 0 ≤ s.1 29 ∧ s.1 29 ≤ 200) : isB (-1 ≤ x ∧ x ≤ s.1 29) s (Sp_Md_isTold x s) := by
  intro K h1 h0
  exact ⟨hx, ⟨by omega, by omega⟩, Md_isIn_B hx (by decide) ⟨by omega, by omega⟩ s _ (fun q => ⟨Or.inr rfl, h1 q⟩) (fun q => ⟨Or.inl rfl, h0 q⟩)⟩
theorem Md_by_ok {x e : Int} {s : SS} {Q : Int → SS → Prop} (hx : rng x) (he : (0 ≤ x → e = x) ∧ (x < 0 → e = s.1 29)) (hk : Q e s) : Sp_Md_by x s Q := by
  refine ⟨hx, fun c => ?_, fun c => ?_⟩
  · rw [← he.1 c]; exact hk
  · rw [← he.2 c]; exact hk
def okE (s : SS) (x e : Int) : Prop := 0 ≤ e ∧ e ≤ s.1 1 ∧ -1 ≤ x ∧ x ≤ s.1 1 ∧ (0 ≤ x → e = x) ∧ (x < 0 → e = s.1 1)
theorem nm_iff {s : SS} (hb : iBook s) {e a : Int} (e0 : 0 ≤ e) (e1 : e ≤ s.1 1) : (0 ≤ a ∧ a < s.1 4 ∧ s.2 8 a < e) ↔ (0 ≤ a ∧ a < nmBy s e) := by
  obtain ⟨b1, b2, b3, b4, b5, b6, b7, b8, b9, b10, b11, b12, b13, b14⟩ := hb
  have hc := bkN_cnt b6 e0 e1
  have hc : 0 ≤ nmBy s e ∧ nmBy s e ≤ s.1 4 := hc
  constructor
  · intro h
    exact ⟨h.1, (bkN_by b6 e0 e1 h.1 h.2.1).mp h.2.2⟩
  · intro h
    have : a < s.1 4 := by omega
    exact ⟨h.1, this, (bkN_by b6 e0 e1 h.1 this).mpr h.2⟩
def linkR (s : SS) (e a b : Int) : Int := if (0 ≤ a ∧ a < nmBy s e) ∧ (0 ≤ b ∧ b < nmBy s e) then (if a = b then -2 else if lk s e a b = 1 then 1 else 0) else -1
theorem Md_link_ok {a b x e : Int} {s : SS} {Q : Int → SS → Prop} (hb : iBook s) (hy : iKeys s) (ra : rng a) (rb : rng b) (rx : rng x) (he : okE s x e) (hk : ∀ s', frm mN mA s s' → Q (linkR s e a b) s') : Sp_Md_link a b x s Q := by
  obtain ⟨b1, b2, b3, b4, b5, b6, b7, b8, b9, b10, b11, b12, b13, b14⟩ := id hb
  have hc := bkN_cnt b6 he.1 he.2.1
  have hc : 0 ≤ nmBy s e ∧ nmBy s e ≤ s.1 4 := hc
  have no : ∀ {s' : SS}, frm mN mA s s' → ¬ ((0 ≤ a ∧ a < nmBy s e) ∧ (0 ≤ b ∧ b < nmBy s e)) → Q (-1) s' := by
    intro s' hf hn
    have := hk s' hf
    unfold linkR at this
    rw [if_neg hn] at this
    exact this
  refine isB_a (Md_isName_B ra hb) (fun c => no (frm_rf _ _ _) (by omega)) (fun ca => isB_a (Md_isName_B rb hb) (fun c => no (frm_rf _ _ _) (by omega)) (fun cb => isB_b (Md_isTold_B rx (by omega)) (fun c => absurd (show -1 ≤ x ∧ x ≤ s.1 29 by have := he.2.2; omega) c) (fun _ => ?_)))
  refine Md_by_ok rx (show (0 ≤ x → e = x) ∧ (x < 0 → e = s.1 29) by have := he.2.2; omega) ?_
  refine Md_looks_ok hb hy he.1 he.2.1 (fun s1 hf g1 g2 g3 g4 g5 g6 g7 => ?_)
  have hF : frm mN mA s s1 := frm_mono hf (by decide) (by decide)
  have hK := hk s1 hF
  refine ⟨ra, by rw [g1]; exact ⟨by omega, by omega⟩, fun c => no hF (by omega), fun c => ⟨rb, by rw [g1]; exact ⟨by omega, by omega⟩, fun d => ?_, fun d => no hF (by omega)⟩⟩
  rw [g1] at c d
  unfold linkR at hK
  rw [if_pos ⟨⟨ca.1, c⟩, ⟨cb.1, d⟩⟩] at hK
  refine ⟨ra, rb, fun ne => ?_, fun eq => by rw [if_pos eq] at hK; exact hK⟩
  rw [if_neg ne] at hK
  have := (g4 a b ca.1 c cb.1 d ne).1
  rw [this]
  refine ⟨by omega, by split <;> decide, fun q => ?_, fun q => ?_⟩
  · by_cases z : lk s e a b = 1
    · rw [if_pos z] at q; exact absurd q (by decide)
    · rw [if_neg z] at hK; exact hK
  · by_cases z : lk s e a b = 1
    · rw [if_pos z] at hK; exact hK
    · rw [if_neg z] at q; exact absurd rfl q
theorem LS_bit_ok {x : Int} {s : SS} {Q : Int → SS → Prop} (hx : x = 0 ∨ x = 1) (hk : Q x s) : Sp_LS_bit x s Q := by
  refine ⟨⟨by omega, by omega⟩, fun c => ?_, fun c => ?_⟩
  · rw [c] at hk; exact hk
  · have : x = 1 := by omega
    rw [this] at hk; exact hk
theorem noBy {x e : Int} {s : SS} (hb : iBook s) (h : e = -1) : ¬ (0 ≤ x ∧ x < s.1 4 ∧ s.2 8 x < e) := by
  intro q
  have := (hb.2.2.2.2.2.1.2 x q.1 q.2.1).1
  omega
theorem sim_link {a b x : Int} {s : SS} {K : Int → Int → SS → Prop} (ra : rng a) (rb : rng b) (rx : rng x) (hb : iBook s) (hy : iKeys s) (hk : ∀ r s', rng r → dg s s' → frm qN qA s s' → K r r s') : Sp_LS_link a b x s (fun p s1 => Sp_Md_link a b x s1 (fun q s2 => K p q s2)) := by
  have b1 := hb.1
  refine LS_upTo_ok rx b1.2 (fun e he => ?_)
  rcases he with ⟨e1, nt⟩ | he
  · refine isB_a (LS_isNameBy_B ra ⟨by omega, by omega⟩ hb) (fun _ => ?_) (fun q => absurd q (noBy hb e1))
    refine isB_a (Md_isName_B ra hb) (fun _ => hk _ _ (by decide) (dg_rf _) (frm_rf _ _ _)) (fun ca => isB_a (Md_isName_B rb hb) (fun _ => hk _ _ (by decide) (dg_rf _) (frm_rf _ _ _)) (fun cb => isB_b (Md_isTold_B rx (by omega)) (fun _ => hk _ _ (by decide) (dg_rf _) (frm_rf _ _ _)) (fun c => absurd c (by omega))))
  · have no : ¬ ((0 ≤ a ∧ a < nmBy s e) ∧ (0 ≤ b ∧ b < nmBy s e)) → Sp_Md_link a b x s (fun q s2 => K (-1) q s2) := fun hn => Md_link_ok hb hy ra rb rx he (fun s' hf => by
      unfold linkR
      rw [if_neg hn]
      exact hk _ _ (by decide) (dg_m hf) (mq hf))
    refine isB_a (LS_isNameBy_B ra ⟨by have := he.1; omega, by have := he.2.1; omega⟩ hb) (fun c => no (fun q => c ((nm_iff hb he.1 he.2.1).mpr q.1))) (fun ca => isB_b (LS_isNameBy_B rb ⟨by have := he.1; omega, by have := he.2.1; omega⟩ hb) (fun c => no (fun q => c ((nm_iff hb he.1 he.2.1).mpr q.2))) (fun cb => ?_))
    have ca := (nm_iff hb he.1 he.2.1).mp ca
    have cb := (nm_iff hb he.1 he.2.1).mp cb
    have hc := bkN_cnt hb.2.2.2.2.2.1 he.1 he.2.1
    have hc : 0 ≤ nmBy s e ∧ nmBy s e ≤ s.1 4 := hc
    have b2 := hb.2.1
    refine ⟨ra, rb, fun ne => ?_, fun eq => ?_⟩
    · refine Na_readBy_ok hb hy he.1 he.2.1 (fun s1 hf g1 g2 g3 gd => ?_)
      have hF : frm qN qA s s1 := frm_mono hf (by decide) (by decide)
      have hb1 : iBook s1 := iBook_agr (agr_of hF (by decide)) hb
      have hy1 : iKeys s1 := iKeys_agr (agr_of hF (by decide)) hy
      have e11 : s1.1 1 = s.1 1 := hF.1 1 rfl
      have he1 : okE s1 x e := by unfold okE; rw [e11]; exact he
      have n1 : nmBy s1 e = nmBy s e := by unfold nmBy; rw [hF.2 60 rfl]
      have l1 : lk s1 e a b = lk s e a b := lk_agr (agr_of hF (by decide)) e a b
      have fin : ∀ v, v = (if lk s e a b = 1 then 1 else 0) → Sp_Md_link a b x s1 (fun q s2 => K v q s2) := fun v hv => Md_link_ok hb1 hy1 ra rb rx he1 (fun s' hf' => by
        unfold linkR
        rw [n1, if_pos ⟨ca, cb⟩, if_neg ne, l1, ← hv]
        refine hk _ _ ?_ (dg_tr gd (dg_m hf')) (frm_tr hF (mq hf'))
        rw [hv]; split <;> decide)
      have h13 := g2 a b ca.1 ca.2 cb.1 cb.2 ne
      refine ⟨by omega, ?_⟩
      rw [show a * 20 + b = 20 * a + b by omega, h13]
      have := lk_v s e a b
      refine ⟨⟨by omega, by omega⟩, fun q => LS_bit_ok (Or.inl rfl) (fin 0 (by rw [if_neg q])), fun q => LS_bit_ok (Or.inr rfl) (fin 1 (by rw [if_pos q]))⟩
    · refine Md_link_ok hb hy ra rb rx he (fun s' hf => ?_)
      unfold linkR
      rw [if_pos ⟨ca, cb⟩, if_pos eq]
      exact hk _ _ (by decide) (dg_m hf) (mq hf)
theorem Md_isThere_ok {a x e : Int} {s : SS} {Q : Int → SS → Prop} (hb : iBook s) (hy : iKeys s) (ra : rng a) (rx : rng x) (he : okE s x e) (h0 : ¬ (0 ≤ a ∧ a < nmBy s e) → ∀ s', frm mN mA s s' → Q 0 s') (hk : (0 ≤ a ∧ a < nmBy s e) → ∀ s', frm mN mA s s' → isP (linked s e) (nmBy s e) (s'.2 72) → Q 1 s') : Sp_Md_isThere a x s Q := by
  obtain ⟨b1, b2, b3, b4, b5, b6, b7, b8, b9, b10, b11, b12, b13, b14⟩ := id hb
  have hc := bkN_cnt b6 he.1 he.2.1
  have hc : 0 ≤ nmBy s e ∧ nmBy s e ≤ s.1 4 := hc
  refine isB_a (Md_isName_B ra hb) (fun c => h0 (by omega) _ (frm_rf _ _ _)) (fun ca => isB_b (Md_isTold_B rx (by omega)) (fun c => absurd (show -1 ≤ x ∧ x ≤ s.1 29 by have := he.2.2; omega) c) (fun _ => ?_))
  refine Md_by_ok rx (show (0 ≤ x → e = x) ∧ (x < 0 → e = s.1 29) by have := he.2.2; omega) ?_
  refine Md_looks_ok hb hy he.1 he.2.1 (fun s1 hf g1 g2 g3 g4 g5 g6 g7 => ?_)
  have hF : frm mN mA s s1 := frm_mono hf (by decide) (by decide)
  refine ⟨ra, by rw [g1]; exact ⟨by omega, by omega⟩, fun c => h0 (by omega) _ hF, fun c => hk (by omega) s1 hF g5.1⟩
theorem Md_isThere_no {a x : Int} {s : SS} {Q : Int → SS → Prop} (hb : iBook s) (ra : rng a) (rx : rng x) (hn : ¬ (-1 ≤ x ∧ x ≤ s.1 1)) (hk : Q 0 s) : Sp_Md_isThere a x s Q := by
  have b1 := hb.1
  exact isB_a (Md_isName_B ra hb) (fun _ => hk) (fun ca => isB_b (Md_isTold_B rx (by omega)) (fun _ => hk) (fun c => absurd c (by omega)))
theorem Md_person_ok {a x e : Int} {s : SS} {Q : Int → SS → Prop} (hb : iBook s) (hy : iKeys s) (ra : rng a) (rx : rng x) (he : okE s x e) (h0 : ¬ (0 ≤ a ∧ a < nmBy s e) → ∀ s', frm mN mA s s' → Q (-1) s') (hk : (0 ≤ a ∧ a < nmBy s e) → ∀ (P : Int → Int) s', frm mN mA s s' → isP (linked s e) (nmBy s e) P → Q (P a) s') : Sp_Md_person a x s Q := by
  have c2 := hb.2.1
  have c6 := hb.2.2.2.2.2.1
  have hc := bkN_cnt c6 he.1 he.2.1
  have hc : 0 ≤ nmBy s e ∧ nmBy s e ≤ s.1 4 := hc
  exact Md_isThere_ok hb hy ra rx he (fun c s' hf => b0 (h0 c s' hf)) (fun c s' hf hP => b1 ⟨by omega, hk c _ s' hf hP⟩)
theorem sim_person {a x : Int} {s : SS} {K : Int → Int → SS → Prop} (ra : rng a) (rx : rng x) (hb : iBook s) (hy : iKeys s) (hk : ∀ r s', rng r → dg s s' → frm qN qA s s' → K r r s') : Sp_LS_person a x s (fun p s1 => Sp_Md_person a x s1 (fun q s2 => K p q s2)) := by
  have b1 := hb.1
  refine LS_upTo_ok rx b1.2 (fun e he => ?_)
  rcases he with ⟨e1, nt⟩ | he
  · refine isB_b (LS_isNameBy_B ra ⟨by omega, by omega⟩ hb) (fun _ => ?_) (fun q => absurd q (noBy hb e1))
    exact Md_isThere_no hb ra rx nt (b0 (hk _ _ (by decide) (dg_rf _) (frm_rf _ _ _)))
  · refine isB_b (LS_isNameBy_B ra ⟨by have := he.1; omega, by have := he.2.1; omega⟩ hb) (fun c => ?_) (fun ca => ?_)
    · exact Md_person_ok hb hy ra rx he (fun _ s' hf => hk _ _ (by decide) (dg_m hf) (mq hf)) (fun q => absurd ((nm_iff hb he.1 he.2.1).mpr q) c)
    · have ca := (nm_iff hb he.1 he.2.1).mp ca
      have hc := bkN_cnt hb.2.2.2.2.2.1 he.1 he.2.1
      have hc : 0 ≤ nmBy s e ∧ nmBy s e ≤ s.1 4 := hc
      have b2 := hb.2.1
      refine Na_readBy_ok hb hy he.1 he.2.1 (fun s1 hf g1 g2 g3 gd => ⟨by omega, ?_⟩)
      have hF : frm qN qA s s1 := frm_mono hf (by decide) (by decide)
      have hb1 : iBook s1 := iBook_agr (agr_of hF (by decide)) hb
      have hy1 : iKeys s1 := iKeys_agr (agr_of hF (by decide)) hy
      have e11 : s1.1 1 = s.1 1 := hF.1 1 rfl
      have he1 : okE s1 x e := by unfold okE; rw [e11]; exact he
      have n1 : nmBy s1 e = nmBy s e := by unfold nmBy; rw [hF.2 60 rfl]
      have l1 : ∀ u v, lk s1 e u v = lk s e u v := fun u v => lk_agr (agr_of hF (by decide)) e u v
      have L1 : linked s1 e = linked s e := by
        funext u v
        unfold linked
        rw [l1]
      refine Md_person_ok hb1 hy1 ra rx he1 (fun q => absurd ca (by rw [← n1]; exact q)) (fun _ P s' hf' hP => ?_)
      rw [n1, L1] at hP
      have := isP_uniq hP g3 ca.1 ca.2
      rw [this]
      have := g3.2.1 a ca.1 ca.2
      exact hk _ _ ⟨by omega, by omega⟩ (dg_tr gd (dg_m hf')) (frm_tr hF (mq hf'))
/-- persons: NAMES that are their own least -/
def cntS (P : Int → Int) : Nat → Int
  | 0 => 0
  | n + 1 => cntS P n + if P n = n then 1 else 0
theorem cntS_s (P : Int → Int) (n : Nat) : cntS P (n + 1) = cntS P n + if P n = n then 1 else 0 := rfl
theorem cntS_b (P : Int → Int) (n : Nat) : 0 ≤ cntS P n ∧ cntS P n ≤ n := by
  induction n with
  | zero => exact ⟨Int.le_refl _, Int.le_refl _⟩
  | succ n ih => rw [cntS_s]; split <;> omega
theorem cntS_c {P R : Int → Int} : ∀ n : Nat, (∀ x, 0 ≤ x → x < (n : Int) → P x = R x) → cntS P n = cntS R n := by
  intro n
  induction n with
  | zero => intro _; rfl
  | succ n ih =>
    intro h
    rw [cntS_s, cntS_s, ih (fun x a b => h x a (by omega)), h n (by omega) (by omega)]
theorem sim_count2 {s : SS} {K : Int → Int → SS → Prop} (hb : iBook s) (hy : iKeys s) (hk : ∀ r s', rng r → dg s s' → frm qN qA s s' → K r r s') : Sp_LS_count 2 s (fun p s1 => Sp_Md_count 2 s1 (fun q s2 => K p q s2)) := by
  obtain ⟨b1, b2, b3, b4, b5, b6, b7, b8, b9, b10, b11, b12, b13, b14⟩ := id hb
  have nmE : nmBy s (s.1 1) = s.1 4 := b6.1
  refine ⟨by decide, fun c => absurd c (by decide), fun c => absurd c (by decide), fun _ => ?_, fun c => absurd c (by decide), fun c => absurd c (by decide), fun c => absurd c (by decide), fun c => absurd c (by decide), fun c => absurd c (by decide), fun c => absurd c (by decide), fun c => absurd c (by decide), fun c => absurd c (by decide), fun c => absurd c (by decide), fun _ _ c => absurd rfl c⟩
  intro X15 h15
  refine Na_readBy_ok hb hy b1.2.1 (Int.le_refl _) (fun s1 hf g1 g2 g3 gd => ?_)
  have hF : frm qN qA s s1 := frm_mono hf (by decide) (by decide)
  have hb1 : iBook s1 := iBook_agr (agr_of hF (by decide)) hb
  have hy1 : iKeys s1 := iKeys_agr (agr_of hF (by decide)) hy
  have e1 : s1.1 1 = s.1 1 := hF.1 1 rfl
  have e4 : s1.1 4 = s.1 4 := hF.1 4 rfl
  have e29 : s1.1 29 = s.1 1 := by rw [hF.1 29 rfl]; exact b1.1.symm
  -- the model
  have md : Sp_Md_count 2 s1 (fun q s2 => K (cntS (s1.2 14) (s.1 4).toNat) q s2) := by
    intro X84 X148 X192 h84 h148 h192
    refine ⟨by decide, fun c => absurd c (by decide), fun c => absurd c (by decide), fun _ => ?_, fun c => absurd c (by decide), fun c => absurd c (by decide), fun c => absurd c (by decide), fun c => absurd c (by decide), fun c => absurd c (by decide), fun c => absurd c (by decide), fun c => absurd c (by decide), fun c => absurd c (by decide), fun c => absurd c (by decide), fun _ _ c => absurd rfl c⟩
    rw [e29]
    refine Md_looks_ok hb1 hy1 b1.2.1 (by omega) (fun s2 hf2 q1 q2 q3 q4 q5 q6 q7 => ?_)
    have q5 := q5.1
    have n1 : nmBy s1 (s.1 1) = nmBy s (s.1 1) := by unfold nmBy; rw [hF.2 60 rfl]
    have L1 : linked s1 (s.1 1) = linked s (s.1 1) := by
      funext u v
      unfold linked
      rw [lk_agr (agr_of hF (by decide))]
    rw [n1, L1, nmE] at q5
    rw [nmE] at g3
    have e31 : s2.1 31 = s.1 4 := by rw [hf2.1 31 rfl, hF.1 31 rfl]; exact b2.1.symm
    have loop : ∀ (t : Nat) (k : Nat), (k : Int) ≤ s.1 4 → s.1 4 - k < t → X84 (cntS (s1.2 14) k) k s2 := by
      intro t
      induction t with
      | zero => intro k a b; omega
      | succ t ih =>
        intro k k1 ht
        have := cntS_b (s1.2 14) k
        refine h84 _ _ _ ⟨⟨by omega, by omega⟩, by rw [e31]; exact ⟨by omega, by omega⟩, fun d => ?_, fun d => ?_⟩
        · rw [e31] at d
          rw [show k = (s.1 4).toNat by omega]
          refine hk _ _ ?_ (dg_tr gd (fun u _ _ => by rw [hf2.2 13 rfl])) (frm_tr hF (frm_mono hf2 (by decide) (by decide)))
          have := cntS_b (s1.2 14) (s.1 4).toNat
          exact ⟨by omega, by omega⟩
        · rw [e31] at d
          have eq := isP_uniq q5 g3 (x := k) (by omega) d
          have bb := g3.2.1 k (by omega) d
          rw [eq]
          have nx := ih (k + 1) (by omega) (by omega)
          rw [cntS_s] at nx
          refine ⟨by omega, ⟨by omega, by omega⟩, ⟨by omega, by omega⟩, fun f => ?_, fun f => ?_⟩
          · rw [if_neg f] at nx; exact nx
          · rw [if_pos f] at nx; exact nx
    exact loop 100 0 (by omega) (by omega)
  have loop : ∀ (t : Nat) (k : Nat), (k : Int) ≤ s.1 4 → s.1 4 - k < t → X15 (cntS (s1.2 14) k) k s1 := by
    intro t
    induction t with
    | zero => intro k a b; omega
    | succ t ih =>
      intro k k1 ht
      have := cntS_b (s1.2 14) k
      refine h15 _ _ _ ⟨⟨by omega, by omega⟩, by rw [e4]; exact ⟨by omega, by omega⟩, fun d => ?_, fun d => ?_⟩
      · rw [e4] at d
        rw [show k = (s.1 4).toNat by omega]
        exact md
      · rw [e4] at d
        rw [nmE] at g3
        have bb := g3.2.1 k (by omega) d
        have nx := ih (k + 1) (by omega) (by omega)
        rw [cntS_s] at nx
        refine ⟨by omega, ⟨by omega, by omega⟩, ⟨by omega, by omega⟩, fun f => ?_, fun f => ?_⟩
        · rw [if_neg f, Int.add_zero] at nx; exact nx
        · rw [if_pos f] at nx; exact nx
  exact loop 100 0 (by omega) (by omega)
end
