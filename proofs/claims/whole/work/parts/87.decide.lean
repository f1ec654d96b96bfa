section
/-! RULES: how the class decides -/
def bI (b : Bool) : Int := if b = true then 1 else 0
theorem bI_01 (b : Bool) : bI b = 0 ∨ bI b = 1 := by cases b <;> decide
def pick (F : Int → Int) : ClL → Int → Int
  | [], els => els
  | (f, d) :: L, els => if f F = true then d else pick F L els
def gr (s : SS) : GpS → Prop
  | [] => True
  | (a, b, t) :: gs => s.2 40 gs.length = bI a ∧ s.2 41 gs.length = bI b ∧ s.2 42 gs.length = bI t ∧ gr s gs
theorem gr_up {s s' : SS} {gs : GpS} : gr s gs → (∀ x : Int, x < gs.length → s'.2 40 x = s.2 40 x ∧ s'.2 41 x = s.2 41 x ∧ s'.2 42 x = s.2 42 x) → gr s' gs := by
  induction gs with
  | nil => intro _ _; trivial
  | cons g gs ih =>
    intro h q
    obtain ⟨a, b, t⟩ := g
    rw [List.length_cons] at q
    have e := q gs.length (by omega)
    refine ⟨by rw [e.1]; exact h.1, by rw [e.2.1]; exact h.2.1, by rw [e.2.2]; exact h.2.2.1, ih h.2.2.2 (fun x hx => q x (by omega))⟩
def txB (s : SS) (r : Int) : Prop := (0 ≤ r ∧ r < 20) ∧ (0 ≤ s.2 37 r ∧ s.2 37 r ≤ 200)
theorem Ru_textAt_ok {r i : Int} {s : SS} {Q : Int → SS → Prop} (h : txB s r) (hi : rng i) (hk : Q (txr s r i) s) : Sp_Ru_textAt r i s Q := by
  obtain ⟨h1, h2⟩ := h
  unfold txr at hk
  refine ⟨hi, fun c => ?_, fun c => ⟨h1, hi, ⟨by omega, by omega⟩, fun d => ⟨⟨by omega, by omega⟩, ?_⟩, fun d => ?_⟩⟩
  · rw [if_neg (by omega)] at hk; exact hk
  · rw [if_pos ⟨c, d⟩] at hk; exact hk
  · rw [if_neg (by omega)] at hk; exact hk
theorem txr_b (s : SS) (r i : Int) : -1 ≤ txr s r i ∧ txr s r i ≤ 255 := by
  unfold txr
  split
  · have := bnd_255 (s.2 36 (r * 200 + i)); omega
  · omega
theorem txr_in {s : SS} {r i : Int} (h : txr s r i ≠ -1) : 0 ≤ i ∧ i < s.2 37 r := by
  unfold txr at h
  by_cases c : 0 ≤ i ∧ i < s.2 37 r
  · exact c
  · rw [if_neg c] at h; exact absurd rfl h
theorem txr_r {s : SS} {r i : Int} : rng (txr s r i) := by
  have := txr_b s r i
  exact ⟨by omega, by omega⟩
/-- what the class's hearing says -/
def Fc (s : SS) (l : Int) : Int := if l = 99 then (if s.1 17 = 0 then 0 else 1) else if l = 101 then s.1 11 else if l = 104 then s.1 10 else if l = 107 then s.1 15 else if l = 108 then s.1 14 else if l = 110 then s.1 12 else s.1 9
theorem He_measure_ok {l : Int} {s : SS} {Q : Int → SS → Prop} (hl : lt7 l) (h17 : l = 99 → rng (s.1 17)) (hk : Q (Fc s l) s) : Sp_He_measure l s Q := by
  unfold Fc at hk
  refine ⟨⟨by omega, by omega⟩, fun e => ⟨h17 e, fun c => ?_, fun c => ?_⟩, fun e => ?_, fun e => ?_, fun e => ?_, fun e => ?_, fun e => ?_, fun e => ?_, fun a b c d e f g => by omega⟩
  · rw [if_pos e, if_pos c] at hk; exact hk
  · rw [if_pos e, if_neg c] at hk; exact hk
  · subst e; exact hk
  · subst e; exact hk
  · subst e; exact hk
  · subst e; exact hk
  · subst e; exact hk
  · subst e; exact hk
theorem Ru_factIsSo_ok {r c : Int} {k : Nat} {s : SS} {Q : Int → SS → Prop} (h : txB s r) (hc : s.1 23 = c) (hl : lt7 (txr s r c)) (hF : rng (Fc s (txr s r c))) (h17 : txr s r c = 99 → rng (s.1 17)) (k1 : 1 ≤ k) (k3 : k ≤ 3) (hd : ∀ j : Nat, j < k → dg10 (txr s r (c + 2 + j))) (hn : k < 3 → ¬ dg10 (txr s r (c + 2 + k))) (hk : ∀ s', frm [23] [] s s' → s'.1 23 = c + 2 + k → Q (bI (fct (Fc s) (txr s r c) (txr s r (c + 1)) (nv (txr s r) (c + 2) k))) s') : Sp_Ru_factIsSo r s Q := by
  intro X43 X100 g43 g100
  have hin := txr_in (s := s) (r := r) (i := c) (by omega)
  obtain ⟨h1, h2⟩ := id h
  have e100 : ∀ (v : Int) (s1 : SS), v = nv (txr s r) (c + 2) k → frm [23] [] s s1 → s1.1 23 = c + 2 + k → X100 (Fc s (txr s r c)) (txr s r (c + 1)) v s1 := by
    intro v s1 hv hf he
    have := hk s1 hf he
    have hb := nv_b k k3 hd
    rw [← hv] at this hb
    have hs := txr_b s r (c + 1)
    have rs : rng (txr s r (c + 1)) := ⟨by omega, by omega⟩
    have rv : rng v := ⟨by omega, by omega⟩
    unfold fct at this
    refine g100 _ _ _ _ ⟨rs, fun a => ⟨rs, fun b => ⟨hF, rv, fun d => ?_, fun d => ?_⟩, fun b => ⟨hF, rv, fun d => ?_, fun d => ?_⟩⟩, fun a => ⟨hF, rv, fun d => ?_, fun d => ?_⟩⟩
    · rw [if_neg a, if_neg b, decide_eq_false (by omega)] at this; exact this
    · rw [if_neg a, if_neg b, decide_eq_true (by omega)] at this; exact this
    · rw [if_neg a, if_pos b, decide_eq_false d] at this; exact this
    · rw [if_neg a, if_pos b, decide_eq_true d] at this; exact this
    · rw [if_pos a, decide_eq_false (by omega)] at this; exact this
    · rw [if_pos a, decide_eq_true d] at this; exact this
  have loop : ∀ (t j : Nat) (v : Int) (s1 : SS), k - j < t → j ≤ k → v = nv (txr s r) (c + 2) j → frm [23] [] s s1 → s1.1 23 = c + 2 + j → X43 r (Fc s (txr s r c)) (txr s r (c + 1)) v j s1 := by
    intro t
    induction t with
    | zero => intro j v s1 a; omega
    | succ t ih =>
      intro j v s1 ht hj hv hf he
      have etx : txr s1 r = txr s r := by funext i; unfold txr; rw [hf.2 36 rfl, hf.2 37 rfl]
      have h' : txB s1 r := by unfold txB; rw [hf.2 37 rfl]; exact h
      have rc : rng (s1.1 23) := ⟨by omega, by omega⟩
      refine g43 _ _ _ _ _ _ ⟨⟨by omega, by omega⟩, fun a => e100 v s1 (by rw [hv, show j = k by omega]) hf (by rw [he, show j = k by omega]), fun a => Ru_textAt_ok h' rc (isB_a (Ru_isDigit_B txr_r s1) (fun nd => ?_) (fun yd => Ru_textAt_ok h' rc (fun s14 h14 => ?_)))⟩
      · rw [etx, he] at nd
        by_cases q : j = k
        · exact e100 v s1 (by rw [hv, q]) hf (by rw [he, q])
        · exact absurd (hd j (by omega)) nd
      · rw [etx, he] at yd ⊢
        by_cases q : j = k
        · rw [q] at yd
          exact absurd yd (hn (by omega))
        · have := ih (j + 1) (v * 10 + txr s r (c + 2 + j) - 48) s14 (by omega) (by omega) (by rw [hv]; rfl) (by rw [h14]; exact frm_tr hf (frm_F _ _ (by decide))) (by rw [h14, sF_s]; omega)
          rw [show ((j + 1 : Nat) : Int) = (j : Int) + 1 by omega] at this
          exact this
  unfold B_Ru_factIsSo_e
  rw [hc]
  refine Ru_textAt_ok h ⟨by omega, by omega⟩ (He_measure_ok hl h17 ?_)
  rw [hc]
  refine Ru_textAt_ok h ⟨by omega, by omega⟩ (fun s7 h7 => ?_)
  exact loop (k + 1) 0 0 s7 (by omega) (by omega) rfl (by rw [h7]; exact frm_F _ _ (by decide)) (by rw [h7, sF_s, hc]; omega)
theorem Ru_joinRow_ok {v a b t : Bool} {n : Int} {gs : GpS} {s : SS} {Q : SS → Prop} (hg : gr s ((a, b, t) :: gs)) (hn : n = gs.length) (hl : gs.length < 201) (hk : ∀ s', frm [] [41] s s' → gr s' (jn ((a, b, t) :: gs) v) → Q s') : Sp_Ru_joinRow n (bI v) s Q := by
  subst hn
  cases v with
  | false =>
    refine ⟨by decide, fun c => absurd rfl c, fun _ => ⟨⟨by omega, by omega⟩, fun s1 h1 => ?_⟩⟩
    have f1 : frm [] [41] s s1 := by rw [h1]; exact frm_A _ _ _ (by decide)
    refine hk s1 f1 ⟨by rw [f1.2 40 rfl]; exact hg.1, ?_, by rw [f1.2 42 rfl]; exact hg.2.2.1, gr_up hg.2.2.2 (fun x hx => ?_)⟩
    · rw [h1, sA_s, if_pos rfl, Bool.and_false]; rfl
    · rw [f1.2 40 rfl, f1.2 42 rfl, h1, sA_s, if_neg (by omega)]; exact ⟨rfl, rfl, rfl⟩
  | true =>
    refine ⟨by decide, fun _ => hk s (frm_rf _ _ _) ?_, fun c => absurd c (by decide)⟩
    show gr s ((a, b && true, t) :: gs)
    rw [Bool.and_true]
    exact hg
theorem Ru_groupIsSo_ok {a b t : Bool} {n : Int} {gs : GpS} {s : SS} {Q : Int → SS → Prop} (hg : gr s ((a, b, t) :: gs)) (hn : n = gs.length) (hl : gs.length < 201) (hk : Q (bI ((a || b) != t)) s) : Sp_Ru_groupIsSo n s Q := by
  subst hn
  obtain ⟨g1, g2, g3, -⟩ := hg
  refine ⟨⟨by omega, by omega⟩, ?_⟩
  rw [g1, g2, g3]
  have i0 : (0 : Int) ≤ (gs.length : Int) ∧ (gs.length : Int) < 201 := ⟨by omega, by omega⟩
  cases a <;> cases b <;> cases t <;> (refine ⟨by decide, fun c => ⟨i0, ?_⟩, fun c => ⟨i0, ?_⟩⟩) <;> first
    | exact absurd rfl c
    | exact absurd c (by decide)
    | exact ⟨by decide, fun _ => hk, fun q => absurd rfl q⟩
    | exact ⟨by decide, fun q => absurd q (by decide), fun _ => hk⟩
    | (refine ⟨by decide, fun c => ⟨i0, ?_⟩, fun c => ⟨i0, ?_⟩⟩ <;> first
        | exact absurd rfl c
        | exact absurd c (by decide)
        | exact ⟨by decide, fun _ => hk, fun q => absurd rfl q⟩
        | exact ⟨by decide, fun q => absurd q (by decide), fun _ => hk⟩)
def fcR (s : SS) (r : Int) : Prop := ((∃ i, txr s r i = 99) → rng (s.1 17)) ∧ rng (s.1 11) ∧ rng (s.1 10) ∧ rng (s.1 15) ∧ rng (s.1 14) ∧ rng (s.1 12) ∧ rng (s.1 9)
theorem Fc_r {s : SS} {r : Int} (h : fcR s r) (l : Int) : rng (Fc s l) := by
  obtain ⟨h1, h2, h3, h4, h5, h6, h7⟩ := h
  unfold Fc
  (repeat' split) <;> first | assumption | decide
theorem Ru_isSo_ok {r c e d : Int} {f : (Int → Int) → Bool} {F : Int → Int} {s : SS} {Q : Int → SS → Prop} (h : txB s r) (hfc : fcR s r) (hF : ∀ i, lt7 (txr s r i) → F (txr s r i) = Fc s (txr s r i)) (hc0 : 0 ≤ c) (hc : s.1 23 = c) (hcl : clOk (txr s r) c e f d) (hk : ∀ s', frm [23] [40, 41, 42] s s' → s'.1 23 = e → Q (bI (f F)) s') : Sp_Ru_isSo r s Q := by
  obtain ⟨q1, q2, q3, q4, q5⟩ := hcl
  obtain ⟨a, b, hT0, hf⟩ := q2 F
  have hT := TX_cg hF hT0
  intro X14 g14
  have key : ∀ {c1 : Int} {t : Bool} {gs : GpS}, TX (Fc s) (txr s r) c c1 t gs → (∀ (n : Int) (s1 : SS), 0 ≤ n → n ≤ c1 - c → frm [23] [40, 41, 42] s s1 → s1.1 23 = c1 → gr s1 gs → X14 r (bI t) (gs.length - 1) n s1) → (∀ (s1 : SS), frm [23] [40, 41, 42] s s1 → s1.1 23 = c → gr s1 [(false, true, false)] → X14 r 0 0 0 s1) := by
    have etx : ∀ s1 : SS, frm [23] [40, 41, 42] s s1 → txr s1 r = txr s r := fun s1 hf => by funext i; unfold txr; rw [hf.2 36 rfl, hf.2 37 rfl]
    have etb : ∀ s1 : SS, frm [23] [40, 41, 42] s s1 → txB s1 r := fun s1 hf => by unfold txB; rw [hf.2 37 rfl]; exact h
    have efc : ∀ s1 : SS, frm [23] [40, 41, 42] s s1 → Fc s1 = Fc s := fun s1 hf => by
      funext l
      unfold Fc
      rw [hf.1 17 rfl, hf.1 11 rfl, hf.1 10 rfl, hf.1 15 rfl, hf.1 14 rfl, hf.1 12 rfl, hf.1 9 rfl]
    have h200 := h.2
    intro c1 t gs hT
    induction hT using TX_ind with
    | st => intro H s1 hf1 hc1 hg1; exact H 0 s1 (by omega) (by omega) hf1 hc1 hg1
    | @nt c1 t gs hp h33 ih =>
      intro H
      refine ih (fun n s1 n0 n1 hf1 hc1 hg1 => ?_)
      have hin := txr_in (s := s) (r := r) (i := c1) (by omega)
      refine g14 _ _ _ _ _ ⟨⟨by omega, by omega⟩, fun q => by omega, fun _ => Ru_textAt_ok (etb s1 hf1) ⟨by omega, by omega⟩ ?_⟩
      rw [etx s1 hf1, hc1, h33]
      refine ⟨by decide, fun q => absurd q (by decide), fun _ => ⟨by decide, fun _ => isB_a (Ru_isLetter_B (by decide) s1) (fun _ s10 h10 => ⟨by decide, fun q => absurd rfl q, fun _ => ⟨by cases t <;> decide, fun q => ?_, fun q => ?_⟩⟩) (fun q => absurd q (by decide)), fun q => absurd q (by decide)⟩⟩
      all_goals
        have f10 : frm [23] [40, 41, 42] s s10 := by rw [h10]; exact frm_tr hf1 (frm_F _ _ (by decide))
        have g10 : gr s10 gs := gr_up hg1 (fun x _ => by rw [h10]; exact ⟨rfl, rfl, rfl⟩)
        have c10 : s10.1 23 = c1 + 1 := by rw [h10, sF_s, hc1]
        have := H (n + 1) s10 (by omega) (by omega) f10 c10 g10
        cases t
        first | exact this | exact absurd rfl q | exact absurd q (by decide)
        first | exact this | exact absurd rfl q | exact absurd q (by decide)
    | @op c1 t gs hp h40 ih =>
      intro H
      refine ih (fun n s1 n0 n1 hf1 hc1 hg1 => ?_)
      have hin := txr_in (s := s) (r := r) (i := c1) (by omega)
      have hlen := TX_len hp
      have hne : 0 < gs.length := List.length_pos_iff.mpr (TX_ne hp)
      refine g14 _ _ _ _ _ ⟨⟨by omega, by omega⟩, fun q => by omega, fun _ => Ru_textAt_ok (etb s1 hf1) ⟨by omega, by omega⟩ ?_⟩
      rw [etx s1 hf1, hc1, h40]
      refine ⟨by decide, fun q => absurd q (by decide), fun _ => ⟨by decide, fun _ => isB_a (Ru_isLetter_B (by decide) s1) (fun _ s10 h10 => ⟨by decide, fun _ => ⟨by decide, fun q => absurd rfl q, fun _ => ?_⟩, fun q => absurd q (by decide)⟩) (fun q => absurd q (by decide)), fun q => absurd q (by decide)⟩⟩
      refine ⟨by omega, fun t1 u1 => ⟨by omega, fun t2 u2 => ⟨by omega, bI_01 t, fun t3 u3 => ?_⟩⟩⟩
      have f10 : frm [23] [40, 41, 42] s1 t3 := by rw [u3, u2, u1, h10]; exact frm_tr (frm_tr (frm_tr (frm_F _ _ (by decide)) (frm_A _ _ _ (by decide))) (frm_A _ _ _ (by decide))) (frm_A _ _ _ (by decide))
      have e40 : t3.2 40 = updF (s1.2 40) gs.length 0 := by rw [u3, sA_n _ _ _ (by decide), u2, sA_n _ _ _ (by decide), u1, sA_u, h10, sF_2, show (gs.length : Int) - 1 + 1 = gs.length by omega]
      have e41 : t3.2 41 = updF (s1.2 41) gs.length 1 := by rw [u3, sA_n _ _ _ (by decide), u2, sA_u, u1, sA_n _ _ _ (by decide), h10, sF_2, show (gs.length : Int) - 1 + 1 = gs.length by omega]
      have e42 : t3.2 42 = updF (s1.2 42) gs.length (bI t) := by rw [u3, sA_u, u2, sA_n _ _ _ (by decide), u1, sA_n _ _ _ (by decide), h10, sF_2, show (gs.length : Int) - 1 + 1 = gs.length by omega]
      have := H (n + 1) t3 (by omega) (by omega) (frm_tr hf1 f10) (by rw [u3, sA_1, u2, sA_1, u1, sA_1, h10, sF_s, hc1]) ⟨by rw [e40, updF_s]; rfl, by rw [e41, updF_s]; rfl, by rw [e42, updF_s], gr_up hg1 (fun x hx => by rw [e40, e41, e42, updF_n _ _ (by omega), updF_n _ _ (by omega), updF_n _ _ (by omega)]; exact ⟨rfl, rfl, rfl⟩)⟩
      rw [List.length_cons, show ((gs.length + 1 : Nat) : Int) - 1 = (gs.length : Int) - 1 + 1 by omega] at this
      exact this
    | @cl c1 a b t gs hp hne h41 ih =>
      intro H
      refine ih (fun n s1 n0 n1 hf1 hc1 hg1 => ?_)
      have hin := txr_in (s := s) (r := r) (i := c1) (by omega)
      have hlen := TX_len hp
      rw [List.length_cons] at hlen ⊢
      have hne' : 0 < gs.length := List.length_pos_iff.mpr hne
      refine g14 _ _ _ _ _ ⟨⟨by omega, by omega⟩, fun q => by omega, fun _ => Ru_textAt_ok (etb s1 hf1) ⟨by omega, by omega⟩ ?_⟩
      rw [etx s1 hf1, hc1, h41]
      refine ⟨by decide, fun q => absurd q (by decide), fun _ => ⟨by decide, fun _ => isB_a (Ru_isLetter_B (by decide) s1) (fun _ s10 h10 => ⟨by decide, fun _ => ⟨by decide, fun _ => ⟨by decide, fun q => absurd rfl q, fun _ => ⟨⟨by omega, by omega⟩, fun q => by omega, fun _ => ?_⟩⟩, fun q => absurd q (by decide)⟩, fun q => absurd q (by decide)⟩) (fun q => absurd q (by decide)), fun q => absurd q (by decide)⟩⟩
      have f10 : frm [23] [40, 41, 42] s s10 := by rw [h10]; exact frm_tr hf1 (frm_F _ _ (by decide))
      have g10 : gr s10 ((a, b, t) :: gs) := gr_up hg1 (fun x _ => by rw [h10]; exact ⟨rfl, rfl, rfl⟩)
      have c10 : s10.1 23 = c1 + 1 := by rw [h10, sF_s, hc1]
      refine Ru_groupIsSo_ok g10 (by omega) (by omega) ?_
      cases gs with
      | nil => exact absurd rfl hne
      | cons g gs =>
        obtain ⟨a2, b2, t2⟩ := g
        rw [List.length_cons] at hne' hlen ⊢
        refine Ru_joinRow_ok g10.2.2.2 (by omega) (by omega) (fun s15 hf15 hg15 => ?_)
        have := H (n + 1) s15 (by omega) (by omega) (frm_tr f10 (frm_mono hf15 (by decide) (by decide))) (by rw [hf15.1 23 rfl, c10]) hg15
        rw [jn_len, List.length_cons] at this
        rw [show ((gs.length + 1 + 1 : Nat) : Int) - 1 + -1 = ((gs.length + 1 : Nat) : Int) - 1 by omega]
        exact this
    | @an c1 t gs hp h38 ih =>
      intro H
      refine ih (fun n s1 n0 n1 hf1 hc1 hg1 => ?_)
      have hin := txr_in (s := s) (r := r) (i := c1) (by omega)
      refine g14 _ _ _ _ _ ⟨⟨by omega, by omega⟩, fun q => by omega, fun _ => Ru_textAt_ok (etb s1 hf1) ⟨by omega, by omega⟩ ?_⟩
      rw [etx s1 hf1, hc1, h38]
      refine ⟨by decide, fun q => absurd q (by decide), fun _ => ⟨by decide, fun _ => isB_a (Ru_isLetter_B (by decide) s1) (fun _ s10 h10 => ⟨by decide, fun _ => ⟨by decide, fun _ => ⟨by decide, fun _ => ⟨by decide, fun _ => ?_, fun q => absurd q (by decide)⟩, fun q => absurd q (by decide)⟩, fun q => absurd q (by decide)⟩, fun q => absurd q (by decide)⟩) (fun q => absurd q (by decide)), fun q => absurd q (by decide)⟩⟩
      exact H (n + 1) s10 (by omega) (by omega) (by rw [h10]; exact frm_tr hf1 (frm_F _ _ (by decide))) (by rw [h10, sF_s, hc1]) (gr_up hg1 (fun x _ => by rw [h10]; exact ⟨rfl, rfl, rfl⟩))
    | @oo c1 t a b u gs hp h124 ih =>
      intro H
      refine ih (fun n s1 n0 n1 hf1 hc1 hg1 => ?_)
      have hin := txr_in (s := s) (r := r) (i := c1) (by omega)
      have hlen := TX_len hp
      rw [List.length_cons] at hlen ⊢
      refine g14 _ _ _ _ _ ⟨⟨by omega, by omega⟩, fun q => by omega, fun _ => Ru_textAt_ok (etb s1 hf1) ⟨by omega, by omega⟩ ?_⟩
      rw [etx s1 hf1, hc1, h124]
      refine ⟨by decide, fun q => absurd q (by decide), fun _ => ⟨by decide, fun _ => isB_a (Ru_isLetter_B (by decide) s1) (fun _ s10 h10 => ⟨by decide, fun _ => ⟨by decide, fun _ => ⟨by decide, fun _ => ⟨by decide, fun q => absurd rfl q, fun _ => ?_⟩, fun q => absurd q (by decide)⟩, fun q => absurd q (by decide)⟩, fun q => absurd q (by decide)⟩) (fun q => absurd q (by decide)), fun q => absurd q (by decide)⟩⟩
      have f10 : frm [23] [40, 41, 42] s s10 := by rw [h10]; exact frm_tr hf1 (frm_F _ _ (by decide))
      have g10 : gr s10 ((a, b, u) :: gs) := gr_up hg1 (fun x _ => by rw [h10]; exact ⟨rfl, rfl, rfl⟩)
      have c10 : s10.1 23 = c1 + 1 := by rw [h10, sF_s, hc1]
      obtain ⟨d1, d2, d3, d4⟩ := g10
      have ix : 0 ≤ ((gs.length + 1 : Nat) : Int) - 1 ∧ ((gs.length + 1 : Nat) : Int) - 1 < 201 := by omega
      have ie : ((gs.length + 1 : Nat) : Int) - 1 = gs.length := by omega
      refine ⟨ix, ?_⟩
      rw [ie, d2]
      have i0 : 0 ≤ (gs.length : Int) ∧ (gs.length : Int) < 201 := by omega
      refine ⟨by cases b <;> decide, fun z => ⟨i0, fun s11 h11 => ?_⟩, fun z => ⟨i0, fun s11 h11 => ⟨i0, fun s12 h12 => ?_⟩⟩⟩
      · have hb0 : b = false := by cases b; rfl; exact absurd z (by decide)
        subst hb0
        have f11 : frm [] [41] s10 s11 := by rw [h11]; exact frm_A _ _ _ (by decide)
        have := H (n + 1) s11 (by omega) (by omega) (frm_tr f10 (frm_mono f11 (by decide) (by decide))) (by rw [f11.1 23 rfl, c10]) ⟨by rw [f11.2 40 rfl, d1, Bool.or_false], by rw [h11, sA_s, if_pos rfl]; rfl, by rw [f11.2 42 rfl, d3], gr_up d4 (fun x hx => by rw [f11.2 40 rfl, f11.2 42 rfl, h11, sA_s, if_neg (by omega)]; exact ⟨rfl, rfl, rfl⟩)⟩
        rw [List.length_cons, ie] at this
        exact this
      · have hb1 : b = true := by cases b; exact absurd rfl z; rfl
        subst hb1
        have f12 : frm [] [40, 41] s10 s12 := by rw [h12, h11]; exact frm_tr (frm_A _ _ _ (by decide)) (frm_A _ _ _ (by decide))
        have e40 : s12.2 40 = updF (s10.2 40) gs.length 1 := by rw [h12, sA_n _ _ _ (by decide), h11, sA_u]
        have e41 : s12.2 41 = updF (s10.2 41) gs.length 1 := by rw [h12, sA_u, h11, sA_n _ _ _ (by decide)]
        have := H (n + 1) s12 (by omega) (by omega) (frm_tr f10 (frm_mono f12 (by decide) (by decide))) (by rw [f12.1 23 rfl, c10]) ⟨by rw [e40, updF_s, Bool.or_true]; rfl, by rw [e41, updF_s]; rfl, by rw [f12.2 42 rfl, d3], gr_up d4 (fun x hx => by rw [f12.2 42 rfl, e40, e41, updF_n _ _ (by omega), updF_n _ _ (by omega)]; exact ⟨rfl, rfl, rfl⟩)⟩
        rw [List.length_cons, ie] at this
        exact this
    | @fa c1 t gs k hp hl7 _ k1 k3 hd hn ih =>
      intro H
      refine ih (fun n s1 n0 n1 hf1 hc1 hg1 => ?_)
      have hin := txr_in (s := s) (r := r) (i := c1) (by omega)
      have hlen := TX_len hp
      refine g14 _ _ _ _ _ ⟨⟨by omega, by omega⟩, fun q => by omega, fun _ => Ru_textAt_ok (etb s1 hf1) ⟨by omega, by omega⟩ ?_⟩
      rw [etx s1 hf1, hc1]
      refine ⟨txr_r, fun q => by omega, fun _ => ⟨txr_r, fun q => isB_a (Ru_isLetter_B txr_r s1) (fun nl => absurd hl7 nl) (fun _ => ?_), fun q => by omega⟩⟩
      have e1 := etx s1 hf1
      have e2 := efc s1 hf1
      refine Ru_factIsSo_ok (k := k) (etb s1 hf1) hc1 (by rw [e1]; exact hl7) (by rw [e1, e2]; exact Fc_r hfc _) (fun z => by rw [hf1.1 17 rfl]; rw [e1] at z; exact hfc.1 ⟨_, z⟩) k1 k3 (by rw [e1]; exact hd) (by rw [e1]; exact hn) (fun s17 hf17 hc17 => ?_)
      rw [e1, e2]
      have g17 : gr s17 gs := gr_up hg1 (fun x _ => by rw [hf17.2 40 rfl, hf17.2 41 rfl, hf17.2 42 rfl]; exact ⟨rfl, rfl, rfl⟩)
      have hne := TX_ne hp
      cases gs with
      | nil => exact absurd rfl hne
      | cons g gs =>
        obtain ⟨a2, b2, t2⟩ := g
        rw [List.length_cons] at hlen ⊢
        have fin : ∀ v : Bool, v = (fct (Fc s) (txr s r c1) (txr s r (c1 + 1)) (nv (txr s r) (c1 + 2) k) != t) → Sp_Ru_joinRow (((gs.length + 1 : Nat) : Int) - 1) (bI v) s17 (fun s19 => X14 r 0 (((gs.length + 1 : Nat) : Int) - 1) (n + 1) s19) := by
          intro v hv
          refine Ru_joinRow_ok g17 (by omega) (by omega) (fun s19 hf19 hg19 => ?_)
          rw [hv] at hg19
          have := H (n + 1) s19 (by omega) (by omega) (frm_tr hf1 (frm_tr (frm_mono hf17 (by decide) (by decide)) (frm_mono hf19 (by decide) (by decide)))) (by rw [hf19.1 23 rfl, hc17]) hg19
          rw [jn_len, List.length_cons] at this
          exact this
        generalize hw : fct (Fc s) (txr s r c1) (txr s r (c1 + 1)) (nv (txr s r) (c1 + 2) k) = w at fin ⊢
        refine ⟨by cases w <;> decide, by cases t <;> decide, fun q => fin false ?_, fun q => fin true ?_⟩
        · cases w <;> cases t <;> first | rfl | exact absurd q (by decide)
        · cases w <;> cases t <;> first | rfl | exact absurd rfl q
  -- the end of it
  have fin := key hT (fun n s1 n0 n1 hf1 hc1 hg1 => ?_)
  · refine ⟨by decide, fun t1 u1 => ⟨by decide, fun t2 u2 => ⟨by decide, Or.inl rfl, fun t3 u3 => ?_⟩⟩⟩
    have f3 : frm [23] [40, 41, 42] s t3 := by rw [u3, u2, u1]; exact frm_tr (frm_tr (frm_A _ _ _ (by decide)) (frm_A _ _ _ (by decide))) (frm_A _ _ _ (by decide))
    refine fin t3 f3 (by rw [u3, u2, u1]; exact hc) ⟨?_, ?_, ?_, trivial⟩
    · rw [u3, sA_n _ _ _ (by decide), u2, sA_n _ _ _ (by decide), u1, sA_u]; rfl
    · rw [u3, sA_n _ _ _ (by decide), u2, sA_u]; rfl
    · rw [u3, sA_u]; rfl
  · have hin := txr_in (s := s) (r := r) (i := e) (by omega)
    have h200 := h.2
    have e1 : txr s1 r = txr s r := by funext i; unfold txr; rw [hf1.2 36 rfl, hf1.2 37 rfl]
    have hb1 : txB s1 r := by unfold txB; rw [hf1.2 37 rfl]; exact h
    refine g14 _ _ _ _ _ ⟨⟨by omega, by omega⟩, fun q => by omega, fun _ => Ru_textAt_ok hb1 ⟨by omega, by omega⟩ ?_⟩
    rw [e1, hc1, q3]
    refine ⟨by decide, fun q => absurd q (by decide), fun _ => ⟨by decide, fun q => absurd rfl q, fun _ => Ru_groupIsSo_ok (n := 0) hg1 rfl (by decide) ⟨bI_01 _, ?_⟩⟩⟩
    rw [show ((a || b) != false) = (a || b) by cases a <;> cases b <;> rfl, ← hf]
    exact hk s1 hf1 hc1
theorem pick_cg {F G tx : Int → Int} {c' els : Int} (hF : ∀ i, lt7 (tx i) → F (tx i) = G (tx i)) : ∀ (L : ClL) (c : Int), CLt tx c L c' → pick F L els = pick G L els := by
  intro L
  induction L with
  | nil => intro c _; rfl
  | cons g L ih =>
    intro c h
    obtain ⟨f, d⟩ := g
    obtain ⟨e, ⟨h1, h2, h3⟩, h4⟩ := h
    obtain ⟨a, b, q1, q2⟩ := h2 F
    obtain ⟨a', b', r1, r2⟩ := h2 G
    have := (TX_det r1 _ _ (TX_cg hF q1)).2
    cases this
    have e : f F = f G := by rw [q2, r2]
    unfold pick
    rw [e, ih _ h4]
theorem pick_b {F tx : Int → Int} {c' els : Int} (he : 0 ≤ els ∧ els ≤ 9) : ∀ (L : ClL) (c : Int), CLt tx c L c' → 0 ≤ pick F L els ∧ pick F L els ≤ 9 := by
  intro L
  induction L with
  | nil => intro c _; exact he
  | cons g L ih =>
    intro c h
    obtain ⟨f, d⟩ := g
    obtain ⟨e, ⟨h1, h2, h3, h5, h6⟩, h4⟩ := h
    unfold pick
    split
    · exact h6
    · exact ih _ h4
theorem Ru_decide_ok {r c' els : Int} {L : ClL} {F : Int → Int} {s : SS} {Q : Int → SS → Prop} (h : txB s r) (hfc : fcR s r) (hF : ∀ i, lt7 (txr s r i) → F (txr s r i) = Fc s (txr s r i)) (hT : CLt (txr s r) 0 L c') (h38 : s.2 38 r = L.length + 1) (hl8 : L.length ≤ 8) (he : txr s r (s.2 37 r - 1) = els + 48) (hk : ∀ s', frm [23] [40, 41, 42] s s' → Q (pick F L els) s') : Sp_Ru_decide r s Q := by
  intro X7 g7
  have key : ∀ (L : ClL) (c n : Int) (s1 : SS), 0 ≤ n → 0 ≤ c → frm [23] [40, 41, 42] s s1 → s1.1 23 = c → CLt (txr s r) c L c' → s.2 38 r = n + L.length + 1 → (∀ s', frm [23] [40, 41, 42] s s' → Q (pick F L els) s') → X7 r (n + 1) s1 := by
    intro L
    induction L with
    | nil =>
      intro c n s1 n0 c0 hf1 hc1 hT hn hq
      have e38 : s1.2 38 = s.2 38 := hf1.2 38 rfl
      have e37 : s1.2 37 = s.2 37 := hf1.2 37 rfl
      have hb1 : txB s1 r := by unfold txB; rw [e37]; exact h
      have e1 : txr s1 r = txr s r := by funext i; unfold txr; rw [hf1.2 36 rfl, e37]
      have h200 := h.2
      rw [List.length_nil] at hn
      refine g7 _ _ _ ⟨h.1, ⟨by omega, by omega⟩, by rw [e38]; exact ⟨by omega, by omega⟩, fun _ => ⟨h.1, Ru_textAt_ok hb1 (by rw [e37]; exact ⟨by omega, by omega⟩) ?_⟩, fun q => by rw [e38] at q; omega⟩
      rw [e1, e37, he, show els + 48 - 48 = els by omega]
      exact hq s1 hf1
    | cons g L ih =>
      intro c n s1 n0 c0 hf1 hc1 hT hn hq
      obtain ⟨f, d⟩ := g
      obtain ⟨e, hcl, hT2⟩ := hT
      have e38 : s1.2 38 = s.2 38 := hf1.2 38 rfl
      have e37 : s1.2 37 = s.2 37 := hf1.2 37 rfl
      have hb1 : txB s1 r := by unfold txB; rw [e37]; exact h
      have e1 : txr s1 r = txr s r := by funext i; unfold txr; rw [hf1.2 36 rfl, e37]
      have h200 := h.2
      rw [List.length_cons] at hn
      have efc : Fc s1 = Fc s := by
        funext l
        unfold Fc
        rw [hf1.1 17 rfl, hf1.1 11 rfl, hf1.1 10 rfl, hf1.1 15 rfl, hf1.1 14 rfl, hf1.1 12 rfl, hf1.1 9 rfl]
      have hfc1 : fcR s1 r := by
        unfold fcR
        rw [e1, hf1.1 17 rfl, hf1.1 11 rfl, hf1.1 10 rfl, hf1.1 15 rfl, hf1.1 14 rfl, hf1.1 12 rfl, hf1.1 9 rfl]
        exact hfc
      have q4 := hcl.2.2.2
      have hin := txr_in (s := s) (r := r) (i := e + 1) (by omega)
      refine g7 _ _ _ ⟨h.1, ⟨by omega, by omega⟩, by rw [e38]; exact ⟨by omega, by omega⟩, fun q => by rw [e38] at q; omega, fun _ => Ru_isSo_ok (F := F) hb1 hfc1 (by rw [e1, efc]; exact hF) c0 hc1 (by rw [e1]; exact hcl) (fun s4 hf4 hc4 => ?_)⟩
      have e41 : txr s4 r = txr s r := by rw [← e1]; funext i; unfold txr; rw [hf4.2 36 rfl, hf4.2 37 rfl]
      have hb4 : txB s4 r := by unfold txB; rw [hf4.2 37 rfl, e37]; exact h
      have hc0 := hcl.1
      refine Ru_textAt_ok hb4 ⟨by omega, by omega⟩ ?_
      rw [e41, hc4, q4.1]
      have hf04 := frm_tr hf1 hf4
      cases hv : f F with
      | false =>
        refine ⟨by decide, fun _ s8 h8 => ?_, fun q => absurd rfl q⟩
        refine ih (e + 3) (n + 1) s8 (by omega) (by omega) (by rw [h8]; exact frm_tr hf04 (frm_F _ _ (by decide))) (by rw [h8, sF_s]) hT2 (by omega) (fun s' hf' => ?_)
        have := hq s' hf'
        unfold pick at this
        rw [hv, if_neg (by decide)] at this
        exact this
      | true =>
        refine ⟨by decide, fun q => absurd q (by decide), fun _ => ?_⟩
        have := hq s4 hf04
        unfold pick at this
        rw [hv, if_pos rfl] at this
        rw [show d + 48 - 48 = d by omega]
        exact this
  intro s1 h1
  exact key L 0 0 s1 (by omega) (by omega) (by rw [h1]; exact frm_F _ _ (by decide)) (by rw [h1, sF_s]) hT (by omega) hk
end
