section
/-! RULES, the model's whole reading -/
abbrev ClL := List (((Int → Int) → Bool) × Int)
def clOk (tx : Int → Int) (c e : Int) (f : (Int → Int) → Bool) (d : Int) : Prop := c < e ∧ (∀ F : Int → Int, ∃ a b : Bool, TX F tx c e false [(a, b, false)] ∧ f F = (a || b)) ∧ tx e = 62 ∧ tx (e + 1) = d + 48 ∧ 0 ≤ d ∧ d ≤ 9
def CLt (tx : Int → Int) : Int → ClL → Int → Prop
  | c, [], c' => c' = c
  | c, (f, d) :: L, c' => ∃ e, clOk tx c e f d ∧ CLt tx (e + 3) L c'
def CLm (cdr en dg : Int → Int) : Int → Int → ClL → Int → Prop
  | k, _, [], k' => k' = k
  | k, n, (f, d) :: L, k' => (k ≤ en n ∧ ∀ F : Int → Int, RN F cdr k (en n) [f F]) ∧ dg n = d ∧ CLm cdr en dg (en n) (n + 1) L k'
theorem CLt_s {tx : Int → Int} {L : ClL} {f : (Int → Int) → Bool} {d e : Int} : ∀ {c c' : Int}, CLt tx c L c' → clOk tx c' e f d → CLt tx c (L ++ [(f, d)]) (e + 3) := by
  induction L with
  | nil => intro c c' h q; have h : c' = c := h; subst h; exact ⟨e, q, rfl⟩
  | cons g L ih =>
    intro c c' h q
    obtain ⟨gf, gd⟩ := g
    obtain ⟨e1, h1, h2⟩ := h
    exact ⟨e1, h1, ih h2 q⟩
theorem CLm_le {cdr en dg : Int → Int} {L : ClL} : ∀ {k n k' : Int}, CLm cdr en dg k n L k' → k ≤ k' := by
  induction L with
  | nil => intro k n k' h; have h : k' = k := h; omega
  | cons g L ih =>
    intro k n k' h
    obtain ⟨gf, gd⟩ := g
    obtain ⟨h1, h2, h3⟩ := h
    have := ih h3
    omega
theorem CLm_up {cdr en dg cdr' en' dg' : Int → Int} {L : ClL} : ∀ {k n k' : Int}, CLm cdr en dg k n L k' → (∀ j, k ≤ j → j < k' → cdr' j = cdr j) → (∀ j, n ≤ j → j < n + L.length → en' j = en j ∧ dg' j = dg j) → CLm cdr' en' dg' k n L k' := by
  induction L with
  | nil => intro k n k' h _ _; exact h
  | cons g L ih =>
    intro k n k' h q1 q2
    obtain ⟨gf, gd⟩ := g
    obtain ⟨h1, h2, h3⟩ := h
    rw [List.length_cons] at q2
    have hle := CLm_le h3
    have e := q2 n (by omega) (by omega)
    refine ⟨?_, by rw [e.2]; exact h2, ?_⟩
    · rw [e.1]
      exact ⟨h1.1, fun F => RN_up (h1.2 F) (fun j j0 j1 => q1 j j0 (by omega))⟩
    · rw [e.1]
      exact ih h3 (fun j j0 j1 => q1 j (by omega) j1) (fun j j0 j1 => q2 j (by omega) (by omega))
theorem CLm_s {cdr en dg : Int → Int} {L : ClL} {f : (Int → Int) → Bool} {d k2 : Int} : ∀ {k n k' : Int}, CLm cdr en dg k n L k' → k2 = en (n + L.length) → k' ≤ k2 → (∀ F : Int → Int, RN F cdr k' k2 [f F]) → dg (n + L.length) = d → CLm cdr en dg k n (L ++ [(f, d)]) k2 := by
  induction L with
  | nil =>
    intro k n k' h q q0 q1 q2
    have h : k' = k := h
    subst h
    have e : n + (([] : ClL).length : Int) = n := by simp
    rw [e] at q q2
    subst q
    exact ⟨⟨q0, q1⟩, q2, rfl⟩
  | cons g L ih =>
    intro k n k' h q q0 q1 q2
    obtain ⟨gf, gd⟩ := g
    obtain ⟨h1, h2, h3⟩ := h
    rw [List.length_cons] at q q2
    rw [show n + ((L.length + 1 : Nat) : Int) = n + 1 + L.length by omega] at q q2
    exact ⟨h1, h2, ih h3 q q0 q1 q2⟩
theorem Md_takes_ok {p : Int × Int} {v : Int} {s0 s : SS} {Q : Int → SS → Prop} (hv : rng v) (v0 : v ≠ -1) (h0 : txO s0) (hp : pJ s0 s) (h1 : (rA p s0 s).st ≠ -1) (h2 : (rA p s0 s).st ≠ 14) (h3 : tpx s0 (s.1 40) ≠ v → (aft (rA p s0 s) (tpx s0 (s.1 40))).st = -1) (hbad : pBad p s0 s → Q 0 s) (hgood : tpx s0 (s.1 40) = v → ∀ s', s' = sF s 40 (s.1 40 + 1) → pJ s0 s' → frm [40] [] s s' → s'.1 40 = s.1 40 + 1 → rA p s0 s' = aft (rA p s0 s) v → Q 1 s') : Sp_Md_takes v s Q := by
  have hb := h0.2.2 (s.1 40)
  refine sg_ok h0 hp.1 hp.2.1 ⟨⟨by omega, by omega⟩, hv, fun c s3 h => ?_, fun c => hbad (bad_of hp.2.1 h1 h2 (h3 c))⟩
  have hin := tp_in (s0 := s0) (i := s.1 40) (by omega)
  obtain ⟨p1, p2, p3, p4⟩ := hp
  have f : frm [40] [] s s3 := by rw [h]; exact frm_F _ _ (by decide)
  have e : s3.1 40 = s.1 40 + 1 := by rw [h, sF_s]
  refine hgood c s3 h ⟨frm_tr p1 (frm_mono f (by decide) (by decide)), by omega, by rw [f.1 41 rfl]; omega, by rw [f.1 41 rfl]; omega⟩ f e ?_
  rw [rA_s (by omega) e, c]
theorem Md_isElse_B {n : Int} {s0 s : SS} (hn : rng n) (h0 : txO s0) (hp : pJ s0 s) : isB (tpx s0 (s.1 40) = 101 ∧ (n = 8 ∨ tpx s0 (s.1 40 + 1) = 108)) s (Sp_Md_isElse n s) := by
  intro K k1 k0
  have hb := h0.2.2 (s.1 40)
  have e30 : s.1 30 = s0.1 30 := hp.1.1 30 rfl
  have e63 : s.2 63 = s0.2 63 := hp.1.2 63 rfl
  have h30 := h0.1
  have h40 := hp.2.1
  refine sg_ok h0 hp.1 hp.2.1 ⟨⟨by omega, by omega⟩, fun c => ⟨hn, fun d => k1 ⟨c, Or.inl d⟩, fun d => ⟨⟨by omega, by omega⟩, ⟨by omega, by omega⟩, fun e => k0 (fun q => ?_), fun e => ?_⟩⟩, fun c => k0 (fun q => c q.1)⟩
  · have := tp_in (s0 := s0) (i := s.1 40 + 1) (by omega)
    omega
  · have hb1 := h0.2.2 (s.1 40 + 1)
    have et : tpx s0 (s.1 40 + 1) = s.2 63 (s.1 40 + 1) := by
      unfold tpx
      rw [if_pos (by omega), e63]
    refine ⟨⟨by omega, by omega⟩, by rw [← et]; exact ⟨by omega, by omega⟩, fun f => k0 (fun q => ?_), fun f => k1 ⟨c, Or.inr (by rw [et]; exact f)⟩⟩
    rw [← et] at f
    rcases q.2 with z | z
    · exact d z
    · exact f z
/-- what the reading leaves of the other rules -/
def fR (s0 s : SS) : Prop := (∀ x, x < 600 * s0.1 39 → s.2 87 x = s0.2 87 x) ∧ (∀ x, x < 8 * s0.1 39 → s.2 88 x = s0.2 88 x ∧ s.2 89 x = s0.2 89 x) ∧ (∀ x, x ≠ s0.1 39 → s.2 90 x = s0.2 90 x ∧ s.2 91 x = s0.2 91 x)
theorem Md_parses_ok {p : Int × Int} {s0 : SS} {Q : Int → SS → Prop} (h0 : txO s0)
    (hbad : ∀ s', pJ s0 s' → fR s0 s' → pBad p s0 s' → Q 0 s')
    (hgood : ∀ s' (L : ClL) (c' k' : Int), pJ s0 s' → fR s0 s' → (rA p s0 s').st = 14 → s'.1 40 = s0.1 30 → (rA p s0 s').cl = L.length → L.length ≤ 8 → CLt (tpx s0) 0 L c' → CLm (cd s') (fun n => s'.2 88 (8 * s0.1 39 + n)) (fun n => s'.2 89 (8 * s0.1 39 + n)) 0 0 L k' → k' ≤ 200 → s'.2 90 (s0.1 39) = L.length → tpx s0 (s0.1 30 - 1) = s'.2 91 (s0.1 39) + 48 → (0 ≤ s'.2 91 (s0.1 39) ∧ s'.2 91 (s0.1 39) ≤ 9) → Q 1 s') : Sp_Md_parses s0 Q := by
  intro X12 g12
  obtain ⟨t1, t2, t3⟩ := id h0
  have key : ∀ (t : Nat) (L : ClL) (s : SS), s0.1 30 - s.1 40 < t → pJ s0 s → fR s0 s → (rA p s0 s).st = 0 → (rA p s0 s).dp = 0 → (rA p s0 s).cl = L.length → L.length ≤ 8 → CLt (tpx s0) 0 L (s.1 40) → CLm (cd s) (fun n => s.2 88 (8 * s0.1 39 + n)) (fun n => s.2 89 (8 * s0.1 39 + n)) 0 0 L (s.1 41) → X12 (L.length : Int) s := by
    intro t
    induction t with
    | zero => intro L s a b; have := b.2.1; omega
    | succ t ih =>
      intro L s ht hp hf hst hdp hcl hl8 hT hM
      obtain ⟨p1, p2, p3, p4⟩ := id hp
      have e39 : s.1 39 = s0.1 39 := p1.1 39 rfl
      have rl : rng (L.length : Int) := ⟨by omega, by omega⟩
      refine g12 _ _ (isB_b (Md_isElse_B rl h0 hp) (fun ne => ⟨rl, fun c => ?_, fun c => ?_⟩) (fun ye => ?_))
      · -- eight are there, no else
        refine hbad s hp hf (bad_of hp.2.1 (by omega) (by omega) ?_)
        unfold aft
        rw [if_pos hst]
        unfold cf0
        rw [if_neg (fun q => ne ⟨q, Or.inl c⟩), if_neg (by omega)]
      · -- a when
        refine Md_when_ok (p := p) (N := L.length) h0 hp ⟨hcl, by omega, hst, hdp⟩ (fun q => ne ⟨q.1, Or.inr q.2⟩) (fun s' hp' hf' hb' => ⟨by decide, fun _ => hbad s' (pI_J hp') ?_ hb', fun q => absurd rfl q⟩) (fun s' hpI hf' h62 hdp' hcl' haf hw hlt hF => ⟨by decide, fun q => absurd q (by decide), fun _ => ?_⟩)
        · refine ⟨fun x hx => ?_, fun x hx => ?_, fun x hx => ?_⟩
          · rw [hf'.2 x (by omega)]; exact hf.1 x hx
          · rw [hf'.1.2 88 rfl, hf'.1.2 89 rfl]; exact hf.2.1 x hx
          · rw [hf'.1.2 90 rfl, hf'.1.2 91 rfl]; exact hf.2.2 x hx
        have hp' := pI_J hpI
        have fr' : fR s0 s' := by
          refine ⟨fun x hx => ?_, fun x hx => ?_, fun x hx => ?_⟩
          · rw [hf'.2 x (by omega)]; exact hf.1 x hx
          · rw [hf'.1.2 88 rfl, hf'.1.2 89 rfl]; exact hf.2.1 x hx
          · rw [hf'.1.2 90 rfl, hf'.1.2 91 rfl]; exact hf.2.2 x hx
        have hns : (rA p s0 s').st ≠ -1 ∧ (rA p s0 s').st ≠ 14 := by
          constructor
          · intro q
            have := aft_stk (c := 62) (Or.inl q)
            rw [haf] at this
            exact absurd (show (7 : Int) = -1 from this) (by decide)
          · intro q
            have := aft_stk (c := 62) (Or.inr (show 14 ≤ (rA p s0 s').st by omega))
            rw [haf] at this
            exact absurd (show (7 : Int) = -1 from this) (by decide)
        refine Md_takes_ok (p := p) (by decide) (by decide) h0 hp' hns.1 hns.2 (fun q => absurd h62 q) (fun hb => ⟨by decide, fun _ => hbad s' hp' fr' hb, fun q => absurd rfl q⟩) (fun _ s26 h26 hp26 f26 k40 hr26 => ⟨by decide, fun q => absurd q (by decide), fun _ => ?_⟩)
        rw [haf] at hr26
        have st26 : (rA p s0 s26).st = 7 := by rw [hr26]
        have ha26 : aft (rA p s0 s26) (tpx s0 (s26.1 40)) = if dg10 (tpx s0 (s26.1 40)) then (Cf.of 8 (rA p s0 s26).dp (rA p s0 s26).cl (rA p s0 s26).dg (rA p s0 s26).sz) else (Cf.of (-1) (rA p s0 s26).dp (rA p s0 s26).cl (rA p s0 s26).dg (rA p s0 s26).sz) := by
          unfold aft
          rw [if_neg (by omega), if_neg (by omega), if_neg (by omega), if_neg (by omega), if_neg (by omega), if_neg (by omega), if_neg (by omega), if_pos st26]
        have hb26 := t3 (s26.1 40)
        have rc26 : rng (tpx s0 (s26.1 40)) := ⟨by omega, by omega⟩
        have fr26 : fR s0 s26 := by
          refine ⟨fun x hx => ?_, fun x hx => ?_, fun x hx => ?_⟩
          · rw [f26.2 87 rfl]; exact fr'.1 x hx
          · rw [f26.2 88 rfl, f26.2 89 rfl]; exact fr'.2.1 x hx
          · rw [f26.2 90 rfl, f26.2 91 rfl]; exact fr'.2.2 x hx
        obtain ⟨u1, u2, u3, u4⟩ := id hp26
        refine sg_ok h0 u1 u2 (isB_b (Md_isDigit_B rc26 s26) (fun nd => hbad s26 hp26 fr26 (bad_of hp26.2.1 (by omega) (by omega) (by rw [ha26, if_neg nd]))) (fun hd => sg_ok h0 u1 u2 ?_))
        rw [if_pos hd] at ha26
        have hin26 := tp_in (s0 := s0) (i := s26.1 40) (by omega)
        have n39 : s26.1 39 = s0.1 39 := u1.1 39 rfl
        refine ⟨by rw [n39]; omega, fun s34 h34 => ⟨by rw [h34, sA_1, n39]; omega, fun s35 h35 s36 h36 => ?_⟩⟩
        have f36 : frm [40] [88, 89] s26 s36 := by rw [h36, h35, h34]; exact frm_tr (frm_tr (frm_A _ _ _ (by decide)) (frm_A _ _ _ (by decide))) (frm_F _ _ (by decide))
        have m40 : s36.1 40 = s26.1 40 + 1 := by rw [h36, sF_s, h35, sA_1, h34, sA_1]
        have m88 : s36.2 88 = updF (s26.2 88) (8 * s0.1 39 + L.length) (s26.1 41) := by
          rw [h36, sF_2, h35, sA_u, h34, sA_n _ _ _ (by decide)]
          show updF (s26.2 88) (8 * s26.1 39 + L.length) (s26.1 41) = _
          rw [n39]
        have m89 : s36.2 89 = updF (s26.2 89) (8 * s0.1 39 + L.length) (tpx s0 (s26.1 40) - 48) := by
          rw [h36, sF_2, h35, sA_n _ _ _ (by decide), h34, sA_u, n39]
        have hp36 : pJ s0 s36 := ⟨frm_tr u1 (frm_mono f36 (by decide) (by decide)), by omega, by rw [f36.1 41 rfl]; omega, by rw [f36.1 41 rfl]; omega⟩
        have hr36 : rA p s0 s36 = aft (rA p s0 s26) (tpx s0 (s26.1 40)) := rA_s (by omega) m40
        rw [ha26] at hr36
        have st36 : (rA p s0 s36).st = 8 := by rw [hr36]
        have ha36 : ∀ c, aft (rA p s0 s36) c = if c = 59 then (Cf.of 0 (rA p s0 s36).dp ((rA p s0 s36).cl + 1) (rA p s0 s36).dg (rA p s0 s36).sz) else (Cf.of (-1) (rA p s0 s36).dp (rA p s0 s36).cl (rA p s0 s36).dg (rA p s0 s36).sz) := by
          intro c
          unfold aft
          rw [if_neg (by omega), if_neg (by omega), if_neg (by omega), if_neg (by omega), if_neg (by omega), if_neg (by omega), if_neg (by omega), if_neg (by omega), if_pos st36]
        have fr36 : fR s0 s36 := by
          refine ⟨fun x hx => ?_, fun x hx => ?_, fun x hx => ?_⟩
          · rw [f36.2 87 rfl]; exact fr26.1 x hx
          · rw [m88, m89, updF_n _ _ (by omega), updF_n _ _ (by omega)]; exact fr26.2.1 x hx
          · rw [f36.2 90 rfl, f36.2 91 rfl]; exact fr26.2.2 x hx
        refine Md_takes_ok (p := p) (by decide) (by decide) h0 hp36 (by omega) (by omega) (fun q => by rw [ha36, if_neg q]) (fun hb => ⟨by decide, fun q => absurd rfl q, fun _ => hbad s36 hp36 fr36 hb⟩) (fun h59 s37 h37 hp37 f37 l40 hr37 => ⟨by decide, fun _ => ?_, fun q => absurd q (by decide)⟩)
        rw [ha36, if_pos rfl] at hr37
        have v41 : s37.1 41 = s'.1 41 := by rw [f37.1 41 rfl, f36.1 41 rfl, f26.1 41 rfl]
        obtain ⟨f, hff⟩ := Classical.axiomOfChoice (r := fun (F : Int → Int) (v : Bool) => ∃ a b : Bool, TX F (tpx s0) (s.1 40) (s'.1 40) false [(a, b, false)] ∧ v = (a || b) ∧ RN F (cd s') (s.1 41) (s'.1 41) [v]) (fun F => by
          obtain ⟨a, b, q1, q2⟩ := hF F
          exact ⟨a || b, a, b, q1, rfl, q2⟩)
        have hnew := ih (L ++ [(f, tpx s0 (s26.1 40) - 48)]) s37 (by omega) hp37 ?_ ?_ ?_ ?_ ?_ ?_ ?_
        · rw [List.length_append] at hnew
          exact hnew
        · refine ⟨fun x hx => ?_, fun x hx => ?_, fun x hx => ?_⟩
          · rw [f37.2 87 rfl]; exact fr36.1 x hx
          · rw [f37.2 88 rfl, f37.2 89 rfl]; exact fr36.2.1 x hx
          · rw [f37.2 90 rfl, f37.2 91 rfl]; exact fr36.2.2 x hx
        · rw [hr37]
        · rw [hr37, hr36, hr26]; exact hdp'
        · rw [hr37, hr36, hr26, List.length_append]
          show (rA p s0 s').cl + 1 = _
          rw [hcl']
          rfl
        · rw [List.length_append]; show L.length + 1 ≤ 8; omega
        · have := CLt_s hT (show clOk (tpx s0) (s.1 40) (s'.1 40) f (tpx s0 (s26.1 40) - 48) from ⟨hlt, fun F => ?_, h62, by rw [← k40]; omega, by omega, by omega⟩)
          · rw [show s37.1 40 = s'.1 40 + 3 by omega]
            exact this
          · obtain ⟨a, b, q1, q2, q3⟩ := hff F
            exact ⟨a, b, q1, q2⟩
        · have ecd : cd s37 = cd s' := by
            funext j
            unfold cd
            rw [f37.1 39 rfl, f36.1 39 rfl, f26.1 39 rfl, f37.2 87 rfl, f36.2 87 rfl, f26.2 87 rfl]
          have o88 : s37.2 88 = updF (s'.2 88) (8 * s0.1 39 + L.length) (s26.1 41) := by rw [f37.2 88 rfl, m88, f26.2 88 rfl]
          have o89 : s37.2 89 = updF (s'.2 89) (8 * s0.1 39 + L.length) (tpx s0 (s26.1 40) - 48) := by rw [f37.2 89 rfl, m89, f26.2 89 rfl]
          have M2 : CLm (cd s37) (fun n => s37.2 88 (8 * s0.1 39 + n)) (fun n => s37.2 89 (8 * s0.1 39 + n)) 0 0 L (s.1 41) := CLm_up hM (fun j _ hj => by
            rw [ecd]
            unfold cd
            rw [hf'.1.1 39 rfl, hf'.2 _ (by omega)]) (fun j j0 j1 => by
            show s37.2 88 (8 * s0.1 39 + j) = s.2 88 (8 * s0.1 39 + j) ∧ s37.2 89 (8 * s0.1 39 + j) = s.2 89 (8 * s0.1 39 + j)
            rw [o88, o89, updF_n _ _ (by omega), updF_n _ _ (by omega), hf'.1.2 88 rfl, hf'.1.2 89 rfl]
            exact ⟨rfl, rfl⟩)
          refine CLm_s M2 ?_ (by omega) (fun F => ?_) ?_
          · show s37.1 41 = s37.2 88 (8 * s0.1 39 + (0 + L.length))
            rw [o88, show (0 : Int) + L.length = L.length by omega, updF_s, v41, f26.1 41 rfl]
          · obtain ⟨a, b, q1, q2, q3⟩ := hff F
            rw [ecd, v41]
            exact q3
          · show s37.2 89 (8 * s0.1 39 + (0 + L.length)) = _
            rw [o89, show (0 : Int) + L.length = L.length by omega, updF_s]
      · -- else
        have frk : ∀ {u : SS}, frm [40] [] s u → fR s0 u := fun {u} f => by
          refine ⟨fun x hx => ?_, fun x hx => ?_, fun x hx => ?_⟩
          · rw [f.2 87 rfl]; exact hf.1 x hx
          · rw [f.2 88 rfl, f.2 89 rfl]; exact hf.2.1 x hx
          · rw [f.2 90 rfl, f.2 91 rfl]; exact hf.2.2 x hx
        have a101 : aft (rA p s0 s) 101 = if (rA p s0 s).cl < 8 then (Cf.of 3 (rA p s0 s).dp (rA p s0 s).cl (rA p s0 s).dg (rA p s0 s).sz) else (Cf.of 9 (rA p s0 s).dp (rA p s0 s).cl (rA p s0 s).dg (rA p s0 s).sz) := by
          unfold aft
          rw [if_pos hst]
          rfl
        refine Md_takes_ok (p := p) (by decide) (by decide) h0 hp (by omega) (by omega) (fun q => absurd ye.1 q) (fun hb => ⟨by decide, fun _ => hbad s hp hf hb, fun q => absurd rfl q⟩) (fun _ s5 h5 hp5 f5 k5 hr5 => ⟨by decide, fun q => absurd q (by decide), fun _ => ?_⟩)
        rw [a101] at hr5
        have d5 : (rA p s0 s5).dp = 0 ∧ (rA p s0 s5).cl = L.length ∧ (((rA p s0 s5).st = 3 ∧ tpx s0 (s5.1 40) = 108) ∨ (rA p s0 s5).st = 9) := by
          by_cases c : (rA p s0 s).cl < 8
          · rw [if_pos c] at hr5
            rw [hr5]
            refine ⟨hdp, hcl, Or.inl ⟨rfl, ?_⟩⟩
            rcases ye.2 with z | z
            · omega
            · rw [k5]; exact z
          · rw [if_neg c] at hr5
            rw [hr5]
            exact ⟨hdp, hcl, Or.inr rfl⟩
        have h108 : aft (rA p s0 s5) 108 = (Cf.of 10 (rA p s0 s5).dp (rA p s0 s5).cl (rA p s0 s5).dg (rA p s0 s5).sz) := by
          unfold aft
          rcases d5.2.2 with z | z
          · rw [if_neg (by omega), if_neg (by omega), if_neg (by omega), if_pos z.1, if_pos rfl]
          · rw [if_neg (by omega), if_neg (by omega), if_neg (by omega), if_neg (by omega), if_neg (by omega), if_neg (by omega), if_neg (by omega), if_neg (by omega), if_neg (by omega), if_pos z, if_pos rfl]
        refine Md_takes_ok (p := p) (by decide) (by decide) h0 hp5 (by omega) (by omega) (fun q => ?_) (fun hb => ⟨by decide, fun _ => hbad s5 hp5 (frk f5) hb, fun q => absurd rfl q⟩) (fun _ s7 h7 hp7 f7 k7 hr7 => ⟨by decide, fun q => absurd q (by decide), fun _ => ?_⟩)
        · rcases d5.2.2 with z | z
          · exact absurd z.2 q
          · unfold aft
            rw [if_neg (by omega), if_neg (by omega), if_neg (by omega), if_neg (by omega), if_neg (by omega), if_neg (by omega), if_neg (by omega), if_neg (by omega), if_neg (by omega), if_pos z, if_neg q]
        rw [h108] at hr7
        have st7 : (rA p s0 s7).st = 10 := by rw [hr7]
        have ha7 : ∀ c, aft (rA p s0 s7) c = if c = 115 then (Cf.of 11 (rA p s0 s7).dp (rA p s0 s7).cl (rA p s0 s7).dg (rA p s0 s7).sz) else (Cf.of (-1) (rA p s0 s7).dp (rA p s0 s7).cl (rA p s0 s7).dg (rA p s0 s7).sz) := by
          intro c
          unfold aft
          rw [if_neg (by omega), if_neg (by omega), if_neg (by omega), if_neg (by omega), if_neg (by omega), if_neg (by omega), if_neg (by omega), if_neg (by omega), if_neg (by omega), if_neg (by omega), if_pos st7]
        refine Md_takes_ok (p := p) (by decide) (by decide) h0 hp7 (by omega) (by omega) (fun q => by rw [ha7, if_neg q]) (fun hb => ⟨by decide, fun _ => hbad s7 hp7 (frk (frm_tr f5 f7)) hb, fun q => absurd rfl q⟩) (fun _ s9 h9 hp9 f9 k9 hr9 => ⟨by decide, fun q => absurd q (by decide), fun _ => ?_⟩)
        rw [ha7, if_pos rfl] at hr9
        have st9 : (rA p s0 s9).st = 11 := by rw [hr9]
        have ha9 : ∀ c, aft (rA p s0 s9) c = if c = 101 then (Cf.of 12 (rA p s0 s9).dp (rA p s0 s9).cl (rA p s0 s9).dg (rA p s0 s9).sz) else (Cf.of (-1) (rA p s0 s9).dp (rA p s0 s9).cl (rA p s0 s9).dg (rA p s0 s9).sz) := by
          intro c
          unfold aft
          rw [if_neg (by omega), if_neg (by omega), if_neg (by omega), if_neg (by omega), if_neg (by omega), if_neg (by omega), if_neg (by omega), if_neg (by omega), if_neg (by omega), if_neg (by omega), if_neg (by omega), if_pos st9]
        refine Md_takes_ok (p := p) (by decide) (by decide) h0 hp9 (by omega) (by omega) (fun q => by rw [ha9, if_neg q]) (fun hb => ⟨by decide, fun _ => hbad s9 hp9 (frk (frm_tr (frm_tr f5 f7) f9)) hb, fun q => absurd rfl q⟩) (fun _ s11 h11 hp11 f11 k11 hr11 => ⟨by decide, fun q => absurd q (by decide), fun _ => ?_⟩)
        rw [ha9, if_pos rfl] at hr11
        have st11 : (rA p s0 s11).st = 12 := by rw [hr11]
        have ha11 : ∀ c, aft (rA p s0 s11) c = if c = 62 then (Cf.of 13 (rA p s0 s11).dp (rA p s0 s11).cl (rA p s0 s11).dg (rA p s0 s11).sz) else (Cf.of (-1) (rA p s0 s11).dp (rA p s0 s11).cl (rA p s0 s11).dg (rA p s0 s11).sz) := by
          intro c
          unfold aft
          rw [if_neg (by omega), if_neg (by omega), if_neg (by omega), if_neg (by omega), if_neg (by omega), if_neg (by omega), if_neg (by omega), if_neg (by omega), if_neg (by omega), if_neg (by omega), if_neg (by omega), if_neg (by omega), if_pos st11]
        refine Md_takes_ok (p := p) (by decide) (by decide) h0 hp11 (by omega) (by omega) (fun q => by rw [ha11, if_neg q]) (fun hb => ⟨by decide, fun _ => hbad s11 hp11 (frk (frm_tr (frm_tr (frm_tr f5 f7) f9) f11)) hb, fun q => absurd rfl q⟩) (fun _ s13 h13 hp13 f13 k13 hr13 => ⟨by decide, fun q => absurd q (by decide), fun _ => ?_⟩)
        rw [ha11, if_pos rfl] at hr13
        have st13 : (rA p s0 s13).st = 13 := by rw [hr13]
        have f13' : frm [40] [] s s13 := frm_tr (frm_tr (frm_tr (frm_tr f5 f7) f9) f11) f13
        have hb13 := t3 (s13.1 40)
        have rc13 : rng (tpx s0 (s13.1 40)) := ⟨by omega, by omega⟩
        have ha13 : aft (rA p s0 s13) (tpx s0 (s13.1 40)) = if dg10 (tpx s0 (s13.1 40)) then (Cf.of 14 (rA p s0 s13).dp (rA p s0 s13).cl (rA p s0 s13).dg (rA p s0 s13).sz) else (Cf.of (-1) (rA p s0 s13).dp (rA p s0 s13).cl (rA p s0 s13).dg (rA p s0 s13).sz) := by
          unfold aft
          rw [if_neg (by omega), if_neg (by omega), if_neg (by omega), if_neg (by omega), if_neg (by omega), if_neg (by omega), if_neg (by omega), if_neg (by omega), if_neg (by omega), if_neg (by omega), if_neg (by omega), if_neg (by omega), if_neg (by omega), if_pos st13]
        obtain ⟨u1, u2, u3, u4⟩ := id hp13
        have n39 : s13.1 39 = s0.1 39 := u1.1 39 rfl
        refine sg_ok h0 u1 u2 (isB_b (Md_isDigit_B rc13 s13) (fun nd => hbad s13 hp13 (frk f13') (bad_of hp13.2.1 (by omega) (by omega) (by rw [ha13, if_neg nd]))) (fun hd => sg_ok h0 u1 u2 ?_))
        rw [if_pos hd] at ha13
        have hin := tp_in (s0 := s0) (i := s13.1 40) (by omega)
        refine ⟨by omega, fun s21 h21 s22 h22 => ?_⟩
        have e22 : s22.1 39 = s0.1 39 := by rw [h22, sF_n _ _ (by decide), h21, sA_1, n39]
        rw [e22]
        refine ⟨t2, fun s23 h23 => ?_⟩
        have f23 : frm [40] [90, 91] s13 s23 := by rw [h23, h22, h21]; exact frm_tr (frm_tr (frm_A _ _ _ (by decide)) (frm_F _ _ (by decide))) (frm_A _ _ _ (by decide))
        have m40 : s23.1 40 = s13.1 40 + 1 := by rw [h23, sA_1, h22, sF_s, h21, sA_1]
        have m91 : s23.2 91 = updF (s13.2 91) (s0.1 39) (tpx s0 (s13.1 40) - 48) := by rw [h23, sA_n _ _ _ (by decide), h22, sF_2, h21, sA_u, n39]
        have m90 : s23.2 90 = updF (s13.2 90) (s0.1 39) L.length := by rw [h23, sA_u, h22, sF_2, h21, sA_n _ _ _ (by decide)]
        have hp23 : pJ s0 s23 := ⟨frm_tr u1 (frm_mono f23 (by decide) (by decide)), by omega, by rw [f23.1 41 rfl]; omega, by rw [f23.1 41 rfl]; omega⟩
        have hr23 : rA p s0 s23 = aft (rA p s0 s13) (tpx s0 (s13.1 40)) := rA_s (by omega) m40
        rw [ha13] at hr23
        have st23 : (rA p s0 s23).st = 14 := by rw [hr23]
        have fr23 : fR s0 s23 := by
          have q := frk f13'
          refine ⟨fun x hx => ?_, fun x hx => ?_, fun x hx => ?_⟩
          · rw [f23.2 87 rfl]; exact q.1 x hx
          · rw [f23.2 88 rfl, f23.2 89 rfl]; exact q.2.1 x hx
          · rw [m90, m91, updF_n _ _ hx, updF_n _ _ hx]; exact q.2.2 x hx
        have e30 : s23.1 30 = s0.1 30 := hp23.1.1 30 rfl
        refine ⟨⟨by omega, by omega⟩, by rw [e30]; exact ⟨by omega, by omega⟩, fun c => hbad s23 hp23 fr23 ⟨by omega, Or.inl ⟨by omega, aft_stk (Or.inr (by omega))⟩⟩, fun c => ?_⟩
        have ecd : cd s23 = cd s := by
          funext j
          unfold cd
          rw [f23.1 39 rfl, f13'.1 39 rfl, f23.2 87 rfl, f13'.2 87 rfl]
        refine hgood s23 L (s.1 40) (s.1 41) hp23 fr23 st23 (by omega) ?_ hl8 hT ?_ (by omega) (by rw [m90, updF_s]) ?_ ?_
        · rw [hr23, hr13, hr11, hr9, hr7]; exact d5.2.1
        · rw [ecd, f23.2 88 rfl, f13'.2 88 rfl, f23.2 89 rfl, f13'.2 89 rfl]; exact hM
        · rw [m91, updF_s, show s0.1 30 - 1 = s13.1 40 by omega]; omega
        · rw [m91, updF_s]; omega
  intro s1 h1 s2 h2
  have f2 : frm [40, 41] [] s0 s2 := by rw [h2, h1]; exact frm_tr (frm_F _ _ (by decide)) (frm_F _ _ (by decide))
  have k40 : s2.1 40 = 0 := by rw [h2, sF_n _ _ (by decide), h1, sF_s]
  have k41 : s2.1 41 = 0 := by rw [h2, sF_s]
  have e2 : rA p s0 s2 = run p (tpx s0) 0 := by unfold rA; rw [k40]; rfl
  refine key (s0.1 30 + 1).toNat [] s2 (by omega) ⟨frm_mono f2 (by decide) (by decide), by omega, by omega, by omega⟩ ⟨fun x _ => by rw [f2.2 87 rfl], fun x _ => by rw [f2.2 88 rfl, f2.2 89 rfl]; exact ⟨rfl, rfl⟩, fun x _ => by rw [f2.2 90 rfl, f2.2 91 rfl]; exact ⟨rfl, rfl⟩⟩ (by rw [e2]; rfl) (by rw [e2]; rfl) (by rw [e2]; rfl) (by simp) ?_ ?_
  · show s2.1 40 = 0
    exact k40
  · show s2.1 41 = 0
    exact k41
end
