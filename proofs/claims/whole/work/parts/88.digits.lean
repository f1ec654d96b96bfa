section
/-! RULES: how the model decides -/
def vr (s : SS) : List Bool → Prop
  | [] => True
  | v :: vs => s.2 92 vs.length = bI v ∧ vr s vs
theorem vr_up {s s' : SS} {vs : List Bool} : vr s vs → (∀ x : Int, x < vs.length → s'.2 92 x = s.2 92 x) → vr s' vs := by
  induction vs with
  | nil => intro _ _; trivial
  | cons v vs ih =>
    intro h q
    rw [List.length_cons] at q
    exact ⟨by rw [q _ (by omega)]; exact h.1, ih h.2 (fun x hx => q x (by omega))⟩
theorem bor_b (a b : Bool) : bor (bI a) (bI b) = bI (a || b) := by
  cases a <;> cases b <;> decide +kernel
theorem bnd_b (a b : Bool) : bnd (bI a) (bI b) = bI (a && b) := by
  cases a <;> cases b <;> decide +kernel
theorem Md_isSo_ok {r k0 k1 : Int} {v : Bool} {s : SS} {Q : Int → SS → Prop} (hr : 0 ≤ r ∧ r < 20) (hF : ∀ l, lt7 l → rng (s.2 93 l)) (h0 : 0 ≤ k0) (h1 : k1 ≤ 200) (hR : RN (s.2 93) (fun j => s.2 87 (600 * r + j)) k0 k1 [v]) (hk : ∀ s', frm [] [92] s s' → Q (bI v) s') : Sp_Md_isSo r k0 k1 s Q := by
  intro X6 g6
  have ge : ∀ {k : Int} {vs : List Bool}, RN (s.2 93) (fun j => s.2 87 (600 * r + j)) k0 k vs → k0 ≤ k := by
    intro k vs h
    induction h using RN_ind <;> omega
  have key : ∀ {k : Int} {vs : List Bool}, RN (s.2 93) (fun j => s.2 87 (600 * r + j)) k0 k vs → k ≤ k1 → (∀ s1 : SS, frm [] [92] s s1 → vr s1 vs → X6 r k1 vs.length k s1) → ∀ s1 : SS, frm [] [92] s s1 → X6 r k1 0 k0 s1 := by
    intro k vs hR
    induction hR using RN_ind with
    | st => intro _ H s1 hf; exact H s1 hf trivial
    | @f k vs hp h7 r1 r2 ih =>
      intro hle H
      refine ih (by omega) (fun s1 hf hvr => ?_)
      have hge := ge hp
      have hlen := RN_len hp
      have e87 : s1.2 87 = s.2 87 := hf.2 87 rfl
      have e93 : s1.2 93 = s.2 93 := hf.2 93 rfl
      have h7 : lt7 (s.2 87 (600 * r + k)) := h7
      have r0 : rng (s.2 87 (600 * r + k)) := ⟨by omega, by omega⟩
      have r1 : rng (s.2 87 (600 * r + (k + 1))) := r1
      have r2 : rng (s.2 87 (600 * r + (k + 2))) := r2
      rw [show 600 * r + (k + 1) = 600 * r + k + 1 by omega] at r1
      rw [show 600 * r + (k + 2) = 600 * r + k + 2 by omega] at r2
      have rF := hF _ h7
      have put : ∀ (b : Bool) (s2 : SS), s2 = sA s1 92 vs.length (bI b) → b = fct (s.2 93) (s.2 87 (600 * r + k)) (s.2 87 (600 * r + k + 1)) (s.2 87 (600 * r + k + 2)) → X6 r k1 (vs.length + 1) (k + 3) s2 := by
        intro b s2 h2 hb
        have := H s2 (by rw [h2]; exact frm_tr hf (frm_A _ _ _ (by decide))) ⟨by
          rw [h2, sA_s, if_pos rfl, hb]
          show bI _ = bI (fct (s.2 93) (s.2 87 (600 * r + k)) (s.2 87 (600 * r + (k + 1))) (s.2 87 (600 * r + (k + 2))))
          rw [show 600 * r + (k + 1) = 600 * r + k + 1 by omega, show 600 * r + (k + 2) = 600 * r + k + 2 by omega], vr_up hvr (fun x hx => by rw [h2, sA_s, if_neg (by omega)])⟩
        rw [List.length_cons] at this
        exact this
      unfold fct at put
      refine g6 _ _ _ _ _ ⟨⟨by omega, by omega⟩, ⟨by omega, by omega⟩, fun q => by omega, fun _ => ⟨by omega, by rw [e87]; exact r0, fun _ => ⟨by rw [e87]; exact r0, fun _ => ?_, fun q => by rw [e87] at q; omega⟩, fun q => by rw [e87] at q; omega⟩⟩
      rw [e87, e93]
      refine ⟨by omega, by omega, r1, fun a => ⟨r1, fun b => ⟨by omega, rF, r2, fun d => ⟨by omega, fun s2 h2 => put false s2 h2 ?_⟩, fun d => ⟨by omega, fun s2 h2 => put true s2 h2 ?_⟩⟩, fun b => ⟨by omega, rF, r2, fun d => ⟨by omega, fun s2 h2 => put false s2 h2 ?_⟩, fun d => ⟨by omega, fun s2 h2 => put true s2 h2 ?_⟩⟩⟩, fun a => ⟨by omega, rF, r2, fun d => ⟨by omega, fun s2 h2 => put false s2 h2 ?_⟩, fun d => ⟨by omega, fun s2 h2 => put true s2 h2 ?_⟩⟩⟩
      · rw [if_neg a, if_neg b, decide_eq_false (by omega)]
      · rw [if_neg a, if_neg b, decide_eq_true (by omega)]
      · rw [if_neg a, if_pos b, decide_eq_false d]
      · rw [if_neg a, if_pos b, decide_eq_true d]
      · rw [if_pos a, decide_eq_false (by omega)]
      · rw [if_pos a, decide_eq_true d]
    | @n k x vs hp h0' ih =>
      intro hle H
      refine ih (by omega) (fun s1 hf hvr => ?_)
      have hge := ge hp
      have hlen := RN_len hp
      rw [List.length_cons] at hlen ⊢
      have e87 : s1.2 87 = s.2 87 := hf.2 87 rfl
      have h0' : s.2 87 (600 * r + k) = 0 := h0'
      refine g6 _ _ _ _ _ ⟨⟨by omega, by omega⟩, ⟨by omega, by omega⟩, fun q => by omega, fun _ => ⟨by omega, by rw [e87, h0']; decide, fun q => by rw [e87] at q; exact absurd h0' q, fun _ => ?_⟩⟩
      refine ⟨by omega, by omega, fun s9 h9 => ?_⟩
      have ei : ((vs.length + 1 : Nat) : Int) - 1 = vs.length := by omega
      rw [ei, hvr.1] at h9
      have := H s9 (by rw [h9]; exact frm_tr hf (frm_A _ _ _ (by decide))) ⟨by rw [h9, sA_s, if_pos rfl]; cases x <;> rfl, vr_up hvr.2 (fun x hx => by rw [h9, sA_s, if_neg (by omega)])⟩
      rw [List.length_cons] at this
      exact this
    | @a k x y vs hp h0' ih =>
      intro hle H
      refine ih (by omega) (fun s1 hf hvr => ?_)
      have hge := ge hp
      have hlen := RN_len hp
      rw [List.length_cons, List.length_cons] at hlen ⊢
      have e87 : s1.2 87 = s.2 87 := hf.2 87 rfl
      have h0' : s.2 87 (600 * r + k) = 1 := h0'
      refine g6 _ _ _ _ _ ⟨⟨by omega, by omega⟩, ⟨by omega, by omega⟩, fun q => by omega, fun _ => ⟨by omega, by rw [e87, h0']; decide, fun _ => ⟨by rw [e87, h0']; decide, fun q => by rw [e87] at q; omega, fun _ => ⟨by rw [e87, h0']; decide, fun q => by rw [e87] at q; exact absurd h0' q, fun _ => ?_⟩⟩, fun q => by rw [e87] at q; omega⟩⟩
      obtain ⟨v1, v2, v3⟩ := hvr
      rw [List.length_cons] at v1
      have ei : ((vs.length + 1 + 1 : Nat) : Int) + (-1) = ((vs.length + 1 : Nat) : Int) := by omega
      have ej : ((vs.length + 1 : Nat) : Int) - 1 = vs.length := by omega
      rw [ei, ej]
      refine ⟨by omega, by omega, by omega, fun s8 h8 => ?_⟩
      rw [v1, v2, bnd_b] at h8
      have := H s8 (by rw [h8]; exact frm_tr hf (frm_A _ _ _ (by decide))) ⟨by rw [h8, sA_s, if_pos rfl], vr_up v3 (fun x hx => by rw [h8, sA_s, if_neg (by omega)])⟩
      rw [List.length_cons] at this
      exact this
    | @o k x y vs hp h0' ih =>
      intro hle H
      refine ih (by omega) (fun s1 hf hvr => ?_)
      have hge := ge hp
      have hlen := RN_len hp
      rw [List.length_cons, List.length_cons] at hlen ⊢
      have e87 : s1.2 87 = s.2 87 := hf.2 87 rfl
      have h0' : s.2 87 (600 * r + k) = 2 := h0'
      refine g6 _ _ _ _ _ ⟨⟨by omega, by omega⟩, ⟨by omega, by omega⟩, fun q => by omega, fun _ => ⟨by omega, by rw [e87, h0']; decide, fun _ => ⟨by rw [e87, h0']; decide, fun q => by rw [e87] at q; omega, fun _ => ⟨by rw [e87, h0']; decide, fun _ => ?_, fun q => by rw [e87] at q; omega⟩⟩, fun q => by rw [e87] at q; omega⟩⟩
      obtain ⟨v1, v2, v3⟩ := hvr
      rw [List.length_cons] at v1
      have ei : ((vs.length + 1 + 1 : Nat) : Int) + (-1) = ((vs.length + 1 : Nat) : Int) := by omega
      have ej : ((vs.length + 1 : Nat) : Int) - 1 = vs.length := by omega
      rw [ei, ej]
      refine ⟨by omega, by omega, by omega, fun s8 h8 => ?_⟩
      rw [v1, v2, bor_b] at h8
      have := H s8 (by rw [h8]; exact frm_tr hf (frm_A _ _ _ (by decide))) ⟨by rw [h8, sA_s, if_pos rfl], vr_up v3 (fun x hx => by rw [h8, sA_s, if_neg (by omega)])⟩
      rw [List.length_cons] at this
      exact this
  have hge := ge hR
  refine key hR (Int.le_refl _) (fun s1 hf hvr => ?_) s (frm_rf _ _ _)
  have hv1 : s1.2 92 0 = bI v := hvr.1
  have := hk s1 hf
  refine g6 _ _ _ _ _ ⟨⟨by omega, by omega⟩, ⟨by omega, by omega⟩, fun _ => ⟨by rw [hv1]; cases v <;> decide, fun q => ?_, fun q => ?_⟩, fun q => by omega⟩
  · rw [hv1] at q
    cases v
    · exact this
    · exact absurd rfl q
  · rw [hv1] at q
    cases v
    · exact absurd q (by decide)
    · exact this
theorem Md_digits_ok {r els k' : Int} {L : ClL} {s : SS} {X10 : Int → Int → Int → SS → Prop} {Q : Int → SS → Prop} (g10 : ∀ (x1 x3 x4 : Int) (s : SS), B_Md_digitOf_10 Q X10 x1 x3 x4 s → X10 x1 x3 x4 s) (hr : 0 ≤ r ∧ r < 20) (hF : ∀ l, lt7 l → rng (s.2 93 l)) (hk' : k' ≤ 200) (hM : CLm (fun j => s.2 87 (600 * r + j)) (fun n => s.2 88 (8 * r + n)) (fun n => s.2 89 (8 * r + n)) 0 0 L k') (h90 : s.2 90 r = L.length) (hl8 : L.length ≤ 8) (he : s.2 91 r = els) (hk : ∀ s', frm [] [92] s s' → Q (pick (s.2 93) L els) s') : X10 r 0 0 s := by
  have key : ∀ (L : ClL) (k n : Int) (s1 : SS), 0 ≤ n → 0 ≤ k → frm [] [92] s s1 → CLm (fun j => s.2 87 (600 * r + j)) (fun n => s.2 88 (8 * r + n)) (fun n => s.2 89 (8 * r + n)) k n L k' → s.2 90 r = n + L.length → (∀ s', frm [] [92] s s' → Q (pick (s.2 93) L els) s') → X10 r k n s1 := by
    intro L
    induction L with
    | nil =>
      intro k n s1 n0 k0 hf hM hn hq
      rw [List.length_nil] at hn
      have e90 : s1.2 90 = s.2 90 := hf.2 90 rfl
      have e91 : s1.2 91 = s.2 91 := hf.2 91 rfl
      refine g10 _ _ _ _ ⟨hr, ⟨by omega, by omega⟩, by rw [e90]; exact ⟨by omega, by omega⟩, fun _ => ⟨hr, ?_⟩, fun q => by rw [e90] at q; omega⟩
      rw [e91, he]
      exact hq s1 hf
    | cons g L ih =>
      intro k n s1 n0 k0 hf hM hn hq
      obtain ⟨f, d⟩ := g
      obtain ⟨⟨m1, m2⟩, m3, m4⟩ := hM
      rw [List.length_cons] at hn
      have m1 : k ≤ s.2 88 (8 * r + n) := m1
      have m3 : s.2 89 (8 * r + n) = d := m3
      have hle : s.2 88 (8 * r + n) ≤ k' := CLm_le m4
      have e90 : s1.2 90 = s.2 90 := hf.2 90 rfl
      have e88 : s1.2 88 = s.2 88 := hf.2 88 rfl
      have e87 : s1.2 87 = s.2 87 := hf.2 87 rfl
      have e93 : s1.2 93 = s.2 93 := hf.2 93 rfl
      refine g10 _ _ _ _ ⟨hr, ⟨by omega, by omega⟩, by rw [e90]; exact ⟨by omega, by omega⟩, fun q => by rw [e90] at q; omega, fun _ => ⟨by omega, ?_⟩⟩
      rw [e88]
      refine Md_isSo_ok (v := f (s.2 93)) hr (by rw [e93]; exact hF) k0 (by omega) (by rw [e93, e87]; exact m2 _) (fun s2 hf2 => ?_)
      have hf02 := frm_tr hf hf2
      cases hfv : f (s.2 93) with
      | false =>
        refine ⟨by decide, fun _ => ?_, fun q => absurd rfl q⟩
        refine ih _ (n + 1) s2 (by omega) (by omega) hf02 m4 (by omega) (fun s' hf' => ?_)
        have := hq s' hf'
        unfold pick at this
        rw [hfv, if_neg (by decide)] at this
        exact this
      | true =>
        refine ⟨by decide, fun q => absurd q (by decide), fun _ => ⟨by omega, ?_⟩⟩
        have := hq s2 hf02
        unfold pick at this
        rw [hfv, if_pos rfl] at this
        rw [hf02.2 89 rfl, m3]
        exact this
  exact key L 0 0 s (by omega) (by omega) (frm_rf _ _ _) hM (by omega) hk
end
