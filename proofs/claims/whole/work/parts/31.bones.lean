section
/-! BONES: bone, bound, least -/
def iBones (s : SS) : Prop := s.1 24 = s.1 45 ∧ (0 ≤ s.1 24 ∧ s.1 24 ≤ 20) ∧ s.2 43 = s.2 98 ∧ s.2 44 = s.2 97 ∧ (∀ h, 0 ≤ h → h < 32 → 0 ≤ s.2 44 h ∧ s.2 44 h ≤ 12) ∧ (∀ x, 0 ≤ s.2 43 x ∧ s.2 43 x ≤ 99)
theorem iBones_agr {s t : SS} (h : agr [24, 45] [43, 44, 97, 98] s t) (q : iBones s) : iBones t := by
  have e1 := h.1 24 (by decide)
  have e2 := h.1 45 (by decide)
  have e3 := h.2 43 (by decide)
  have e4 := h.2 44 (by decide)
  have e5 := h.2 97 (by decide)
  have e6 := h.2 98 (by decide)
  unfold iBones
  rw [e1, e2, e3, e4, e5, e6]
  exact q
theorem Gr_isGrave_B {x : Int} (h : rng x) (s : SS) : isB (0 ≤ x ∧ x ≤ 3) s (Sp_Gr_isGrave x s) := by
  intro K h1 h0
  obtain ⟨a, b⟩ := h
  unfold Sp_Gr_isGrave
  (repeat' first | apply And.intro | intro _) <;> first | omega | exact h1 (by omega) | exact h0 (by omega)
def updF (f : Int → Int) (p v : Int) : Int → Int := fun x => if x = p then v else f x
theorem sA_u (s : SS) (k : Nat) (p v : Int) : (sA s k p v).2 k = updF (s.2 k) p v := funext fun x => sA_s s k p x v
theorem updF_b {f : Int → Int} {p v lo hi : Int} (h : ∀ x, lo ≤ f x ∧ f x ≤ hi) (hv : lo ≤ v ∧ v ≤ hi) : ∀ x, lo ≤ updF f p v x ∧ updF f p v x ≤ hi := by
  intro x
  unfold updF
  split
  · exact hv
  · exact h x
def insF : Nat → (Int → Int) → Int → Int → Int → Int
  | 0, f, p, v => updF f p v
  | n + 1, f, p, v => if f (p - 1) ≤ v then updF f p v else insF n (updF f p (f (p - 1))) (p - 1) v
theorem insF_s (n : Nat) (f : Int → Int) (p v : Int) : insF (n + 1) f p v = if f (p - 1) ≤ v then updF f p v else insF n (updF f p (f (p - 1))) (p - 1) v := rfl
theorem insF_b (n : Nat) : ∀ (f : Int → Int) (p v : Int), (∀ x, 0 ≤ f x ∧ f x ≤ 99) → (0 ≤ v ∧ v ≤ 99) → ∀ x, 0 ≤ insF n f p v x ∧ insF n f p v x ≤ 99 := by
  induction n with
  | zero => intro f p v hf hv; exact updF_b hf hv
  | succ n ih =>
    intro f p v hf hv
    unfold insF
    split
    · exact updF_b hf hv
    · exact ih _ _ _ (updF_b hf (hf _)) hv
theorem Bn_lay_ok {x1 x2 x3 x4 : Int} {s : SS} {Q : Int → SS → Prop} (a1 : 0 ≤ x1 ∧ x1 ≤ 3) (a2 : 0 ≤ x2 ∧ x2 ≤ 3) (a3 : 0 ≤ x3 ∧ x3 ≤ 1) (a4 : 0 ≤ x4 ∧ x4 ≤ 99) (hb : ∀ x, 0 ≤ s.2 43 x ∧ s.2 43 x ≤ 99) (c0 : 0 ≤ s.2 44 (8 * x1 + 2 * x2 + x3)) (c1 : s.2 44 (8 * x1 + 2 * x2 + x3) < 12)
    (hk : ∀ s', frm [] [43, 44] s s' → s'.2 43 = insF (s.2 44 (8 * x1 + 2 * x2 + x3)).toNat (s.2 43) (12 * (8 * x1 + 2 * x2 + x3) + s.2 44 (8 * x1 + 2 * x2 + x3)) x4 → s'.2 44 = updF (s.2 44) (8 * x1 + 2 * x2 + x3) (s.2 44 (8 * x1 + 2 * x2 + x3) + 1) → Q (s.2 44 (8 * x1 + 2 * x2 + x3) + 1) s') : Sp_Bn_lay x1 x2 x3 x4 s Q := by
  intro X17 X76 h17 h76
  unfold B_Bn_lay_e Sp_Bn_heapOf
  have e0 : ((x1 * 4 + x2) * 2) + x3 = 8 * x1 + 2 * x2 + x3 := by omega
  rw [e0]
  generalize hh : 8 * x1 + 2 * x2 + x3 = h at *
  have hr : 0 ≤ h ∧ h < 32 := by omega
  refine ⟨hr, ?_⟩
  have k76 : ∀ (p : Int) (s1 : SS), 0 ≤ p → p < 12 → frm [] [43] s s1 → updF (s1.2 43) (12 * h + p) x4 = insF (s.2 44 h).toNat (s.2 43) (12 * h + s.2 44 h) x4 → X76 x4 h p s1 := by
    intro p s1 p0 p1 hf he
    have e44 : s1.2 44 = s.2 44 := hf.2 44 rfl
    refine h76 _ _ _ _ ?_
    unfold B_Bn_lay_76
    refine ⟨by omega, fun s4 h4 => ⟨hr, hr, fun s5 h5 => ⟨hr, ?_⟩⟩⟩
    have f4 : frm [] [43, 44] s s4 := by
      rw [h4]
      exact frm_tr (frm_mono hf (fun _ h => h) (by decide)) (frm_A s1 _ _ (by decide))
    have f5 : frm [] [43, 44] s s5 := by rw [h5]; exact frm_tr f4 (frm_A s4 _ _ (by decide))
    have g4 : s4.2 44 = s.2 44 := by rw [h4, sA_n s1 _ _ (by decide), e44]
    have g5 : s5.2 44 = updF (s.2 44) h (s.2 44 h + 1) := by rw [h5, sA_u, g4]
    have q5 : s5.2 44 h = s.2 44 h + 1 := by rw [g5]; exact if_pos rfl
    rw [q5]
    refine hk s5 f5 ?_ g5
    rw [h5, sA_n s4 _ _ (by decide), h4, sA_u, ← he, show h * 12 + p = 12 * h + p by omega]
  have k17 : ∀ (n : Nat) (s1 : SS), n < 12 → frm [] [43] s s1 → (∀ x, 0 ≤ s1.2 43 x ∧ s1.2 43 x ≤ 99) → insF n (s1.2 43) (12 * h + n) x4 = insF (s.2 44 h).toNat (s.2 43) (12 * h + s.2 44 h) x4 → X17 x4 h n s1 := by
    intro n
    induction n with
    | zero =>
      intro s1 hn hf hb1 he
      refine h17 _ _ _ _ ⟨by decide, fun _ => k76 0 s1 (by omega) (by omega) hf ?_, fun c => by omega⟩
      rw [← he]; rfl
    | succ n ih =>
      intro s1 hn hf hb1 he
      have ex : h * 12 + ((n + 1 : Nat) : Int) - 1 = 12 * h + ((n + 1 : Nat) : Int) - 1 := by omega
      have ey : h * 12 + ((n + 1 : Nat) : Int) = 12 * h + ((n + 1 : Nat) : Int) := by omega
      have hbx := hb1 (12 * h + ((n + 1 : Nat) : Int) - 1)
      rw [insF_s] at he
      refine h17 _ _ _ _ ⟨⟨by omega, by omega⟩, fun c => by omega, fun _ => ?_⟩
      rw [ex, ey]
      refine ⟨by omega, ⟨by omega, by omega⟩, ⟨by omega, by omega⟩, fun c => ?_, fun c => ⟨by omega, by omega, fun s3 h3 => ?_⟩⟩
      · rw [if_pos c] at he
        exact k76 _ s1 (by omega) (by omega) hf he
      · rw [if_neg (by omega)] at he
        have e3 : s3.2 43 = updF (s1.2 43) (12 * h + ((n + 1 : Nat) : Int)) (s1.2 43 (12 * h + ((n + 1 : Nat) : Int) - 1)) := by rw [h3, sA_u]
        have en : ((n + 1 : Nat) : Int) + (-1) = (n : Int) := by omega
        rw [en]
        refine ih s3 (by omega) (by rw [h3]; exact frm_tr hf (frm_A s1 _ _ (by decide))) (by rw [e3]; exact updF_b hb1 hbx) ?_
        rw [e3, ← he, show 12 * h + ((n + 1 : Nat) : Int) - 1 = 12 * h + (n : Int) by omega]
  have := k17 (s.2 44 h).toNat s (by omega) (frm_rf _ _ s) hb (by rw [show (((s.2 44 h).toNat : Nat) : Int) = s.2 44 h by omega])
  rwa [show (((s.2 44 h).toNat : Nat) : Int) = s.2 44 h by omega] at this
def dBone (x1 x2 x3 x4 c : Int) : Int := if ¬ (0 ≤ x1 ∧ x1 ≤ 3) then -1 else if ¬ (0 ≤ x2 ∧ x2 ≤ 3) ∨ ¬ (0 ≤ x3 ∧ x3 ≤ 1) ∨ ¬ (0 ≤ x4 ∧ x4 ≤ 99) then -2 else if c = 12 then -4 else 0
theorem LS_bone_ok {x1 x2 x3 x4 : Int} {s : SS} {Q : Int → SS → Prop} (r1 : rng x1) (r2 : rng x2) (r3 : rng x3) (r4 : rng x4) (hc : ∀ h, 0 ≤ h → h < 32 → 0 ≤ s.2 44 h ∧ s.2 44 h ≤ 12) (hb : ∀ x, 0 ≤ s.2 43 x ∧ s.2 43 x ≤ 99)
    (hn : dBone x1 x2 x3 x4 (s.2 44 (8 * x1 + 2 * x2 + x3)) ≠ 0 → Q (dBone x1 x2 x3 x4 (s.2 44 (8 * x1 + 2 * x2 + x3))) s)
    (hk : dBone x1 x2 x3 x4 (s.2 44 (8 * x1 + 2 * x2 + x3)) = 0 → ∀ s', frm [] [43, 44] s s' → s'.2 43 = insF (s.2 44 (8 * x1 + 2 * x2 + x3)).toNat (s.2 43) (12 * (8 * x1 + 2 * x2 + x3) + s.2 44 (8 * x1 + 2 * x2 + x3)) x4 → s'.2 44 = updF (s.2 44) (8 * x1 + 2 * x2 + x3) (s.2 44 (8 * x1 + 2 * x2 + x3) + 1) → Q (s.2 44 (8 * x1 + 2 * x2 + x3) + 1) s') : Sp_LS_bone x1 x2 x3 x4 s Q := by
  have hn' : ∀ v : Int, v = dBone x1 x2 x3 x4 (s.2 44 (8 * x1 + 2 * x2 + x3)) → v ≠ 0 → Q v s := fun v e h => by rw [e] at h ⊢; exact hn h
  unfold Sp_LS_bone
  refine isB_b (Gr_isGrave_B r1 s) (fun c1 => hn' _ ?_ (by decide)) (fun c1 => ⟨r2, fun c => hn' _ ?_ (by decide), fun c2 => ⟨r2, fun c => hn' _ ?_ (by decide), fun c3 => ⟨r3, fun c => hn' _ ?_ (by decide), fun c4 => ⟨r3, fun c => hn' _ ?_ (by decide), fun c5 => ⟨r4, fun c => hn' _ ?_ (by decide), fun c6 => ⟨r4, fun c7 => ?_, fun c => hn' _ ?_ (by decide)⟩⟩⟩⟩⟩⟩)
  all_goals try (unfold dBone; (repeat' split) <;> omega)
  have hd := hc (8 * x1 + 2 * x2 + x3) (by omega) (by omega)
  unfold Sp_Bn_isFull Sp_Bn_heapOf
  rw [show ((x1 * 4 + x2) * 2) + x3 = 8 * x1 + 2 * x2 + x3 by omega]
  refine ⟨by omega, ⟨by omega, by omega⟩, fun d => b0 (Bn_lay_ok c1 ⟨by omega, by omega⟩ ⟨by omega, by omega⟩ ⟨by omega, by omega⟩ hb hd.1 d (hk ?_)), fun d => b1 (hn' _ ?_ (by decide))⟩
  all_goals (unfold dBone; (repeat' split) <;> omega)
theorem Md_bone_ok {x1 x2 x3 x4 : Int} {s : SS} {Q : Int → SS → Prop} (r1 : rng x1) (r2 : rng x2) (r3 : rng x3) (r4 : rng x4) (hc : ∀ h, 0 ≤ h → h < 32 → 0 ≤ s.2 97 h ∧ s.2 97 h ≤ 12) (hb : ∀ x, 0 ≤ s.2 98 x ∧ s.2 98 x ≤ 99)
    (hn : dBone x1 x2 x3 x4 (s.2 97 (8 * x1 + 2 * x2 + x3)) ≠ 0 → Q (dBone x1 x2 x3 x4 (s.2 97 (8 * x1 + 2 * x2 + x3))) s)
    (hk : dBone x1 x2 x3 x4 (s.2 97 (8 * x1 + 2 * x2 + x3)) = 0 → ∀ s', frm [] [97, 98] s s' → s'.2 98 = insF (s.2 97 (8 * x1 + 2 * x2 + x3)).toNat (s.2 98) (12 * (8 * x1 + 2 * x2 + x3) + s.2 97 (8 * x1 + 2 * x2 + x3)) x4 → s'.2 97 = updF (s.2 97) (8 * x1 + 2 * x2 + x3) (s.2 97 (8 * x1 + 2 * x2 + x3) + 1) → Q (s.2 97 (8 * x1 + 2 * x2 + x3) + 1) s') : Sp_Md_bone x1 x2 x3 x4 s Q := by
  have hn' : ∀ v : Int, v = dBone x1 x2 x3 x4 (s.2 97 (8 * x1 + 2 * x2 + x3)) → v ≠ 0 → Q v s := fun v e h => by rw [e] at h ⊢; exact hn h
  intro X88 X147 h88 h147
  unfold B_Md_bone_e
  refine ⟨r1, isB_b (Md_isIn_B r1 (by decide) (by decide) s) (fun c1 => hn' _ ?_ (by decide)) (fun c1 => ⟨r2, isB_a (Md_isIn_B r2 (by decide) (by decide) s) (fun c2 => hn' _ ?_ (by decide)) (fun c2 => ⟨r3, isB_a (Md_isIn_B r3 (by decide) (by decide) s) (fun c3 => hn' _ ?_ (by decide)) (fun c3 => ⟨r4, isB_b (Md_isIn_B r4 (by decide) (by decide) s) (fun c4 => hn' _ ?_ (by decide)) (fun c4 => ?_)⟩)⟩)⟩)⟩
  all_goals try (unfold dBone; (repeat' split) <;> omega)
  have hd := hc (8 * x1 + 2 * x2 + x3) (by omega) (by omega)
  refine ⟨by omega, ⟨by omega, by omega⟩, fun d => ⟨by omega, ?_⟩, fun d => hn' _ ?_ (by decide)⟩
  rotate_left
  · unfold dBone; (repeat' split) <;> omega
  have hk := hk (by unfold dBone; (repeat' split) <;> omega)
  generalize hh : 8 * x1 + 2 * x2 + x3 = h at *
  have hr : 0 ≤ h ∧ h < 32 := by omega
  have k76 : ∀ (p : Int) (s1 : SS), 0 ≤ p → p < 12 → frm [] [98] s s1 → updF (s1.2 98) (12 * h + p) x4 = insF (s.2 97 h).toNat (s.2 98) (12 * h + s.2 97 h) x4 → X147 x4 h p s1 := by
    intro p s1 p0 p1 hf he
    have e44 : s1.2 97 = s.2 97 := hf.2 97 rfl
    refine h147 _ _ _ _ ?_
    unfold B_Md_bone_147
    refine ⟨by omega, fun s4 h4 => ⟨hr, hr, fun s5 h5 => ⟨hr, ?_⟩⟩⟩
    have f4 : frm [] [97, 98] s s4 := by
      rw [h4]
      exact frm_tr (frm_mono hf (fun _ h => h) (by decide)) (frm_A s1 _ _ (by decide))
    have f5 : frm [] [97, 98] s s5 := by rw [h5]; exact frm_tr f4 (frm_A s4 _ _ (by decide))
    have g4 : s4.2 97 = s.2 97 := by rw [h4, sA_n s1 _ _ (by decide), e44]
    have g5 : s5.2 97 = updF (s.2 97) h (s.2 97 h + 1) := by rw [h5, sA_u, g4]
    have q5 : s5.2 97 h = s.2 97 h + 1 := by rw [g5]; exact if_pos rfl
    rw [q5]
    refine hk s5 f5 ?_ g5
    rw [h5, sA_n s4 _ _ (by decide), h4, sA_u, ← he]
  have k17 : ∀ (n : Nat) (s1 : SS), n < 12 → frm [] [98] s s1 → (∀ x, 0 ≤ s1.2 98 x ∧ s1.2 98 x ≤ 99) → insF n (s1.2 98) (12 * h + n) x4 = insF (s.2 97 h).toNat (s.2 98) (12 * h + s.2 97 h) x4 → X88 x4 h n s1 := by
    intro n
    induction n with
    | zero =>
      intro s1 hn hf hb1 he
      refine h88 _ _ _ _ ⟨by decide, fun _ => k76 0 s1 (by omega) (by omega) hf ?_, fun c => by omega⟩
      rw [← he]; rfl
    | succ n ih =>
      intro s1 hn hf hb1 he
      have hbx := hb1 (12 * h + ((n + 1 : Nat) : Int) - 1)
      rw [insF_s] at he
      refine h88 _ _ _ _ ⟨⟨by omega, by omega⟩, fun c => by omega, fun _ => ?_⟩
      refine ⟨by omega, ⟨by omega, by omega⟩, ⟨by omega, by omega⟩, fun c => ?_, fun c => ⟨by omega, by omega, fun s3 h3 => ?_⟩⟩
      · rw [if_pos c] at he
        exact k76 _ s1 (by omega) (by omega) hf he
      · rw [if_neg (by omega)] at he
        have e3 : s3.2 98 = updF (s1.2 98) (12 * h + ((n + 1 : Nat) : Int)) (s1.2 98 (12 * h + ((n + 1 : Nat) : Int) - 1)) := by rw [h3, sA_u]
        have en : ((n + 1 : Nat) : Int) + (-1) = (n : Int) := by omega
        rw [en]
        refine ih s3 (by omega) (by rw [h3]; exact frm_tr hf (frm_A s1 _ _ (by decide))) (by rw [e3]; exact updF_b hb1 hbx) ?_
        rw [e3, ← he, show 12 * h + ((n + 1 : Nat) : Int) - 1 = 12 * h + (n : Int) by omega]
  have := k17 (s.2 97 h).toNat s (by omega) (frm_rf _ _ s) hb (by rw [show (((s.2 97 h).toNat : Nat) : Int) = s.2 97 h by omega])
  rwa [show (((s.2 97 h).toNat : Nat) : Int) = s.2 97 h by omega] at this
theorem sim_bone {x1 x2 x3 x4 : Int} {s : SS} {K : Int → Int → SS → Prop} (r1 : rng x1) (r2 : rng x2) (r3 : rng x3) (r4 : rng x4) (hi : iBones s) (hk : ∀ r s', rng r → iBones s' → frm [24, 45] [43, 44, 97, 98] s s' → K r r s') : Sp_LS_bone x1 x2 x3 x4 s (fun a s1 => Sp_Md_bone x1 x2 x3 x4 s1 (fun b s2 => K a b s2)) := by
  obtain ⟨i1, i2, i3, i4, i5, i6⟩ := id hi
  have hdr : rng (dBone x1 x2 x3 x4 (s.2 44 (8 * x1 + 2 * x2 + x3))) := by unfold dBone; (repeat' split) <;> decide
  refine LS_bone_ok r1 r2 r3 r4 i5 i6 (fun h => ?_) (fun h s1 hf e1 e2 => ?_)
  · refine Md_bone_ok r1 r2 r3 r4 (i4 ▸ i5) (i3 ▸ i6) (fun h2 => ?_) (fun h2 => ?_)
    · rw [← i4]; exact hk _ s hdr hi (frm_rf _ _ s)
    · rw [i4] at h; exact absurd h2 h
  · have hin : 0 ≤ x1 ∧ x1 ≤ 3 ∧ 0 ≤ x2 ∧ x2 ≤ 3 ∧ 0 ≤ x3 ∧ x3 ≤ 1 ∧ 0 ≤ x4 ∧ x4 ≤ 99 := by
      unfold dBone at h
      split at h
      · omega
      · split at h <;> omega
    have hcb := i5 (8 * x1 + 2 * x2 + x3) (by omega) (by omega)
    have e97 : s1.2 97 = s.2 44 := by rw [hf.2 97 rfl, i4]
    have e98 : s1.2 98 = s.2 43 := by rw [hf.2 98 rfl, i3]
    refine Md_bone_ok r1 r2 r3 r4 (e97 ▸ i5) (e98 ▸ i6) (fun h2 => ?_) (fun h2 s2 hf2 g1 g2 => ?_)
    · rw [e97] at h2; exact absurd h h2
    · rw [e97]
      rw [e97, e98] at g1
      rw [e97] at g2
      have q24 : s2.1 24 = s.1 24 := by rw [hf2.1 24 rfl, hf.1 24 rfl]
      have q45 : s2.1 45 = s.1 45 := by rw [hf2.1 45 rfl, hf.1 45 rfl]
      have q43 : s2.2 43 = s1.2 43 := hf2.2 43 rfl
      have q44 : s2.2 44 = s1.2 44 := hf2.2 44 rfl
      refine hk _ s2 ⟨by omega, by omega⟩ ⟨by rw [q24, q45, i1], by rw [q24]; exact i2, by rw [q43, e1, g1], by rw [q44, e2, g2], ?_, ?_⟩ (frm_tr (frm_mono hf (by decide) (by decide)) (frm_mono hf2 (by decide) (by decide)))
      · intro h5 p1 p2
        rw [q44, e2]
        have hd5 : dBone x1 x2 x3 x4 (s.2 44 (8 * x1 + 2 * x2 + x3)) = 0 := h
        have hne : s.2 44 (8 * x1 + 2 * x2 + x3) ≠ 12 := by
          intro q
          unfold dBone at hd5
          rw [if_neg (by omega), if_neg (by omega), if_pos q] at hd5
          exact absurd hd5 (by decide)
        unfold updF
        split
        · omega
        · exact i5 h5 p1 p2
      · rw [q43, e1]
        exact insF_b _ _ _ _ i6 (by omega)
theorem sim_bound {x1 : Int} {s : SS} {K : Int → Int → SS → Prop} (r1 : rng x1) (hi : iBones s) (hk : ∀ r s', rng r → iBones s' → frm [24, 45] [43, 44, 97, 98] s s' → K r r s') : Sp_LS_bound x1 s (fun a s1 => Sp_Md_bound x1 s1 (fun b s2 => K a b s2)) := by
  obtain ⟨i1, i2, i3, i4, i5, i6⟩ := id hi
  have bad : ¬ (0 ≤ x1 ∧ x1 ≤ 20) → Sp_Md_bound x1 s (fun b s2 => K (-2) b s2) := by
    intro c
    exact ⟨r1, isB_b (Md_isIn_B r1 (by decide) (by decide) s) (fun _ => hk _ s (by decide) hi (frm_rf _ _ s)) (fun d => absurd d c)⟩
  refine ⟨r1, fun c => bad (by omega), fun c => ⟨r1, fun d => ?_, fun d => bad (by omega)⟩⟩
  intro s1 h1
  refine ⟨r1, isB_b (Md_isIn_B r1 (by decide) (by decide) s1) (fun q => absurd ⟨c, d⟩ q) (fun _ s3 h3 => ?_)⟩
  have e1 : s1.1 45 = s.1 24 := by rw [h1, sF_n s x1 (by decide), i1]
  rw [e1]
  have f1 : frm [24, 45] [43, 44, 97, 98] s s1 := by rw [h1]; exact frm_F s x1 (by decide)
  have f3 : frm [24, 45] [43, 44, 97, 98] s1 s3 := by rw [h3]; exact frm_F s1 x1 (by decide)
  have g2 : s3.2 = s.2 := by rw [h3, sF_2, h1, sF_2]
  have g24 : s3.1 24 = x1 := by rw [h3, sF_n s1 x1 (by decide), h1, sF_s]
  have g45 : s3.1 45 = x1 := by rw [h3, sF_s]
  refine hk _ s3 ⟨by omega, by omega⟩ ⟨by rw [g24, g45], by rw [g24]; exact ⟨c, d⟩, by rw [g2]; exact i3, by rw [g2]; exact i4, by rw [g2]; exact i5, by rw [g2]; exact i6⟩ (frm_tr f1 f3)
def cplF : Nat → (Int → Int) → (Int → Int) → Int → Int → Int → Int → Int → Int → Int
  | 0, _, _, _, _, _, _, _, n => n
  | t + 1, f, c, d, l, r, i, j, n => if c l ≤ i then n else if c r ≤ j then n else if d < f (12 * l + i) - f (12 * r + j) then cplF t f c d l r i (j + 1) n else if f (12 * l + i) - f (12 * r + j) < -d then cplF t f c d l r (i + 1) j n else cplF t f c d l r (i + 1) (j + 1) (n + 1)
theorem cplF_b (f c : Int → Int) (d l r : Int) : ∀ (t : Nat) (i j n : Int), i ≤ c l → n ≤ cplF t f c d l r i j n ∧ cplF t f c d l r i j n ≤ n + (c l - i) := by
  intro t
  induction t with
  | zero => intro i j n h; unfold cplF; omega
  | succ t ih =>
    intro i j n h
    unfold cplF
    split
    · omega
    · split
      · omega
      · split
        · exact ih i (j + 1) n h
        · split
          · have := ih (i + 1) j n (by omega); omega
          · have := ih (i + 1) (j + 1) (n + 1) (by omega); omega
theorem Bn_couples_ok {l r : Int} {s : SS} {Q : Int → SS → Prop} (hl : 0 ≤ l ∧ l < 32) (hr : 0 ≤ r ∧ r < 32) (hd : 0 ≤ s.1 24 ∧ s.1 24 ≤ 20) (hc : ∀ h, 0 ≤ h → h < 32 → 0 ≤ s.2 44 h ∧ s.2 44 h ≤ 12) (hb : ∀ x, 0 ≤ s.2 43 x ∧ s.2 43 x ≤ 99) (hk : Q (cplF 25 (s.2 43) (s.2 44) (s.1 24) l r 0 0 0) s) : Sp_Bn_couples l r s Q := by
  intro X8 h8
  have k8 : ∀ (t : Nat) (i j n : Int), 0 ≤ i → i ≤ 12 → 0 ≤ j → j ≤ 12 → 24 - i - j < t → Q (cplF t (s.2 43) (s.2 44) (s.1 24) l r i j n) s → X8 l r i j n s := by
    intro t
    induction t with
    | zero => intro i j n a1 a2 a3 a4 a5; omega
    | succ t ih =>
      intro i j n a1 a2 a3 a4 a5 hq
      have c1 := hc l hl.1 hl.2
      have c2 := hc r hr.1 hr.2
      have b1 := hb (12 * l + i)
      have b2 := hb (12 * r + j)
      have e1 : l * 12 + i = 12 * l + i := by omega
      have e2 : r * 12 + j = 12 * r + j := by omega
      unfold cplF at hq
      refine h8 _ _ _ _ _ _ ?_
      unfold B_Bn_couples_8
      rw [e1, e2]
      refine ⟨hl, ⟨by omega, by omega⟩, ⟨by omega, by omega⟩, fun c => ?_, fun c => ⟨hr, ⟨by omega, by omega⟩, ⟨by omega, by omega⟩, fun c3 => ?_, fun c3 => ⟨by omega, by omega, ⟨by omega, by omega⟩, ⟨by omega, by omega⟩, fun c4 => ⟨⟨by omega, by omega⟩, ⟨by omega, by omega⟩, fun c5 => ?_, fun c5 => ?_⟩, fun c4 => ?_⟩⟩⟩
      · rw [if_pos c] at hq; exact hq
      · rw [if_neg (by omega), if_pos c3] at hq; exact hq
      · rw [if_neg (by omega), if_neg (by omega), if_neg (by omega), if_neg (by omega)] at hq
        exact ih _ _ _ (by omega) (by omega) (by omega) (by omega) (by omega) hq
      · rw [if_neg (by omega), if_neg (by omega), if_neg (by omega), if_pos c5] at hq
        exact ih _ _ _ (by omega) (by omega) (by omega) (by omega) (by omega) hq
      · rw [if_neg (by omega), if_neg (by omega), if_pos c4] at hq
        exact ih _ _ _ (by omega) (by omega) (by omega) (by omega) (by omega) hq
  exact k8 25 0 0 0 (by omega) (by omega) (by omega) (by omega) (by omega) hk
theorem Md_couples_ok {l r : Int} {s : SS} {Q : Int → SS → Prop} (hl : 0 ≤ l ∧ l < 32) (hr : 0 ≤ r ∧ r < 32) (hd : 0 ≤ s.1 45 ∧ s.1 45 ≤ 20) (hc : ∀ h, 0 ≤ h → h < 32 → 0 ≤ s.2 97 h ∧ s.2 97 h ≤ 12) (hb : ∀ x, 0 ≤ s.2 98 x ∧ s.2 98 x ≤ 99) (hk : Q (cplF 25 (s.2 98) (s.2 97) (s.1 45) l r 0 0 0) s) : Sp_Md_couples l r s Q := by
  intro X8 h8
  have k8 : ∀ (t : Nat) (i j n : Int), 0 ≤ i → i ≤ 12 → 0 ≤ j → j ≤ 12 → 24 - i - j < t → Q (cplF t (s.2 98) (s.2 97) (s.1 45) l r i j n) s → X8 l r i j n s := by
    intro t
    induction t with
    | zero => intro i j n a1 a2 a3 a4 a5; omega
    | succ t ih =>
      intro i j n a1 a2 a3 a4 a5 hq
      have c1 := hc l hl.1 hl.2
      have c2 := hc r hr.1 hr.2
      have b1 := hb (12 * l + i)
      have b2 := hb (12 * r + j)
      unfold cplF at hq
      refine h8 _ _ _ _ _ _ ?_
      unfold B_Md_couples_8
      refine ⟨hl, ⟨by omega, by omega⟩, ⟨by omega, by omega⟩, fun c => ?_, fun c => ⟨hr, ⟨by omega, by omega⟩, ⟨by omega, by omega⟩, fun c3 => ?_, fun c3 => ⟨by omega, by omega, ⟨by omega, by omega⟩, ⟨by omega, by omega⟩, fun c4 => ⟨⟨by omega, by omega⟩, fun c5 => by omega, fun c5 => ?_⟩, fun c4 => ⟨⟨by omega, by omega⟩, ⟨by omega, by omega⟩, fun c5 => ⟨⟨by omega, by omega⟩, fun c6 => ?_, fun c6 => by omega⟩, fun c5 => ?_⟩⟩⟩⟩
      · rw [if_pos c] at hq; exact hq
      · rw [if_neg (by omega), if_pos c3] at hq; exact hq
      · rw [if_neg (by omega), if_neg (by omega), if_neg (by omega), if_pos c4] at hq
        exact ih _ _ _ (by omega) (by omega) (by omega) (by omega) (by omega) hq
      · rw [if_neg (by omega), if_neg (by omega), if_pos c5] at hq
        exact ih _ _ _ (by omega) (by omega) (by omega) (by omega) (by omega) hq
      · rw [if_neg (by omega), if_neg (by omega), if_neg (by omega), if_neg (by omega)] at hq
        exact ih _ _ _ (by omega) (by omega) (by omega) (by omega) (by omega) hq
  exact k8 25 0 0 0 (by omega) (by omega) (by omega) (by omega) (by omega) hk
/-- of one pair of a grave -/
def prF (f c : Int → Int) (d h : Int) : Int := c h + c (h + 1) - cplF 25 f c d h (h + 1) 0 0 0
def lstF (f c : Int → Int) (d g : Int) : Int := max (max (max (max 0 (prF f c d (8 * g))) (prF f c d (8 * g + 2))) (prF f c d (8 * g + 4))) (prF f c d (8 * g + 6))
theorem prF_b {f c : Int → Int} {d h : Int} (hc : ∀ h, 0 ≤ h → h < 32 → 0 ≤ c h ∧ c h ≤ 12) (h0 : 0 ≤ h) (h1 : h < 31) : 0 ≤ prF f c d h ∧ prF f c d h ≤ 24 := by
  have b := cplF_b f c d h (h + 1) 25 0 0 0 (hc h h0 (by omega)).1
  have c1 := hc h h0 (by omega)
  have c2 := hc (h + 1) (by omega) (by omega)
  unfold prF
  omega
theorem Bn_least_ok {g : Int} {s : SS} {Q : Int → SS → Prop} (hg : 0 ≤ g ∧ g ≤ 3) (hd : 0 ≤ s.1 24 ∧ s.1 24 ≤ 20) (hc : ∀ h, 0 ≤ h → h < 32 → 0 ≤ s.2 44 h ∧ s.2 44 h ≤ 12) (hb : ∀ x, 0 ≤ s.2 43 x ∧ s.2 43 x ≤ 99) (hk : Q (lstF (s.2 43) (s.2 44) (s.1 24) g) s) : Sp_Bn_leastPersons g s Q := by
  intro X4 h4
  have step : ∀ m p : Int, 0 ≤ p → p < 4 → 0 ≤ m → m ≤ 24 → X4 g (max m (prF (s.2 43) (s.2 44) (s.1 24) (8 * g + 2 * p))) (p + 1) s → X4 g m p s := by
    intro m p p0 p1 m0 m1 hx
    have bp := prF_b (f := s.2 43) (d := s.1 24) hc (h := 8 * g + 2 * p) (by omega) (by omega)
    refine h4 _ _ _ _ ⟨⟨by omega, by omega⟩, fun c => by omega, fun _ => ?_⟩
    unfold Sp_Bn_heapOf
    rw [show ((g * 4 + p) * 2) + 0 = 8 * g + 2 * p by omega, show ((g * 4 + p) * 2) + 1 = 8 * g + 2 * p + 1 by omega]
    refine ⟨by omega, by omega, Bn_couples_ok (by omega) (by omega) hd hc hb ?_⟩
    exact ⟨⟨by omega, by omega⟩, ⟨by have := bp.1; unfold prF at this; omega, by have := bp.2; unfold prF at this; omega⟩, hx⟩
  have bq : ∀ p : Int, 0 ≤ p → p < 4 → 0 ≤ prF (s.2 43) (s.2 44) (s.1 24) (8 * g + 2 * p) ∧ prF (s.2 43) (s.2 44) (s.1 24) (8 * g + 2 * p) ≤ 24 := fun p a b => prF_b hc (by omega) (by omega)
  have q0 := bq 0 (by omega) (by omega)
  have q1 := bq 1 (by omega) (by omega)
  have q2 := bq 2 (by omega) (by omega)
  have q3 := bq 3 (by omega) (by omega)
  refine step 0 0 (by omega) (by omega) (by omega) (by omega) (step _ 1 (by omega) (by omega) (by omega) (by omega) (step _ 2 (by omega) (by omega) (by omega) (by omega) (step _ 3 (by omega) (by omega) (by omega) (by omega) ?_)))
  refine h4 _ _ _ _ ⟨by decide, fun _ => ?_, fun c => absurd c (by decide)⟩
  unfold lstF at hk
  rw [show 8 * g + 2 * 0 = 8 * g by omega, show 8 * g + 2 * 1 = 8 * g + 2 by omega, show 8 * g + 2 * 2 = 8 * g + 4 by omega, show 8 * g + 2 * 3 = 8 * g + 6 by omega]
  exact hk
theorem Md_least_ok {g : Int} {s : SS} {Q : Int → SS → Prop} (rg : rng g) (hd : 0 ≤ s.1 45 ∧ s.1 45 ≤ 20) (hc : ∀ h, 0 ≤ h → h < 32 → 0 ≤ s.2 97 h ∧ s.2 97 h ≤ 12) (hb : ∀ x, 0 ≤ s.2 98 x ∧ s.2 98 x ≤ 99) (hn : ¬ (0 ≤ g ∧ g ≤ 3) → Q (-1) s) (hk : 0 ≤ g ∧ g ≤ 3 → Q (lstF (s.2 98) (s.2 97) (s.1 45) g) s) : Sp_Md_least g s Q := by
  intro X21 h21
  refine ⟨rg, isB_b (Md_isIn_B rg (by decide) (by decide) s) hn (fun hg => ?_)⟩
  have step : ∀ m h : Int, 8 * g ≤ h → h < 8 * g + 8 → h ≤ 8 * g + 6 → 0 ≤ m → m ≤ 24 → X21 g (max m (prF (s.2 98) (s.2 97) (s.1 45) h)) (h + 2) s → X21 g m h s := by
    intro m h p0 p1 p2 m0 m1 hx
    have bp := prF_b (f := s.2 98) (d := s.1 45) hc (h := h) (by omega) (by omega)
    refine h21 _ _ _ _ ⟨⟨by omega, by omega⟩, ⟨by omega, by omega⟩, fun c => by omega, fun _ => ⟨by omega, by omega, Md_couples_ok (by omega) (by omega) hd hc hb ?_⟩⟩
    refine ⟨⟨by have := bp.1; unfold prF at this; omega, by have := bp.2; unfold prF at this; omega⟩, ⟨by omega, by omega⟩, fun c => ?_, fun c => ?_⟩
    · have e : max m (prF (s.2 98) (s.2 97) (s.1 45) h) = m := by unfold prF; omega
      rw [e] at hx; exact hx
    · have e : max m (prF (s.2 98) (s.2 97) (s.1 45) h) = prF (s.2 98) (s.2 97) (s.1 45) h := by unfold prF; omega
      rw [e] at hx; exact hx
  have bq : ∀ h : Int, 8 * g ≤ h → h ≤ 8 * g + 6 → 0 ≤ prF (s.2 98) (s.2 97) (s.1 45) h ∧ prF (s.2 98) (s.2 97) (s.1 45) h ≤ 24 := fun h a b => prF_b hc (by omega) (by omega)
  have q0 := bq (8 * g) (by omega) (by omega)
  have q1 := bq (8 * g + 2) (by omega) (by omega)
  have q2 := bq (8 * g + 4) (by omega) (by omega)
  have q3 := bq (8 * g + 6) (by omega) (by omega)
  refine step 0 (8 * g) (by omega) (by omega) (by omega) (by omega) (by omega) (step _ (8 * g + 2) (by omega) (by omega) (by omega) (by omega) (by omega) ?_)
  rw [show 8 * g + 2 + 2 = 8 * g + 4 by omega]
  refine step _ (8 * g + 4) (by omega) (by omega) (by omega) (by omega) (by omega) ?_
  rw [show 8 * g + 4 + 2 = 8 * g + 6 by omega]
  refine step _ (8 * g + 6) (by omega) (by omega) (by omega) (by omega) (by omega) ?_
  refine h21 _ _ _ _ ⟨⟨by omega, by omega⟩, ⟨by omega, by omega⟩, fun _ => ?_, fun c => by omega⟩
  exact hk hg
theorem sim_least {x1 : Int} {s : SS} {K : Int → Int → SS → Prop} (r1 : rng x1) (hi : iBones s) (hk : ∀ r, rng r → K r r s) : Sp_LS_least x1 s (fun a s1 => Sp_Md_least x1 s1 (fun b s2 => K a b s2)) := by
  obtain ⟨i1, i2, i3, i4, i5, i6⟩ := id hi
  have hm : ∀ a : Int, (¬ (0 ≤ x1 ∧ x1 ≤ 3) → a = -1) → (0 ≤ x1 ∧ x1 ≤ 3 → a = lstF (s.2 43) (s.2 44) (s.1 24) x1) → Sp_Md_least x1 s (fun b s2 => K a b s2) := by
    intro a a1 a2
    refine Md_least_ok r1 (i1 ▸ i2) (i4 ▸ i5) (i3 ▸ i6) (fun c => by rw [a1 c]; exact hk _ (by decide)) (fun c => ?_)
    rw [a2 c, ← i1, ← i3, ← i4]
    have bq : ∀ h : Int, 8 * x1 ≤ h → h ≤ 8 * x1 + 6 → 0 ≤ prF (s.2 43) (s.2 44) (s.1 24) h ∧ prF (s.2 43) (s.2 44) (s.1 24) h ≤ 24 := fun h a b => prF_b i5 (by omega) (by omega)
    have q0 := bq (8 * x1) (by omega) (by omega)
    have q1 := bq (8 * x1 + 2) (by omega) (by omega)
    have q2 := bq (8 * x1 + 4) (by omega) (by omega)
    have q3 := bq (8 * x1 + 6) (by omega) (by omega)
    exact hk _ (by unfold lstF; exact ⟨by omega, by omega⟩)
  refine isB_b (Gr_isGrave_B r1 s) (fun c => hm _ (fun _ => rfl) (fun d => absurd d c)) (fun c => ?_)
  exact Bn_least_ok c i2 i5 i6 (hm _ (fun d => absurd c d) (fun _ => rfl))
end
