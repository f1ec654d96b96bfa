section
/-! WALK: both say the same -/
theorem emW_f {n : Int} {pl fi la D e : Int → Int} (h : emW n pl fi la D e (p2 n) 0 0) {S k p : Int} (S0 : 1 ≤ S) (S1 : S < p2 n) (k0 : 0 ≤ k) (k1 : k < n) (p0 : 0 ≤ p) (p1 : p < 10) : (e (90 * S + 10 * k + p) = 100000 ∨ (0 ≤ e (90 * S + 10 * k + p) ∧ e (90 * S + 10 * k + p) ≤ 999)) ∧ ∀ v, 0 ≤ v → v ≤ 999 → (e (90 * S + 10 * k + p) ≤ v ↔ (bt S k ∧ mqd n pl fi la D e (S - p2 k) k p v)) := h S k p S0 S1 k0 k1 p0 p1 (Or.inl S1)
theorem walk_eq {n : Int} {pl fi la D so pl' fi' la' D' e : Int → Int} (n0 : 0 ≤ n) (n1 : n ≤ 9) (hC : soF n pl fi la D so) (hM : emW n pl' fi' la' D' e (p2 n) 0 0) (hs : ∀ k, 0 ≤ k → k < n → pl' k = pl k ∧ fi' k = fi k ∧ la' k = la k) (hi : itm n pl fi la) (hD : dOk D) (hDD : ∀ q p, 0 ≤ q → q < 10 → 0 ≤ p → p < 10 → D' (10 * q + p) = min (D (q * 10 + p)) 100000) : ∀ (t : Nat) (S p v : Int), S < t → 1 ≤ S → S < p2 n → 0 ≤ p → p < 10 → 0 ≤ v → v ≤ 999 → (so (S * 10 + p) ≤ v ↔ ∃ k, 0 ≤ k ∧ k < n ∧ e (90 * S + 10 * k + p) ≤ v) := by
  have p9 := p2_9 n0 n1
  intro t
  induction t with
  | zero => intro S p v a b; omega
  | succ t ih =>
    intro S p v ht S0 S1 p0 p1 v0 v1
    rw [hC.2 S p v S0 S1 p0 p1 v0 v1]
    constructor
    · rintro ⟨R, k, a, b, c, d, f, g1, g2, g3, g4⟩
      refine ⟨k, b, c, ((emW_f hM S0 S1 b c p0 p1).2 v v0 v1).mpr ?_⟩
      have pp := p2_pos k
      have x := (bt_in (x := R) (k := k) b (by omega) a (by omega)).2 d
      obtain ⟨s1, s2, s3⟩ := hs k b c
      have ik := hi k b c
      rw [← f]
      refine ⟨x.2, ?_⟩
      rw [show R + p2 k - p2 k = R by omega]
      unfold mqd
      rw [s1, s2, s3]
      refine ⟨g1, g2, g3, ?_⟩
      rcases g4 with z | ⟨q, q0, q1, q2⟩
      · exact Or.inl z
      · by_cases R0 : R = 0
        · exact Or.inl R0
        · right
          have dd := hD q p q0 q1 p0 p1
          have d2 := hDD q p q0 q1 p0 p1
          have sv := hC.1 (R * 10 + q) (by omega) (by omega)
          obtain ⟨j, j0, j1, j2⟩ := (ih R q (min v (la k) - D (q * 10 + p)) (by omega) (by omega) (by omega) q0 q1 (by omega) (by omega)).mp (by omega)
          have hj := ((emW_f hM (S := R) (by omega) (by omega) j0 j1 q0 q1).2 _ (by omega) (by omega)).mp j2
          exact ⟨j, q, j0, j1, hj.1, q0, q1, Or.inl j1, by omega⟩
    · rintro ⟨k, b, c, hk⟩
      obtain ⟨hb, g1, g2, g3, g4⟩ := ((emW_f hM S0 S1 b c p0 p1).2 v v0 v1).mp hk
      obtain ⟨s1, s2, s3⟩ := hs k b c
      have ik := hi k b c
      obtain ⟨x1, x2, x3⟩ := (bt_in (x := S) (k := k) b (by omega) (by omega) (by omega)).1 hb
      have pp := p2_pos k
      rw [s1] at g1
      rw [s2] at g2
      rw [s2, s3] at g3
      rw [s3] at g4
      refine ⟨S - p2 k, k, by omega, b, c, x3, by omega, g1, g2, g3, ?_⟩
      rcases g4 with z | ⟨j, q, j0, j1, j2, q0, q1, j3, j4⟩
      · exact Or.inl z
      · by_cases R0 : S - p2 k = 0
        · exact Or.inl R0
        · right
          have dd := hD q p q0 q1 p0 p1
          have d2 := hDD q p q0 q1 p0 p1
          have ev := (emW_f hM (S := S - p2 k) (by omega) (by omega) j0 j1 q0 q1).1
          have := (ih (S - p2 k) q (min v (la k) - D (q * 10 + p)) (by omega) (by omega) (by omega) q0 q1 (by omega) (by omega)).mpr ⟨j, j0, j1, by omega⟩
          exact ⟨q, q0, q1, by omega⟩
theorem walk_iff {n : Int} {pl fi la D so pl' fi' la' D' e : Int → Int} (n0 : 0 ≤ n) (n1 : n ≤ 9) (hC : soF n pl fi la D so) (hM : emW n pl' fi' la' D' e (p2 n) 0 0) (hs : ∀ k, 0 ≤ k → k < n → pl' k = pl k ∧ fi' k = fi k ∧ la' k = la k) (hi : itm n pl fi la) (hD : dOk D) (hDD : ∀ q p, 0 ≤ q → q < 10 → 0 ≤ p → p < 10 → D' (10 * q + p) = min (D (q * 10 + p)) 100000) {x : Int} (x0 : 0 ≤ x) (x1 : x < p2 n) : (x = 0 ∨ ∃ p, 0 ≤ p ∧ p < 10 ∧ so (x * 10 + p) < 1000000) ↔ (x = 0 ∨ ∃ i, 0 ≤ i ∧ i < 90 ∧ i < 10 * n ∧ e (90 * x + i) < 100000) := by
  by_cases z : x = 0
  · exact ⟨fun _ => Or.inl z, fun _ => Or.inl z⟩
  · refine or_congr Iff.rfl ⟨?_, ?_⟩
    · rintro ⟨p, p0, p1, h⟩
      have sv := hC.1 (x * 10 + p) (by omega) (by omega)
      obtain ⟨k, k0, k1, k2⟩ := (walk_eq n0 n1 hC hM hs hi hD hDD (x + 1).toNat x p 999 (by omega) (by omega) x1 p0 p1 (by omega) (by omega)).mp (by omega)
      exact ⟨10 * k + p, by omega, by omega, by omega, by rw [← Int.add_assoc]; omega⟩
    · rintro ⟨i, i0, i1, i2, h⟩
      have k0 : 0 ≤ i / 10 := by omega
      have k1 : i / 10 < n := by omega
      have ev := (emW_f hM (S := x) (by omega) x1 k0 k1 (p := i % 10) (by omega) (by omega)).1
      rw [show 90 * x + i = 90 * x + 10 * (i / 10) + i % 10 by omega] at h
      have := (walk_eq n0 n1 hC hM hs hi hD hDD (x + 1).toNat x (i % 10) 999 (by omega) (by omega) x1 (by omega) (by omega) (by omega) (by omega)).mpr ⟨i / 10, k0, k1, by omega⟩
      exact ⟨i % 10, by omega, by omega, by omega⟩
/-! what is walked: the first eight roots -/
theorem He_loadWalk_ok {m : Int} {s : SS} {Q : SS → Prop} (h9 : s.1 9 = m) (m0 : 0 ≤ m ∧ m ≤ 40) (hr : ∀ j, 0 ≤ j → j < m → 0 ≤ s.2 35 j ∧ s.2 35 j < 40) (hk : ∀ s', frm [8] [28, 29, 30] s s' → s'.1 8 = min 8 m → (∀ k, 0 ≤ k → k < min 8 m → s'.2 28 k = s.2 20 (s.2 35 k) ∧ s'.2 29 k = s.2 21 (s.2 35 k) ∧ s'.2 30 k = s.2 22 (s.2 35 k)) → Q s') : Sp_He_loadWalk s Q := by
  intro X9 hX9
  have loop : ∀ (t : Nat) (k : Int) (s1 : SS), 0 ≤ k → k ≤ min 8 m → 8 - k < t → frm [8] [28, 29, 30] s s1 → s1.1 8 = k → (∀ j, 0 ≤ j → j < k → s1.2 28 j = s.2 20 (s.2 35 j) ∧ s1.2 29 j = s.2 21 (s.2 35 j) ∧ s1.2 30 j = s.2 22 (s.2 35 j)) → X9 k s1 := by
    intro t
    induction t with
    | zero => intro k s1 a b c; omega
    | succ t ih =>
      intro k s1 k0 k1 ht hf h8 hI
      have e9 : s1.1 9 = m := by rw [hf.1 9 rfl, h9]
      have e35 : s1.2 35 = s.2 35 := hf.2 35 rfl
      have e20 : s1.2 20 = s.2 20 := hf.2 20 rfl
      have e21 : s1.2 21 = s.2 21 := hf.2 21 rfl
      have e22 : s1.2 22 = s.2 22 := hf.2 22 rfl
      refine hX9 _ _ ⟨⟨by omega, by omega⟩, by rw [e9]; exact ⟨by omega, by omega⟩, fun d => ?_, fun d => ⟨⟨by omega, by omega⟩, fun g => ?_, fun g => ⟨by omega, ?_⟩⟩⟩
      · rw [e9] at d
        exact hk s1 hf (by omega) (fun j j0 j1 => hI j j0 (by omega))
      · rw [e9] at d
        exact hk s1 hf (by omega) (fun j j0 j1 => hI j j0 (by omega))
      · rw [e9] at d
        have rk := hr k k0 (by omega)
        rw [e35]
        refine ⟨by omega, by omega, by omega, by rw [h8]; omega, ?_⟩
        intro a1 ha1
        have b8 : a1.1 8 = k := by rw [ha1, sA_1, h8]
        refine ⟨by rw [b8]; omega, ?_⟩
        intro a2 ha2
        have c8 : a2.1 8 = k := by rw [ha2, sA_1, b8]
        refine ⟨by rw [c8]; omega, ?_⟩
        intro a3 ha3 a4 ha4
        have d8 : a3.1 8 = k := by rw [ha3, sA_1, c8]
        refine ih (k + 1) a4 (by omega) (by omega) (by omega) ?_ (by rw [ha4, sF_s, d8]) (fun j j0 j1 => ?_)
        · rw [ha4, ha3, ha2, ha1]
          exact frm_tr hf (frm_tr (frm_tr (frm_tr (frm_A _ _ _ (by decide)) (frm_A _ _ _ (by decide))) (frm_A _ _ _ (by decide))) (frm_F _ _ (by decide)))
        · have v28 : a4.2 28 = updF (s1.2 28) k (s.2 20 (s.2 35 k)) := by
            rw [ha4, sF_2, ha3, sA_n _ _ _ (by decide), ha2, sA_n _ _ _ (by decide), ha1, sA_u, h8, e20]
          have v29 : a4.2 29 = updF (s1.2 29) k (s.2 21 (s.2 35 k)) := by
            rw [ha4, sF_2, ha3, sA_n _ _ _ (by decide), ha2, sA_u, b8, ha1, sA_n _ _ _ (by decide), e21]
          have v30 : a4.2 30 = updF (s1.2 30) k (s.2 22 (s.2 35 k)) := by
            rw [ha4, sF_2, ha3, sA_u, c8, ha2, sA_n _ _ _ (by decide), ha1, sA_n _ _ _ (by decide), e22]
          rw [v28, v29, v30]
          by_cases e : j = k
          · rw [e, updF_s, updF_s, updF_s]
            exact ⟨rfl, rfl, rfl⟩
          · rw [updF_n _ _ e, updF_n _ _ e, updF_n _ _ e]
            exact hI j j0 (by omega)
  intro s1 h1
  exact loop 9 0 s1 (by omega) (by omega) (by omega) (by rw [h1]; exact frm_F _ _ (by decide)) (by rw [h1, sF_s]) (fun j a b => by omega)
theorem Md_takesRoots_ok {m : Int} {s : SS} {Q : SS → Prop} (h37 : s.1 37 = m) (m0 : 0 ≤ m ∧ m ≤ 40) (hr : ∀ j, 0 ≤ j → j < m → 0 ≤ s.2 82 j ∧ s.2 82 j < 40) (hk : ∀ s', frm [38] [84, 85, 86] s s' → s'.1 38 = min 8 m → (∀ k, 0 ≤ k → k < min 8 m → s'.2 84 k = s.2 77 (s.2 82 k) ∧ s'.2 85 k = s.2 78 (s.2 82 k) ∧ s'.2 86 k = s.2 79 (s.2 82 k)) → Q s') : Sp_Md_takesRoots s Q := by
  intro X24 h24
  have loop : ∀ (t : Nat) (k : Int) (s1 : SS), 0 ≤ k → k ≤ min 8 m → 8 - k < t → frm [38] [84, 85, 86] s s1 → s1.1 38 = min 8 m → (∀ j, 0 ≤ j → j < k → s1.2 84 j = s.2 77 (s.2 82 j) ∧ s1.2 85 j = s.2 78 (s.2 82 j) ∧ s1.2 86 j = s.2 79 (s.2 82 j)) → X24 k s1 := by
    intro t
    induction t with
    | zero => intro k s1 a b c; omega
    | succ t ih =>
      intro k s1 k0 k1 ht hf h38 hI
      have e82 : s1.2 82 = s.2 82 := hf.2 82 rfl
      have e77 : s1.2 77 = s.2 77 := hf.2 77 rfl
      have e78 : s1.2 78 = s.2 78 := hf.2 78 rfl
      have e79 : s1.2 79 = s.2 79 := hf.2 79 rfl
      refine h24 _ _ ⟨⟨by omega, by omega⟩, by rw [h38]; exact ⟨by omega, by omega⟩, fun d => ?_, fun d => ⟨by omega, ?_⟩⟩
      · rw [h38] at d
        exact hk s1 hf h38 (fun j j0 j1 => hI j j0 (by omega))
      · rw [h38] at d
        have rk := hr k k0 (by omega)
        rw [e82]
        refine ⟨rk, by omega, fun a1 ha1 => ⟨by omega, ?_⟩⟩
        have b82 : a1.2 82 = s.2 82 := by rw [ha1, sA_n _ _ _ (by decide), e82]
        rw [b82]
        refine ⟨rk, by omega, fun a2 ha2 => ⟨by omega, ?_⟩⟩
        have c82 : a2.2 82 = s.2 82 := by rw [ha2, sA_n _ _ _ (by decide), b82]
        rw [c82]
        refine ⟨rk, by omega, fun a3 ha3 => ?_⟩
        refine ih (k + 1) a3 (by omega) (by omega) (by omega) ?_ (by rw [ha3, sA_1, ha2, sA_1, ha1, sA_1, h38]) (fun j j0 j1 => ?_)
        · rw [ha3, ha2, ha1]
          exact frm_tr hf (frm_tr (frm_tr (frm_A _ _ _ (by decide)) (frm_A _ _ _ (by decide))) (frm_A _ _ _ (by decide)))
        · have v84 : a3.2 84 = updF (s1.2 84) k (s.2 77 (s.2 82 k)) := by
            rw [ha3, sA_n _ _ _ (by decide), ha2, sA_n _ _ _ (by decide), ha1, sA_u, e77]
          have v85 : a3.2 85 = updF (s1.2 85) k (s.2 78 (s.2 82 k)) := by
            rw [ha3, sA_n _ _ _ (by decide), ha2, sA_u, ha1, sA_n _ _ _ (by decide), sA_n _ _ _ (by decide), e78]
          have v86 : a3.2 86 = updF (s1.2 86) k (s.2 79 (s.2 82 k)) := by
            rw [ha3, sA_u, ha2, sA_n _ _ _ (by decide), sA_n _ _ _ (by decide), ha1, sA_n _ _ _ (by decide), sA_n _ _ _ (by decide), e79]
          rw [v84, v85, v86]
          by_cases e : j = k
          · rw [e, updF_s, updF_s, updF_s]
            exact ⟨rfl, rfl, rfl⟩
          · rw [updF_n _ _ e, updF_n _ _ e, updF_n _ _ e]
            exact hI j j0 (by omega)
  refine ⟨by rw [h37]; exact ⟨by omega, by omega⟩, fun c s1 h1 => ?_, fun c s1 h1 => ?_⟩
  · exact loop 9 0 s1 (by omega) (by omega) (by omega) (by rw [h1]; exact frm_F _ _ (by decide)) (by rw [h1, sF_s]; omega) (fun j a b => by omega)
  · exact loop 9 0 s1 (by omega) (by omega) (by omega) (by rw [h1]; exact frm_F _ _ (by decide)) (by rw [h1, sF_s]; omega) (fun j a b => by omega)
end
