section
/-! tie: the model, and both -/
def tieR (x r : Int) (w : Int → Int) : Int := if x = -1 then r else if x < r then w x else -1
theorem Md_tie_ok {a b x : Int} {s : SS} {Q : Int → SS → Prop} (hb : iBook s) (hy : iKeys s) (ra : rng a) (rb : rng b) (rx : rng x) (x0 : -1 ≤ x) (a0 : 0 ≤ a) (a1 : a < s.1 4) (b0 : 0 ≤ b) (b1 : b < s.1 4) (ne : a ≠ b) (h3 : ∀ s' P, frm mN mA s s' → isP (linked s (s.1 1)) (s.1 4) P → ¬ (lk s (s.1 1) a b = 2 ∧ P a = P b) → Q (-3) s') (hk : ∀ P, isP (linked s (s.1 1)) (s.1 4) P → lk s (s.1 1) a b = 2 → P a = P b → ∃ D W, isD (linked s (s.1 1)) (s.1 4) (max a b) D ∧ D (min a b) < 20 ∧ isW (linked s (s.1 1)) (s.1 4) (min a b) D W (D (min a b) + 1) ∧ ∀ s', frm mN mA s s' → Q (tieR x (D (min a b) + 1) W) s') : Sp_Md_tie a b x s Q := by
  obtain ⟨c1, c2, c3, c4, c5, c6, -⟩ := id hb
  have nmE : nmBy s (s.1 1) = s.1 4 := c6.1
  have hsy : ∀ u v, linked s (s.1 1) u v → linked s (s.1 1) v u := fun u v h => ⟨fun e => h.1 e.symm, by rw [lk_sy]; exact h.2⟩
  have e29 : s.1 29 = s.1 1 := c1.1.symm
  intro X81 X98 X136 X148 X160 X260 X270 h81 h98 h136 h148 h160 h260 h270
  refine isB_a (Md_isName_B ra hb) (fun c => absurd ⟨a0, a1⟩ c) (fun _ => isB_a (Md_isName_B rb hb) (fun c => absurd ⟨b0, b1⟩ c) (fun _ => ⟨rx, fun _ => ⟨ra, rb, fun _ => ?_, fun e => absurd e ne⟩, fun c => by omega⟩))
  rw [e29]
  refine Md_looks_ok hb hy c1.2.1 (Int.le_refl _) (fun s1 hf g1 g2 g3 g4 g5 g6 g7 => ?_)
  rw [nmE] at g1 g4 g5
  obtain ⟨g5, gd⟩ := g5
  have hF : frm mN mA s s1 := frm_mono hf (by decide) (by decide)
  have e31 : s1.1 31 = s.1 4 := by rw [hf.1 31 rfl]; exact c2.1.symm
  have hab := g4 a b a0 a1 b0 b1 ne
  rw [hab.2]
  refine ⟨by omega, by split <;> decide, fun q => h3 s1 _ hF g5 (fun z => by rw [if_pos z.1] at q; exact absurd q (by decide)), fun q => ?_⟩
  have l2 : lk s (s.1 1) a b = 2 := by
    by_cases z : lk s (s.1 1) a b = 2
    · exact z
    · rw [if_neg z] at q; exact absurd rfl q
  have pa := g5.2.1 a a0 a1
  have pb := g5.2.1 b b0 b1
  refine ⟨by omega, by omega, ⟨by omega, by omega⟩, ⟨by omega, by omega⟩, fun pp => ?_, fun pp => h3 s1 _ hF g5 (fun z => pp z.2)⟩
  obtain ⟨D, W, hD, df20, hW, hq⟩ := hk _ g5 l2 pp
  have f0 : 0 ≤ min a b := by omega
  have f1 : min a b < s.1 4 := by omega
  have m0 : 0 ≤ max a b := by omega
  have m1 : max a b < s.1 4 := by omega
  have start : X98 x (min a b) (max a b) 0 s1 → (rng a ∧ rng b ∧ ((b ≤ a → X81 a b x b s1) ∧ (a < b → X81 a b x a s1))) := by
    intro h
    refine ⟨ra, rb, fun c => h81 _ _ _ _ _ ⟨ra, rb, fun _ => ?_, fun d => by omega⟩, fun c => h81 _ _ _ _ _ ⟨ra, rb, fun d => by omega, fun _ => ?_⟩⟩
    · rw [show min a b = b by omega, show max a b = a by omega] at h; exact h
    · rw [show min a b = a by omega, show max a b = b by omega] at h; exact h
  refine start ?_
  clear start h81 q hab pa pb
  generalize min a b = f at *
  generalize max a b = m at *
  obtain ⟨d1, d2, d3, d4⟩ := id hD
  have n1 : s.1 4 ≤ 20 := c2.2.2
  have hB : ∀ u v, 0 ≤ u → u < s.1 4 → 0 ≤ v → v < s.1 4 → rng (s1.2 67 (20 * u + v)) ∧ (u ≠ v → (¬ s1.2 67 (20 * u + v) = 0 ↔ linked s (s.1 1) u v)) := by
    intro u v u0 u1 v0 v1
    by_cases e : u = v
    · rw [e]
      refine ⟨?_, fun c => absurd rfl c⟩
      rcases gd v v0 v1 with z | z <;> rw [z] <;> decide
    · rw [(g4 u v u0 u1 v0 v1 e).1]
      by_cases z : lk s (s.1 1) u v = 1
      · rw [if_pos z]; exact ⟨by decide, fun _ => ⟨fun _ => ⟨e, z⟩, fun _ => by decide⟩⟩
      · rw [if_neg z]; exact ⟨by decide, fun _ => ⟨fun c => absurd rfl c, fun c => absurd c.2 z⟩⟩
  generalize hL : linked s (s.1 1) = L at *
  generalize s.1 4 = n at *
  have hne : ∀ u v, L u v → u ≠ v := fun u v h => by rw [← hL] at h; exact h.1
  -- the rounds
  let E : Int → Int := fun v => if D v < 20 then D v else 100
  have Eb : ∀ v, 0 ≤ v → v < n → 0 ≤ E v ∧ E v ≤ 100 ∧ (E v < 100 → D v < 20 ∧ E v = D v) := by
    intro v v0 v1
    have := d2 v v0 v1
    show 0 ≤ (if D v < 20 then D v else 100) ∧ (if D v < 20 then D v else 100) ≤ 100 ∧ ((if D v < 20 then D v else 100) < 100 → D v < 20 ∧ (if D v < 20 then D v else 100) = D v)
    split
    · omega
    · omega
  have Ee : ∀ v, D v < 20 → E v = D v := fun v h => if_pos h
  have En : ∀ v, ¬ D v < 20 → E v = 100 := fun v h => if_neg h
  have E1 : ∀ u v, 0 ≤ u → u < n → 0 ≤ v → v < n → L u v → E u ≤ E v + 1 := by
    intro u v u0 u1 v0 v1 h
    by_cases z : D v < 20
    · have := d3 v u v0 v1 u0 u1 (hsy u v h) z
      rw [Ee v z, Ee u this.1]
      exact this.2
    · rw [En v z]
      have := Eb u u0 u1
      omega
  have way : ∀ (t : Nat) (i o : Int) (s2 : SS), 1 ≤ i → i ≤ D f + 1 → 0 ≤ o → o ≤ n → (D f + 1 - i) * 30 + n - o < t → frm [] [73, 74] s1 s2 → (∀ v, 0 ≤ v → v < n → s2.2 73 v = E v) → isW L n f D (s2.2 74) i → (0 ≤ s2.2 74 (i - 1) ∧ s2.2 74 (i - 1) < n ∧ D (s2.2 74 (i - 1)) = D f - (i - 1)) → (i < D f + 1 → (∀ z, 0 ≤ z → z < o → L (s2.2 74 (i - 1)) z → D z ≠ D f - i) → X270 x (D f + 1) i o s2) ∧ (o = 0 → X260 x (D f + 1) i s2) := by
    intro t
    induction t with
    | zero => intro i o s2 a b c d e; omega
    | succ t ih =>
      intro i o s2 i0 i1 o0 o1 ht hf2 h73 hw hh
      have e67 : s2.2 67 = s1.2 67 := hf2.2 67 rfl
      have df := d2 f f0 f1
      have k270 : i < D f + 1 → (∀ z, 0 ≤ z → z < o → L (s2.2 74 (i - 1)) z → D z ≠ D f - i) → X270 x (D f + 1) i o s2 := by
        intro hi hno
        -- one is there
        have ex : o < n := by
          rcases Int.lt_or_le o n with z | z
          · exact z
          · rcases d4 _ hh.1 hh.2.1 (by omega) with w | ⟨y, y0, y1, y2, y3⟩
            · rw [w, d1] at hh; omega
            · exact absurd (show D y = D f - i by omega) (hno y y0 (by omega) (hsy _ _ y2))
        have hb2 := hB _ o hh.1 hh.2.1 o0 ex
        have next : ¬ (L (s2.2 74 (i - 1)) o ∧ D o = D f - i) → X270 x (D f + 1) i (o + 1) s2 := fun hn => (ih i (o + 1) s2 i0 i1 (by omega) (by omega) (by omega) hf2 h73 hw hh).1 hi (fun z z0 z1 hl => by
          by_cases e : z = o
          · rw [e] at hl ⊢; exact fun q => hn ⟨hl, q⟩
          · exact hno z z0 (by omega) hl)
        have dO := d2 o o0 ex
        have eO := Eb o o0 ex
        refine h270 _ _ _ _ _ ⟨by omega, by omega, by rw [e67]; exact hb2.1, fun c => ?_, fun c => ⟨by omega, ?_⟩⟩
        · rw [e67] at c
          refine next (fun q => ?_)
          have := (hb2.2 (hne _ _ q.1)).mpr q.1
          exact this c
        · rw [e67] at c
          rw [h73 o o0 ex]
          refine ⟨⟨by omega, by omega⟩, ⟨by omega, by omega⟩, fun d => ⟨by omega, fun s3 h3 => ?_⟩, fun d => next (fun q => d ?_)⟩
          · have dd : D o < 20 ∧ E o = D o := eO.2.2 (by omega)
            have nn : s2.2 74 (i - 1) ≠ o := by intro z; rw [z] at hh; omega
            have hl := (hb2.2 nn).mp c
            have p74 : s3.2 74 = updF (s2.2 74) i o := by rw [h3, sA_u]
            have w74 : ∀ j, j < i → s3.2 74 j = s2.2 74 j := fun j hj => by rw [p74, updF_n _ _ (by omega)]
            have wi : s3.2 74 i = o := by rw [p74, updF_s]
            refine (ih (i + 1) 0 s3 (by omega) (by omega) (by omega) (by omega) (by omega) (by rw [h3]; exact frm_tr hf2 (frm_A _ _ _ (by decide))) (fun v v0 v1 => by rw [h3, sA_n _ _ _ (by decide)]; exact h73 v v0 v1) ⟨by rw [w74 0 (by omega)]; exact hw.1, fun j j0 j1 => ?_⟩ ?_).2 rfl
            · by_cases e : j = i
              · rw [e, w74 (i - 1) (by omega), wi]
                exact ⟨⟨o0, ex⟩, hl, by omega, fun z z0 z1 hz => hno z z0 z1 hz⟩
              · rw [w74 j (by omega), w74 (j - 1) (by omega)]
                exact hw.2 j j0 (by omega)
            · rw [show i + 1 - 1 = i by omega, wi]
              exact ⟨o0, ex, by omega⟩
          · rw [Ee o (by omega)]; omega
      refine ⟨k270, fun ho => ?_⟩
      refine h260 _ _ _ _ ⟨⟨by omega, by omega⟩, ⟨by omega, by omega⟩, fun c => ?_, fun c => ?_⟩
      · have hu := isW_uniq hw (m := i) (v := W) (by rw [show i = D f + 1 by omega]; exact hW)
        have fq := hq s2 (frm_tr hF (frm_mono hf2 (by decide) (by decide)))
        refine ⟨rx, fun nx => ⟨rx, ⟨by omega, by omega⟩, ?_⟩, fun ex => ?_⟩
        · unfold tieR at fq
          rw [if_neg nx] at fq
          refine isB_a (Md_isIn_B rx (by decide) ⟨by omega, by omega⟩ s2) (fun q => ?_) (fun q => ⟨by omega, ?_⟩)
          · rw [if_neg (by omega)] at fq; exact fq
          · rw [if_pos (by omega)] at fq
            have := hu x.toNat (by omega)
            rw [show ((x.toNat : Nat) : Int) = x by omega] at this
            rw [this]; exact fq
        · unfold tieR at fq
          rw [if_pos ex] at fq
          exact fq
      · rw [← ho]
        exact k270 c (fun z z0 z1 _ => by omega)
  have relax : ∀ (t : Nat) (k u v : Int) (s2 : SS), 0 ≤ k → k ≤ n → 0 ≤ u → u ≤ n → 0 ≤ v → v ≤ n → (n - k) * 1000 + (n - u) * 30 + n - v < t → frm [] [73] s1 s2 → (∀ y, 0 ≤ y → y < n → E y ≤ s2.2 73 y ∧ s2.2 73 y ≤ 100 ∧ (E y ≤ k → s2.2 73 y = E y) ∧ (y < u → E y ≤ k + 1 → s2.2 73 y = E y)) → (k < n → u < n → (∀ y, 0 ≤ y → y < v → L u y → E y ≤ k → s2.2 73 u ≤ E y + 1) → X160 x f k u v s2) ∧ (v = 0 → k < n → X148 x f k u s2) ∧ (u = 0 → v = 0 → X136 x f k s2) := by
    intro t
    induction t with
    | zero => intro k u v s2 a b c d e f g; omega
    | succ t ih =>
      intro k u v s2 k0 k1 u0 u1 v0 v1 ht hf2 hI
      have p31 : s2.1 31 = n := by rw [hf2.1 31 rfl, e31]
      have e67 : s2.2 67 = s1.2 67 := hf2.2 67 rfl
      have k160 : k < n → u < n → (∀ y, 0 ≤ y → y < v → L u y → E y ≤ k → s2.2 73 u ≤ E y + 1) → X160 x f k u v s2 := by
        intro kn un hp
        have iu := hI u u0 un
        refine h160 _ _ _ _ _ _ ⟨⟨by omega, by omega⟩, by rw [p31]; exact ⟨by omega, by omega⟩, fun c => ?_, fun c => ?_⟩
        · rw [p31] at c
          refine (ih k (u + 1) 0 s2 k0 k1 (by omega) (by omega) (by omega) (by omega) (by omega) hf2 (fun y y0 y1 => ?_)).2.1 rfl kn
          have iy := hI y y0 y1
          refine ⟨iy.1, iy.2.1, iy.2.2.1, fun h1 h2 => ?_⟩
          by_cases e : y = u
          · rw [e] at h2 ⊢
            by_cases z : E u ≤ k
            · exact iu.2.2.1 z
            · have eu := Eb u u0 un
              have w := eu.2.2 (by omega)
              rcases d4 u u0 un w.1 with q | ⟨y', y0', y1', y2', y3'⟩
              · rw [q, d1] at w; rw [q] at z; omega
              · have w2 : D y' < 20 := by omega
                have := hp y' y0' (by omega) (hsy _ _ y2') (by rw [Ee y' w2]; omega)
                rw [Ee y' w2] at this
                omega
          · exact iy.2.2.2 (by omega) h2
        · rw [p31] at c
          have hb2 := hB u v u0 un v0 c
          have iv := hI v v0 c
          have ev := Eb v v0 c
          have eu := Eb u u0 un
          have next : (L u v → E v ≤ k → s2.2 73 u ≤ E v + 1) → X160 x f k u (v + 1) s2 := fun hn => (ih k u (v + 1) s2 k0 k1 u0 u1 (by omega) (by omega) (by omega) hf2 hI).1 kn un (fun y y0 y1 hl he => by
            by_cases e : y = v
            · rw [e] at hl he ⊢; exact hn hl he
            · exact hp y y0 (by omega) hl he)
          rw [e67]
          refine ⟨by omega, hb2.1, fun d => next (fun hl _ => absurd d ((hb2.2 (hne _ _ hl)).mpr hl)), fun d => ⟨by omega, by omega, ⟨by omega, by omega⟩, ⟨by omega, by omega⟩, fun g => next (fun hl he => by have := iv.2.2.1 he; omega), fun g => ⟨by omega, by omega, fun s3 h3 => ?_⟩⟩⟩
          have nn : u ≠ v := by intro z; rw [z] at g; omega
          have hl := (hb2.2 nn).mp d
          have low := E1 u v u0 un v0 c hl
          have p73 : s3.2 73 = updF (s2.2 73) u (s2.2 73 v + 1) := by rw [h3, sA_u]
          have pu : s3.2 73 u = s2.2 73 v + 1 := by rw [p73, updF_s]
          have po : ∀ y, y ≠ u → s3.2 73 y = s2.2 73 y := fun y hy => by rw [p73, updF_n _ _ hy]
          refine (ih k u (v + 1) s3 k0 k1 u0 u1 (by omega) (by omega) (by omega) (by rw [h3]; exact frm_tr hf2 (frm_A _ _ _ (by decide))) (fun y y0 y1 => ?_)).1 kn un (fun y y0 y1 hl he => ?_)
          · by_cases e : y = u
            · rw [e, pu]
              refine ⟨by omega, by omega, fun q => ?_, fun q => by omega⟩
              have := iu.2.2.1 q
              omega
            · rw [po y e]; exact hI y y0 y1
          · rw [pu]
            by_cases e : y = v
            · rw [e] at he ⊢
              have := iv.2.2.1 he
              omega
            · have := hp y y0 (by omega) hl he
              omega
      have k148 : v = 0 → k < n → X148 x f k u s2 := by
        intro hv kn
        refine h148 _ _ _ _ _ ⟨⟨by omega, by omega⟩, by rw [p31]; exact ⟨by omega, by omega⟩, fun c => ?_, fun c => ?_⟩
        · rw [p31] at c
          refine (ih (k + 1) 0 0 s2 (by omega) (by omega) (by omega) (by omega) (by omega) (by omega) (by omega) hf2 (fun y y0 y1 => ?_)).2.2 rfl rfl
          have iy := hI y y0 y1
          exact ⟨iy.1, iy.2.1, fun h => iy.2.2.2 (by omega) h, fun h => by omega⟩
        · rw [p31] at c
          rw [← hv]
          exact k160 kn c (fun y y0 y1 => by omega)
      refine ⟨k160, k148, fun hu hv => ?_⟩
      refine h136 _ _ _ _ ⟨⟨by omega, by omega⟩, by rw [p31]; exact ⟨by omega, by omega⟩, fun c => ⟨by omega, fun s3 h3 => ?_⟩, fun c => ?_⟩
      · rw [p31] at c
        have all : ∀ y, 0 ≤ y → y < n → s2.2 73 y = E y := by
          intro y y0 y1
          have iy := hI y y0 y1
          have ey := Eb y y0 y1
          have dy := d2 y y0 y1
          by_cases z : D y < 20
          · exact iy.2.2.1 (by rw [Ee y z]; omega)
          · rw [En y z] at iy ⊢; omega
        rw [all f f0 f1, Ee f df20]
        have p74 : s3.2 74 = updF (s2.2 74) 0 f := by rw [h3, sA_u]
        have df := d2 f f0 f1
        refine (way 100000 1 0 s3 (by omega) (by omega) (by omega) (by omega) (by omega) (by rw [h3]; exact frm_tr (frm_mono hf2 (by decide) (by decide)) (frm_A _ _ _ (by decide))) (fun y y0 y1 => by rw [h3, sA_n _ _ _ (by decide)]; exact all y y0 y1) ⟨by rw [p74, updF_s], fun j j0 j1 => by omega⟩ (by rw [show (1 : Int) - 1 = 0 by omega, p74, updF_s]; omega)).2 rfl
      · rw [p31] at c
        rw [← hu]
        exact k148 hv c
  have ini : ∀ (t : Nat) (k : Int) (s2 : SS), 0 ≤ k → k ≤ n → n - k < t → frm [] [73] s1 s2 → (∀ y, 0 ≤ y → y < k → s2.2 73 y = if y = m then 0 else 100) → X98 x f m k s2 := by
    intro t
    induction t with
    | zero => intro k s2 a b c; omega
    | succ t ih =>
      intro k s2 k0 k1 ht hf2 hI
      have p31 : s2.1 31 = n := by rw [hf2.1 31 rfl, e31]
      have nxt : k < n → ∀ (w : Int) (s3 : SS), s3 = sA s2 73 k w → w = (if k = m then 0 else 100) → X98 x f m (k + 1) s3 := fun c w s3 h3 hw => by
        refine ih (k + 1) s3 (by omega) (by omega) (by omega) (by rw [h3]; exact frm_tr hf2 (frm_A _ _ _ (by decide))) (fun y y0 y1 => ?_)
        rw [h3, sA_s]
        by_cases z : y = k
        · rw [if_pos z, z]; exact hw
        · rw [if_neg z]; exact hI y y0 (by omega)
      refine h98 _ _ _ _ _ ⟨⟨by omega, by omega⟩, by rw [p31]; exact ⟨by omega, by omega⟩, fun c => ?_, fun c => ⟨⟨by omega, by omega⟩, ⟨by omega, by omega⟩, fun d => ⟨by omega, fun s3 h3 => nxt (by omega) 100 s3 h3 (by rw [if_neg d])⟩, fun d => ⟨by omega, fun s3 h3 => nxt (by omega) 0 s3 h3 (by rw [if_pos d])⟩⟩⟩
      rw [p31] at c
      refine (relax 1000000 0 0 0 s2 (by omega) (by omega) (by omega) (by omega) (by omega) (by omega) (by omega) hf2 (fun y y0 y1 => ?_)).2.2 rfl rfl
      have ey := Eb y y0 y1
      have em : E m = 0 := by rw [Ee m (by omega), d1]
      rw [hI y y0 (by omega)]
      by_cases z : y = m
      · rw [if_pos z, z, em]
        omega
      · rw [if_neg z]
        refine ⟨by omega, by omega, fun q => ?_, fun q => by omega⟩
        have w := ey.2.2 (by omega)
        rcases d4 y y0 y1 w.1 with h | ⟨y', y0', y1', y2', y3'⟩
        · exact absurd h z
        · have := d2 y' y0' y1'
          omega
  exact ini 100 0 s1 (by omega) (by omega) (by omega) (frm_rf _ _ _) (fun y a b => by omega)
def dg0 (s : SS) : Prop := ∀ u, 0 ≤ u → u < 20 → s.2 13 (20 * u + u) = 0
theorem Md_tie_no {a b x : Int} {s : SS} {Q : Int → SS → Prop} (hb : iBook s) (ra : rng a) (rb : rng b) (rx : rng x) (hn : ¬ ((0 ≤ a ∧ a < s.1 4) ∧ (0 ≤ b ∧ b < s.1 4) ∧ -1 ≤ x) ∨ a = b) (h1 : ¬ ((0 ≤ a ∧ a < s.1 4) ∧ (0 ≤ b ∧ b < s.1 4) ∧ -1 ≤ x) → Q (-1) s) (h2 : ((0 ≤ a ∧ a < s.1 4) ∧ (0 ≤ b ∧ b < s.1 4) ∧ -1 ≤ x) → a = b → Q (-2) s) : Sp_Md_tie a b x s Q := by
  intro X81 X98 X136 X148 X160 X260 X270 h81 h98 h136 h148 h160 h260 h270
  exact isB_a (Md_isName_B ra hb) (fun c => h1 (fun q => c q.1)) (fun ca => isB_a (Md_isName_B rb hb) (fun c => h1 (fun q => c q.2.1)) (fun cb => ⟨rx, fun c => ⟨ra, rb, fun ne => absurd hn (by omega), fun e => h2 ⟨ca, cb, c⟩ e⟩, fun c => h1 (fun q => by omega)⟩))
theorem sim_tie {a b x : Int} {s : SS} {K : Int → Int → SS → Prop} (ra : rng a) (rb : rng b) (rx : rng x) (hb : iBook s) (hy : iKeys s) (hd : dg0 s) (hk : ∀ r s', rng r → dg s s' → frm qN qA s s' → K r r s') : Sp_LS_tie a b x s (fun p s1 => Sp_Md_tie a b x s1 (fun q s2 => K p q s2)) := by
  obtain ⟨c1, c2, c3, c4, c5, c6, -⟩ := id hb
  have nmE : nmBy s (s.1 1) = s.1 4 := c6.1
  have stay : ∀ v : Int, rng v → K v v s := fun v hv => hk v s hv (dg_rf _) (frm_rf _ _ _)
  have no1 : ¬ ((0 ≤ a ∧ a < s.1 4) ∧ (0 ≤ b ∧ b < s.1 4) ∧ -1 ≤ x) → Sp_Md_tie a b x s (fun q s2 => K (-1) q s2) := fun hn => Md_tie_no hb ra rb rx (Or.inl hn) (fun _ => stay _ (by decide)) (fun q _ => absurd q hn)
  refine isB_a (LS_isName_B ra hb) (fun c => no1 (fun q => c q.1)) (fun ca => isB_a (LS_isName_B rb hb) (fun c => no1 (fun q => c q.2.1)) (fun cb => ⟨rx, fun x0 => ⟨ra, rb, fun ne => ?_, fun e => Md_tie_no hb ra rb rx (Or.inr e) (fun q => absurd ⟨ca, cb, x0⟩ q) (fun _ _ => stay _ (by decide))⟩, fun c => no1 (fun q => by omega)⟩))
  · refine Na_readBy_ok hb hy c1.2.1 (Int.le_refl _) (fun s1 hf g1 g2 g3 gd => ?_)
    rw [nmE] at g1 g2 g3
    have hF : frm qN qA s s1 := frm_mono hf (by decide) (by decide)
    have hb1 : iBook s1 := iBook_agr (agr_of hF (by decide)) hb
    have hy1 : iKeys s1 := iKeys_agr (agr_of hF (by decide)) hy
    have q1 : s1.1 1 = s.1 1 := hF.1 1 rfl
    have q4 : s1.1 4 = s.1 4 := hF.1 4 rfl
    have hd1 : dg0 s1 := fun u u0 u1 => (gd u u0 u1).trans (hd u u0 u1)
    have l1 : ∀ u v, lk s1 (s1.1 1) u v = lk s (s.1 1) u v := fun u v => by rw [q1]; exact lk_agr (agr_of hF (by decide)) _ u v
    have L1 : linked s1 (s1.1 1) = linked s (s.1 1) := by
      funext u v
      unfold linked
      rw [l1]
    have bonds : ∀ u v, 0 ≤ u → u < s.1 4 → 0 ≤ v → v < s.1 4 → u ≠ v → rng (s1.2 13 (20 * u + v)) ∧ (s1.2 13 (20 * u + v) = 1 ↔ linked s (s.1 1) u v) := fun u v u0 u1 v0 v1 huv => by
      rw [g2 u v u0 u1 v0 v1 huv]
      refine ⟨?_, fun h => ⟨huv, h⟩, fun h => h.2⟩
      rcases lk_v s (s.1 1) u v with z | z | z <;> rw [z] <;> decide
    have no : ¬ (lk s (s.1 1) a b = 2 ∧ s1.2 14 a = s1.2 14 b) → Sp_Md_tie a b x s1 (fun q s2 => K (-3) q s2) := fun hn => by
      refine Md_tie_ok hb1 hy1 ra rb rx x0 ca.1 (by omega) cb.1 (by omega) ne (fun s' P hf' _ _ => hk _ _ (by decide) (dg_tr gd (dg_m hf')) (frm_tr hF (mq hf'))) (fun P hP h2 h3 => ?_)
      · rw [L1, q4] at hP
        rw [l1] at h2
        rw [isP_uniq hP g3 ca.1 ca.2, isP_uniq hP g3 cb.1 cb.2] at h3
        exact absurd ⟨h2, h3⟩ hn
    have bab := bonds a b ca.1 ca.2 cb.1 cb.2 ne
    have tied : isB (lk s (s.1 1) a b = 2 ∧ s1.2 14 a = s1.2 14 b) s1 (Sp_Na_areTied a b s1) := by
      intro K' k1 k0
      have v := g2 a b ca.1 ca.2 cb.1 cb.2 ne
      have pa := g3.2.1 a ca.1 ca.2
      have pb := g3.2.1 b cb.1 cb.2
      refine ⟨by omega, ?_⟩
      rw [show a * 20 + b = 20 * a + b by omega]
      exact ⟨bab.1, fun q => k0 (fun z => q (by rw [v]; exact z.1)), fun q => ⟨by omega, by omega, ⟨by omega, by omega⟩, ⟨by omega, by omega⟩, fun z => k0 (fun y => z y.2), fun z => k1 ⟨by rw [← v]; exact q, z⟩⟩⟩
    refine isB_b tied (fun hn => no hn) (fun hy2 => ?_)
    · skip
      have hsy : ∀ u v, linked s (s.1 1) u v → linked s (s.1 1) v u := fun u v h => ⟨fun e => h.1 e.symm, by rw [lk_sy]; exact h.2⟩
      refine ⟨ra, rb, ra, rb, Na_readTie_ok (L := linked s (s.1 1)) g1 c2.2.2 (by omega) (by omega) (by omega) (by omega) bonds (fun u v h => h.1) (fun u v _ _ _ _ h => hsy u v h) (fun u u0 u1 => by rw [hd1 u u0 (by omega)]; decide) (fun g hg => ?_) (fun s2 D hf2 hD df hW => ?_)⟩
      · have ga := g3.2.2 a ca.1 ca.2 g hg
        have gb := g3.2.2 b cb.1 cb.2 g hg
        rw [hy2.2] at ga
        have gg : g a ↔ g b := ga.trans gb.symm
        intro h
        rcases Int.lt_or_gt_of_ne ne with z | z
        · rw [show max a b = b by omega] at h
          rw [show min a b = a by omega]
          exact gg.mpr h
        · rw [show max a b = a by omega] at h
          rw [show min a b = b by omega]
          exact gg.mp h
      · have F2 : frm qN qA s1 s2 := frm_mono hf2 (by decide) (by decide)
        have hb2 : iBook s2 := iBook_agr (agr_of F2 (by decide)) hb1
        have hy2' : iKeys s2 := iKeys_agr (agr_of F2 (by decide)) hy1
        have p1 : s2.1 1 = s.1 1 := by rw [F2.1 1 rfl, q1]
        have p4 : s2.1 4 = s.1 4 := by rw [F2.1 4 rfl, q4]
        have l2 : ∀ u v, lk s2 (s2.1 1) u v = lk s (s.1 1) u v := fun u v => by rw [p1, lk_agr (agr_of F2 (by decide)), lk_agr (agr_of hF (by decide))]
        have L2 : linked s2 (s2.1 1) = linked s (s.1 1) := by
          funext u v
          unfold linked
          rw [l2]
        have gd2 : dg s s2 := dg_tr gd (fun u _ _ => by rw [hf2.2 13 rfl])
        have f0 : 0 ≤ min a b ∧ min a b < s.1 4 := by omega
        have dfb := hD.2.1 _ f0.1 f0.2
        have fin : ∀ v, v = tieR x (D (min a b) + 1) (s2.2 15) → rng v → Sp_Md_tie a b x s2 (fun q s3 => K v q s3) := fun v hv rv => by
          refine Md_tie_ok hb2 hy2' ra rb rx x0 ca.1 (by omega) cb.1 (by omega) ne (fun s' P _ hP hn => ?_) (fun P hP h2 h3 => ⟨D, s2.2 15, by rw [L2, p4]; exact hD, df, by rw [L2, p4]; exact hW, fun s' hf' => ?_⟩)
          · rw [L2, p4] at hP
            rw [l2] at hn
            rw [isP_uniq hP g3 ca.1 ca.2, isP_uniq hP g3 cb.1 cb.2] at hn
            exact absurd hy2 hn
          · rw [← hv]
            exact hk _ _ rv (dg_tr gd2 (dg_m hf')) (frm_tr hF (frm_tr F2 (mq hf')))
        refine ⟨rx, fun nx => ⟨rx, ⟨by omega, by omega⟩, fun c => ⟨by omega, ?_⟩, fun c => fin _ ?_ (by decide)⟩, fun ex => fin _ ?_ ⟨by omega, by omega⟩⟩
        · refine fin _ (by unfold tieR; rw [if_neg nx, if_pos c]) ?_
          by_cases z : x = 0
          · rw [z, hW.1]; exact ⟨by omega, by omega⟩
          · have := (hW.2 x (by omega) c).1
            exact ⟨by omega, by omega⟩
        · unfold tieR; rw [if_neg nx, if_neg (by omega)]
        · unfold tieR; rw [if_pos ex]
end
