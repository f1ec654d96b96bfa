section
/-! LAND: road, far -/
def pP (p : Int) : Prop := 0 ≤ p ∧ p < 10
/-- a metric on the ten places, bounded -/
def mtr (f : Int → Int) (c : Int) : Prop := (∀ p q, pP p → pP q → 0 ≤ f (10 * p + q) ∧ f (10 * p + q) ≤ c ∧ f (10 * p + q) = f (10 * q + p)) ∧ (∀ p, pP p → f (10 * p + p) = 0) ∧ (∀ p q r, pP p → pP q → pP r → f (10 * p + r) ≤ f (10 * p + q) + f (10 * q + r))
def via (f : Int → Int) (a b l p q : Int) : Int := min (f (10 * p + q)) (min (f (10 * p + a) + l + f (10 * b + q)) (f (10 * p + b) + l + f (10 * a + q)))
theorem via_sy {f : Int → Int} {c a b l : Int} (h : mtr f c) (ha : pP a) (hb : pP b) {p q : Int} (hp : pP p) (hq : pP q) : via f a b l p q = via f a b l q p := by
  have e1 := (h.1 p q hp hq).2.2
  have e2 := (h.1 p a hp ha).2.2
  have e3 := (h.1 b q hb hq).2.2
  have e4 := (h.1 p b hp hb).2.2
  have e5 := (h.1 a q ha hq).2.2
  unfold via
  omega
theorem via_tri {f : Int → Int} {c a b l : Int} (h : mtr f c) (ha : pP a) (hb : pP b) (hl : 0 ≤ l) {p q r : Int} (hp : pP p) (hq : pP q) (hr : pP r) : via f a b l p r ≤ via f a b l p q + via f a b l q r := by
  have t1 := h.2.2 p q r hp hq hr
  have t2 := h.2.2 p q a hp hq ha
  have t3 := h.2.2 p q b hp hq hb
  have t4 := h.2.2 b q r hb hq hr
  have t5 := h.2.2 a q r ha hq hr
  have t6 := h.2.2 p a r hp ha hr
  have t7 := h.2.2 p b r hp hb hr
  have n1 := (h.1 b q hb hq).1
  have n2 := (h.1 q a hq ha).1
  have n3 := (h.1 a q ha hq).1
  have n4 := (h.1 q b hq hb).1
  unfold via
  omega
theorem via_le {f : Int → Int} {a b l p q : Int} : via f a b l p q ≤ f (10 * p + q) := by unfold via; omega
theorem via_ab {f : Int → Int} {c a b l : Int} (h : mtr f c) (ha : pP a) (hb : pP b) : via f a b l a b ≤ l ∧ via f a b l b a ≤ l := by
  have e1 := h.2.1 a ha
  have e2 := h.2.1 b hb
  unfold via
  omega
theorem via_mtr {f : Int → Int} {c a b l : Int} (h : mtr f c) (ha : pP a) (hb : pP b) (hl : 0 ≤ l) {g : Int → Int} (hg : ∀ p q, pP p → pP q → g (10 * p + q) = via f a b l p q) : mtr g c := by
  refine ⟨fun p q hp hq => ?_, fun p hp => ?_, fun p q r hp hq hr => ?_⟩
  · rw [hg p q hp hq, hg q p hq hp]
    have e := via_sy (l := l) h ha hb hp hq
    have n1 := h.1 p q hp hq
    have n2 := h.1 p a hp ha
    have n3 := h.1 b q hb hq
    have n4 := h.1 p b hp hb
    have n5 := h.1 a q ha hq
    refine ⟨?_, ?_, e⟩ <;> unfold via <;> omega
  · rw [hg p p hp hp]
    have n1 := h.2.1 p hp
    have n2 := h.1 p a hp ha
    have n3 := h.1 b p hb hp
    have n4 := h.1 p b hp hb
    have n5 := h.1 a p ha hp
    unfold via
    omega
  · rw [hg p r hp hr, hg p q hp hq, hg q r hq hr]
    exact via_tri h ha hb hl hp hq hr
/-- no way is longer by more than 30 than one to a place that is nearer -/
def gapM (f : Int → Int) : Prop := ∀ x y, pP x → pP y → x ≠ y → f (10 * x + y) = 1000000 ∨ ∃ z, pP z ∧ f (10 * x + z) < f (10 * x + y) ∧ f (10 * x + y) = f (10 * x + z) + f (10 * z + y) ∧ f (10 * z + y) ≤ 30
def posM (f : Int → Int) : Prop := ∀ x y, pP x → pP y → x ≠ y → 1 ≤ f (10 * x + y)
theorem via_pos {f : Int → Int} {c a b l : Int} (h : mtr f c) (hpos : posM f) (ha : pP a) (hb : pP b) (hl : 1 ≤ l) {g : Int → Int} (hg : ∀ p q, pP p → pP q → g (10 * p + q) = via f a b l p q) : posM g := by
  intro p q hp hq hne
  rw [hg p q hp hq]
  have n1 := hpos p q hp hq hne
  have n2 := h.1 p a hp ha
  have n3 := h.1 b q hb hq
  have n4 := h.1 p b hp hb
  have n5 := h.1 a q ha hq
  unfold via
  omega
theorem gap_step {f g : Int → Int} {a b l x y : Int} (h : mtr f 1000000) (hm : mtr g 1000000) (hpg : posM g) (hgap : gapM f) (ha : pP a) (hb : pP b) (hab : a ≠ b) (hl : 1 ≤ l ∧ l ≤ 30) (hle : ∀ p q, pP p → pP q → g (10 * p + q) ≤ f (10 * p + q)) (hvia : ∀ p q, pP p → pP q → g (10 * p + q) ≤ f (10 * p + a) + l + f (10 * b + q)) (gab : g (10 * a + b) ≤ l) (hx : pP x) (hy : pP y) (he : g (10 * x + y) = f (10 * x + a) + l + f (10 * b + y)) (hfin : g (10 * x + y) < 1000000) : ∃ z, pP z ∧ g (10 * x + z) < g (10 * x + y) ∧ g (10 * x + y) = g (10 * x + z) + g (10 * z + y) ∧ g (10 * z + y) ≤ 30 := by
  have nxa := h.1 x a hx ha
  by_cases hby : b = y
  · subst hby
    refine ⟨a, ha, ?_⟩
    have z0 := h.2.1 b hb
    have t := hm.2.2 x a b hx ha hb
    have l1 := hle x a hx ha
    have p1 := hpg a b ha hb hab
    omega
  · rcases hgap b y hb hy hby with q | ⟨z, hz, q1, q2, q3⟩
    · omega
    · refine ⟨z, hz, ?_⟩
      have t := hm.2.2 x z y hx hz hy
      have l1 := hvia x z hx hz
      have l2 := hle z y hz hy
      omega
theorem via_gap {f : Int → Int} {a b l : Int} (h : mtr f 1000000) (hpos : posM f) (hgap : gapM f) (ha : pP a) (hb : pP b) (hab : a ≠ b) (hl : 1 ≤ l ∧ l ≤ 30) {g : Int → Int} (hg : ∀ p q, pP p → pP q → g (10 * p + q) = via f a b l p q) : gapM g := by
  have hm := via_mtr h ha hb (by omega) hg
  have hpg := via_pos h hpos ha hb hl.1 hg
  have hab1 := via_ab (l := l) h ha hb
  intro x y hx hy hne
  have e := hg x y hx hy
  have bd := hm.1 x y hx hy
  by_cases hinf : g (10 * x + y) = 1000000
  · exact Or.inl hinf
  refine Or.inr ?_
  have c3 : g (10 * x + y) = f (10 * x + y) ∨ g (10 * x + y) = f (10 * x + a) + l + f (10 * b + y) ∨ g (10 * x + y) = f (10 * x + b) + l + f (10 * a + y) := by
    rw [e]; unfold via; omega
  rcases c3 with q | q | q
  · rcases hgap x y hx hy hne with r | ⟨z, hz, q1, q2, q3⟩
    · omega
    · refine ⟨z, hz, ?_⟩
      have t := hm.2.2 x z y hx hz hy
      have l1 := hg x z hx hz
      have l2 := hg z y hz hy
      have l3 : via f a b l x z ≤ f (10 * x + z) := via_le
      have l4 : via f a b l z y ≤ f (10 * z + y) := via_le
      omega
  · exact gap_step h hm hpg hgap ha hb hab hl (fun p q hp hq => by rw [hg p q hp hq]; exact via_le) (fun p q hp hq => by rw [hg p q hp hq]; unfold via; omega) (by rw [hg a b ha hb]; exact hab1.1) hx hy q (by omega)
  · exact gap_step h hm hpg hgap hb ha (fun e => hab e.symm) hl (fun p q hp hq => by rw [hg p q hp hq]; exact via_le) (fun p q hp hq => by rw [hg p q hp hq]; unfold via; omega) (by rw [hg b a hb ha]; exact hab1.2) hx hy q (by omega)
def cntB (g : Int → Int) (t : Int) : Nat → Int
  | 0 => 0
  | n + 1 => cntB g t n + if g n < t then 1 else 0
theorem cntB_le (g : Int → Int) (t : Int) (n : Nat) : cntB g t n ≤ n := by
  induction n with
  | zero => exact Int.le_refl 0
  | succ n ih => unfold cntB; split <;> omega
theorem cntB_mono (g : Int → Int) {t u : Int} (h : t ≤ u) (n : Nat) : cntB g t n ≤ cntB g u n := by
  induction n with
  | zero => exact Int.le_refl 0
  | succ n ih => unfold cntB; split <;> split <;> omega
theorem cntB_lt (g : Int → Int) {t u : Int} (h : t ≤ u) {z : Nat} (h1 : g z < u) (h2 : ¬ g z < t) (n : Nat) (hz : z < n) : cntB g t n + 1 ≤ cntB g u n := by
  induction n with
  | zero => omega
  | succ n ih =>
    have hm := cntB_mono g h n
    unfold cntB
    by_cases e : z = n
    · subst e
      rw [if_neg h2, if_pos h1]
      omega
    · have := ih (by omega)
      split <;> split <;> omega
theorem gap_bound {f : Int → Int} (h : mtr f 1000000) (hgap : gapM f) {x y : Int} (hx : pP x) (hy : pP y) : f (10 * x + y) = 1000000 ∨ f (10 * x + y) ≤ 300 := by
  have key : ∀ (n : Nat) (y : Int), pP y → f (10 * x + y) < n → f (10 * x + y) ≠ 1000000 → f (10 * x + y) ≤ 30 * cntB (fun z => f (10 * x + z)) (f (10 * x + y)) 10 := by
    intro n
    induction n with
    | zero => intro y hy hn; have := (h.1 x y hx hy).1; omega
    | succ n ih =>
      intro y hy hn hne
      by_cases hxy : x = y
      · subst hxy
        rw [h.2.1 x hx]
        have : (0 : Int) ≤ cntB (fun z => f (10 * x + z)) 0 10 := by
          have hge : ∀ m : Nat, 0 ≤ cntB (fun z => f (10 * x + z)) 0 m := by
            intro m
            induction m with
            | zero => exact Int.le_refl 0
            | succ m ih2 => unfold cntB; split <;> omega
          exact hge 10
        omega
      · rcases hgap x y hx hy hxy with q | ⟨z, hz, q1, q2, q3⟩
        · exact absurd q hne
        · have bz := h.1 x z hx hz
          have by' := h.1 x y hx hy
          have hi := ih z hz (by omega) (by omega)
          have hs := cntB_lt (fun z => f (10 * x + z)) (t := f (10 * x + z)) (u := f (10 * x + y)) (by omega) (z := z.toNat) (by show f (10 * x + ((z.toNat : Nat) : Int)) < _; rw [Int.toNat_of_nonneg hz.1]; exact q1) (by show ¬ f (10 * x + ((z.toNat : Nat) : Int)) < _; rw [Int.toNat_of_nonneg hz.1]; omega) 10 (by have := hz.2; have := hz.1; omega)
          omega
  by_cases hinf : f (10 * x + y) = 1000000
  · exact Or.inl hinf
  · right
    have b := h.1 x y hx hy
    have k := key (f (10 * x + y) + 1).toNat y hy (by omega) hinf
    have := cntB_le (fun z => f (10 * x + z)) (f (10 * x + y)) 10
    omega
def iLand (s : SS) : Prop := s.1 2 = s.1 28 ∧ (0 ≤ s.1 2 ∧ s.1 2 ≤ 40) ∧ mtr (s.2 4) 1000000 ∧ posM (s.2 4) ∧ gapM (s.2 4) ∧ (∀ p q, pP p → pP q → s.2 59 (10 * p + q) = min (s.2 4 (10 * p + q)) 100000)
theorem iLand_agr {s t : SS} (h : agr [2, 28] [4, 59] s t) (q : iLand s) : iLand t := by
  have e1 := h.1 2 (by decide)
  have e2 := h.1 28 (by decide)
  have e3 := h.2 4 (by decide)
  have e4 := h.2 59 (by decide)
  unfold iLand
  rw [e1, e2, e3, e4]
  exact q
theorem La_lay_ok {a b l : Int} {s : SS} {Q : Int → SS → Prop} (ha : pP a) (hb : pP b) (hl : 1 ≤ l ∧ l ≤ 30) (h : mtr (s.2 4) 1000000) (hr : 0 ≤ s.1 2 ∧ s.1 2 ≤ 40)
    (hk : ∀ s', frm [2] [4] s s' → s'.1 2 = s.1 2 + 1 → (∀ p q, pP p → pP q → s'.2 4 (10 * p + q) = via (s.2 4) a b l p q) → Q (s.1 2 + 1) s') : Sp_La_lay a b l s Q := by
  intro X3 X13 h3 h13
  -- what holds on the way
  let I : Int → SS → Prop := fun n s1 => frm [] [4] s s1 ∧ (∀ u v, pP u → pP v → via (s.2 4) a b l u v ≤ s1.2 4 (10 * u + v) ∧ s1.2 4 (10 * u + v) ≤ s.2 4 (10 * u + v)) ∧ (∀ u v, pP u → pP v → 10 * u + v < n → s1.2 4 (10 * u + v) = via (s.2 4) a b l u v)
  have kin : ∀ (n : Nat) (p q : Int) (s1 : SS), 0 ≤ p → p ≤ 10 → 0 ≤ q → q ≤ 10 → (p = 10 → q = 0) → 110 - 10 * p - q - p < n → I (10 * p + q) s1 → (p < 10 → X13 a b l p q s1) ∧ (q = 0 → X3 a b l p s1) := by
    intro n
    induction n with
    | zero => intro p q s1 p0 p1 q0 q1 pq hn; omega
    | succ n ih =>
      intro p q s1 p0 p1 q0 q1 pq hn hI
      have k13 : p < 10 → X13 a b l p q s1 := by
        intro hp
        refine h13 _ _ _ _ _ _ ⟨⟨by omega, by omega⟩, fun c => ?_, fun c => ?_⟩
        · refine (ih (p + 1) 0 s1 (by omega) (by omega) (by omega) (by omega) (fun _ => rfl) (by omega) ?_).2 rfl
          rw [show 10 * (p + 1) + 0 = 10 * p + q by omega]
          exact hI
        · have hpp : pP p := ⟨p0, hp⟩
          have hqq : pP q := ⟨q0, c⟩
          have ha1 := ha.1
          have ha2 := ha.2
          have hb1 := hb.1
          have hb2 := hb.2
          unfold Sp_La_distance
          rw [show p * 10 + a = 10 * p + a by omega, show b * 10 + q = 10 * b + q by omega, show p * 10 + b = 10 * p + b by omega, show a * 10 + q = 10 * a + q by omega, show p * 10 + q = 10 * p + q by omega]
          have i1 := hI.2.1 p a hpp ha
          have i2 := hI.2.1 b q hb hqq
          have i3 := hI.2.1 p b hpp hb
          have i4 := hI.2.1 a q ha hqq
          have i5 := hI.2.1 p q hpp hqq
          have b1 := h.1 p a hpp ha
          have b2 := h.1 b q hb hqq
          have b3 := h.1 p b hpp hb
          have b4 := h.1 a q ha hqq
          have b5 := h.1 p q hpp hqq
          have hg : ∀ p q, pP p → pP q → (fun x => via (s.2 4) a b l (x / 10) (x % 10)) (10 * p + q) = via (s.2 4) a b l p q := by
            intro p q hp hq
            have := hq.1
            have := hq.2
            show via (s.2 4) a b l ((10 * p + q) / 10) ((10 * p + q) % 10) = _
            rw [show (10 * p + q) / 10 = p by omega, show (10 * p + q) % 10 = q by omega]
          have hm := via_mtr (g := fun x => via (s.2 4) a b l (x / 10) (x % 10)) h ha hb (show 0 ≤ l by omega) hg
          have z1 := (hm.1 p a hpp ha).1
          have z2 := (hm.1 b q hb hqq).1
          have z3 := (hm.1 p b hpp hb).1
          have z4 := (hm.1 a q ha hqq).1
          have z5 := (hm.1 p q hpp hqq).1
          rw [hg _ _ hpp ha] at z1
          rw [hg _ _ hb hqq] at z2
          rw [hg _ _ hpp hb] at z3
          rw [hg _ _ ha hqq] at z4
          rw [hg _ _ hpp hqq] at z5
          refine ⟨by omega, by omega, by omega, by omega, by omega, ⟨by omega, by omega⟩, ⟨by omega, by omega⟩, ⟨by omega, by omega⟩, ⟨by omega, by omega⟩, by omega, fun s12 h12 => ?_⟩
          have hbest : min (s1.2 4 (10 * p + q)) (min (s1.2 4 (10 * p + a) + l + s1.2 4 (10 * b + q)) (s1.2 4 (10 * p + b) + l + s1.2 4 (10 * a + q))) = via (s.2 4) a b l p q := by
            have t1 := via_tri h ha hb (l := l) (by omega) hpp ha hqq
            have t2 := via_tri h ha hb (l := l) (by omega) ha hb hqq
            have t3 := via_tri h ha hb (l := l) (by omega) hpp hb hqq
            have t4 := via_tri h ha hb (l := l) (by omega) hb ha hqq
            have ab := via_ab (l := l) h ha hb
            have d1 : via (s.2 4) a b l p q = min (s.2 4 (10 * p + q)) (min (s.2 4 (10 * p + a) + l + s.2 4 (10 * b + q)) (s.2 4 (10 * p + b) + l + s.2 4 (10 * a + q))) := rfl
            omega
          rw [hbest] at h12
          have e4 : ∀ x, s12.2 4 x = if x = 10 * p + q then via (s.2 4) a b l p q else s1.2 4 x := by intro x; rw [h12, sA_s]
          refine (ih p (q + 1) s12 p0 p1 (by omega) (by omega) (by omega) (by omega) ⟨by rw [h12]; exact frm_tr hI.1 (frm_A s1 _ _ (by decide)), fun u v hu hv => ?_, fun u v hu hv hlt => ?_⟩).1 hp
          · rw [e4]
            split
            · next e =>
              have eu : u = p ∧ v = q := by have := hu.1; have := hv.1; have := hv.2; omega
              rw [eu.1, eu.2]
              exact ⟨Int.le_refl _, via_le⟩
            · exact hI.2.1 u v hu hv
          · rw [e4]
            split
            · next e =>
              have eu : u = p ∧ v = q := by have := hu.1; have := hv.1; have := hv.2; omega
              rw [eu.1, eu.2]
            · exact hI.2.2 u v hu hv (by omega)
      refine ⟨k13, fun hq => ?_⟩
      refine h3 _ _ _ _ _ ⟨⟨by omega, by omega⟩, fun c => ?_, fun c => ?_⟩
      · intro s2 h2
        have e2 : s2.1 2 = s.1 2 + 1 := by rw [h2, sF_s, hI.1.1 2 rfl]
        rw [e2]
        refine hk s2 ?_ e2 (fun u v hu hv => ?_)
        · rw [h2]
          exact frm_tr (frm_mono hI.1 (by decide) (fun _ h => h)) (frm_F s1 _ (by decide))
        · rw [h2, sF_2]
          have := hu.2
          have := hv.2
          exact hI.2.2 u v hu hv (by omega)
      · rw [← hq]
        exact k13 c
  exact (kin 1000 0 0 s (by omega) (by omega) (by omega) (by omega) (by omega) (by omega) ⟨frm_rf _ _ s, fun u v _ _ => ⟨via_le, Int.le_refl _⟩, fun u v hu hv hlt => by have := hu.1; have := hv.1; omega⟩).2 rfl
/-- one pivot of the model -/
def pvt (g : Int → Int) (m u v : Int) : Int := min (g (10 * u + v)) (g (10 * u + m) + g (10 * m + v))
theorem sum2_rng {x y : Int} (hx : 0 ≤ x ∧ x ≤ 100000) (hy : 0 ≤ y ∧ y ≤ 100000) : rng (x + y) := ⟨by omega, by omega⟩
theorem Md_fw_ok {s : SS} {Q : Int → SS → Prop} {X100 : Int → SS → Prop} {X110 : Int → Int → SS → Prop} {X120 : Int → Int → Int → SS → Prop} (h100 : ∀ (x4 : Int) (s : SS), B_Md_road_100 Q X100 X110 X120 x4 s → X100 x4 s) (h110 : ∀ (x4 x5 : Int) (s : SS), B_Md_road_110 Q X100 X110 X120 x4 x5 s → X110 x4 x5 s) (h120 : ∀ (x4 x5 x6 : Int) (s : SS), B_Md_road_120 Q X100 X110 X120 x4 x5 x6 s → X120 x4 x5 x6 s)
    (hb : ∀ u v, pP u → pP v → 0 ≤ s.2 59 (10 * u + v) ∧ s.2 59 (10 * u + v) ≤ 100000) (hd : ∀ u, pP u → s.2 59 (10 * u + u) = 0) (E : Int → Int → Int) (hEt : ∀ u v w, pP u → pP v → pP w → E u w ≤ E u v + E v w) (hE : ∀ u v, pP u → pP v → E u v ≤ s.2 59 (10 * u + v))
    (hk : ∀ s', frm [] [59] s s' → (∀ u v, pP u → pP v → 0 ≤ s'.2 59 (10 * u + v) ∧ s'.2 59 (10 * u + v) ≤ s.2 59 (10 * u + v) ∧ E u v ≤ s'.2 59 (10 * u + v)) → (∀ u v w, pP u → pP v → pP w → s'.2 59 (10 * u + w) ≤ s'.2 59 (10 * u + v) + s'.2 59 (10 * v + w)) → Q (s'.1 28) s') : X100 0 s := by
  -- before pivot m
  let J : Int → SS → Prop := fun m s1 => frm [] [59] s s1 ∧ (∀ u v, pP u → pP v → 0 ≤ s1.2 59 (10 * u + v) ∧ s1.2 59 (10 * u + v) ≤ s.2 59 (10 * u + v) ∧ E u v ≤ s1.2 59 (10 * u + v)) ∧ (∀ u, pP u → s1.2 59 (10 * u + u) = 0) ∧ (∀ u v w, pP u → pP v → pP w → v < m → s1.2 59 (10 * u + w) ≤ s1.2 59 (10 * u + v) + s1.2 59 (10 * v + w))
  -- within it: g is what stood at its begin
  let I : Int → (Int → Int) → Int → SS → Prop := fun m g n s1 => frm [] [59] s s1 ∧ (∀ u v, pP u → pP v → s1.2 59 (10 * u + v) = if 10 * u + v < n then pvt g m u v else g (10 * u + v))
  have kin : ∀ (m : Int) (g : Int → Int), pP m → (∀ u v, pP u → pP v → 0 ≤ g (10 * u + v) ∧ g (10 * u + v) ≤ 100000) → (∀ u, pP u → g (10 * u + u) = 0) → (∀ s', I m g 100 s' → X100 (m + 1) s') → ∀ (n : Nat) (x y : Int) (s1 : SS), 0 ≤ x → x ≤ 10 → 0 ≤ y → y ≤ 10 → (x = 10 → y = 0) → 110 - 10 * x - y - x < n → I m g (10 * x + y) s1 → (x < 10 → X120 m x y s1) ∧ (y = 0 → X110 m x s1) := by
    intro m g hm hgb hgd hnext n
    induction n with
    | zero => intro x y s1 p0 p1 q0 q1 pq hn; omega
    | succ n ih =>
      intro x y s1 x0 x1 y0 y1 xy hn hI
      have hm1 := hm.1
      have hm2 := hm.2
      have k120 : x < 10 → X120 m x y s1 := by
        intro hx
        refine h120 _ _ _ _ ⟨⟨by omega, by omega⟩, fun c => ?_, fun c => ?_⟩
        · refine (ih (x + 1) 0 s1 (by omega) (by omega) (by omega) (by omega) (fun _ => rfl) (by omega) ?_).2 rfl
          rw [show 10 * (x + 1) + 0 = 10 * x + y by omega]
          exact hI
        · have hxx : pP x := ⟨x0, hx⟩
          have hyy : pP y := ⟨y0, c⟩
          have v1 : s1.2 59 (10 * x + m) = g (10 * x + m) := by
            rw [hI.2 x m hxx hm]
            split
            · unfold pvt
              have := hgd m hm
              omega
            · rfl
          have v2 : s1.2 59 (10 * m + y) = g (10 * m + y) := by
            rw [hI.2 m y hm hyy]
            split
            · unfold pvt
              have := hgd m hm
              omega
            · rfl
          have v3 : s1.2 59 (10 * x + y) = g (10 * x + y) := by
            rw [hI.2 x y hxx hyy, if_neg (by omega)]
          have b1 := hgb x m hxx hm
          have b2 := hgb m y hm hyy
          have b3 := hgb x y hxx hyy
          have nxt : ∀ s2 : SS, frm [] [59] s s2 → (∀ z, s2.2 59 z = if z = 10 * x + y then pvt g m x y else s1.2 59 z) → X120 m x (y + 1) s2 := by
            intro s2 hf e2
            refine (ih x (y + 1) s2 x0 x1 (by omega) (by omega) (by omega) (by omega) ⟨hf, fun u v hu hv => ?_⟩).1 hx
            rw [e2]
            have := hu.1
            have := hv.1
            have := hv.2
            split
            · next e =>
              have eu : u = x ∧ v = y := by omega
              rw [if_pos (by omega), eu.1, eu.2]
            · next e =>
              rw [hI.2 u v hu hv]
              by_cases hlt : 10 * u + v < 10 * x + y
              · rw [if_pos hlt, if_pos (by omega)]
              · rw [if_neg hlt, if_neg (by omega)]
          refine ⟨by omega, by omega, by omega, by rw [v1, v2]; exact sum2_rng b1 b2, by rw [v3]; exact ⟨by omega, by omega⟩, fun d => ?_, fun d => ⟨by omega, fun s10 h10 => ?_⟩⟩
          · refine nxt s1 hI.1 (fun z => ?_)
            split
            · next e =>
              subst e
              unfold pvt
              omega
            · rfl
          · refine nxt s10 (by rw [h10]; exact frm_tr hI.1 (frm_A s1 _ _ (by decide))) (fun z => ?_)
            rw [h10, sA_s]
            split
            · unfold pvt
              omega
            · rfl
      refine ⟨k120, fun hy => ?_⟩
      refine h110 _ _ _ ⟨⟨by omega, by omega⟩, fun c => ?_, fun c => ?_⟩
      · refine hnext s1 ?_
        rw [show (100 : Int) = 10 * x + y by omega]
        exact hI
      · rw [← hy]
        exact k120 c
  have kout : ∀ (n : Nat) (m : Int) (s1 : SS), 0 ≤ m → m ≤ 10 → 10 - m < n → J m s1 → X100 m s1 := by
    intro n
    induction n with
    | zero => intro m s1 m0 m1 hn; omega
    | succ n ih =>
      intro m s1 m0 m1 hn hJ
      refine h100 _ _ ⟨⟨by omega, by omega⟩, fun c => ?_, fun c => ?_⟩
      · refine hk s1 hJ.1 hJ.2.1 (fun u v w hu hv hw => hJ.2.2.2 u v w hu hv hw (by have := hv.2; omega))
      · have hm : pP m := ⟨m0, c⟩
        have hgb : ∀ u v, pP u → pP v → 0 ≤ s1.2 59 (10 * u + v) ∧ s1.2 59 (10 * u + v) ≤ 100000 := fun u v hu hv => by
          have a := hJ.2.1 u v hu hv
          have b := hb u v hu hv
          omega
        refine (kin m (s1.2 59) hm hgb hJ.2.2.1 (fun s' hI => ?_) 1000 0 0 s1 (by omega) (by omega) (by omega) (by omega) (by omega) (by omega) ⟨hJ.1, fun u v hu hv => by rw [if_neg (by have := hu.1; have := hv.1; omega)]⟩).2 rfl
        have ev : ∀ u v, pP u → pP v → s'.2 59 (10 * u + v) = pvt (s1.2 59) m u v := fun u v hu hv => by
          have := hu.2
          have := hv.2
          rw [hI.2 u v hu hv, if_pos (by omega)]
        refine ih (m + 1) s' (by omega) (by omega) (by omega) ⟨hI.1, fun u v hu hv => ?_, fun u hu => ?_, fun u v w hu hv hw hlt => ?_⟩
        · rw [ev u v hu hv]
          have a := hJ.2.1 u v hu hv
          have b := hJ.2.1 u m hu hm
          have d := hJ.2.1 m v hm hv
          have t := hEt u m v hu hm hv
          unfold pvt
          omega
        · rw [ev u u hu hu]
          have a := hJ.2.2.1 u hu
          have b := hJ.2.1 u m hu hm
          have d := hJ.2.1 m u hm hu
          unfold pvt
          omega
        · rw [ev u w hu hw, ev u v hu hv, ev v w hv hw]
          have b1 := hJ.2.1 v m hv hm
          have b2 := hJ.2.1 m v hm hv
          unfold pvt
          by_cases hvm : v = m
          · subst hvm
            have z := hJ.2.2.1 v hv
            have b3 := hJ.2.1 u v hu hv
            have b4 := hJ.2.1 v w hv hw
            omega
          · have t1 := hJ.2.2.2 u v w hu hv hw (by omega)
            have t2 := hJ.2.2.2 m v w hm hv hw (by omega)
            have t3 := hJ.2.2.2 u v m hu hv hm (by omega)
            omega
  exact kout 11 0 s (by omega) (by omega) (by omega) ⟨frm_rf _ _ s, fun u v hu hv => ⟨(hb u v hu hv).1, Int.le_refl _, hE u v hu hv⟩, hd, fun u v w _ hv _ hlt => by have := hv.1; omega⟩
def dRoad (a b l n : Int) : Int := if ¬ (0 ≤ a ∧ a < 10) ∨ ¬ (0 ≤ b ∧ b < 10) then -1 else if l < 1 ∨ 30 < l ∨ a = b then -2 else if 40 ≤ n then -4 else 0
theorem LS_road_ok {a b l : Int} {s : SS} {Q : Int → SS → Prop} (r1 : rng a) (r2 : rng b) (r3 : rng l) (h : mtr (s.2 4) 1000000) (hr : 0 ≤ s.1 2 ∧ s.1 2 ≤ 40) (hn : dRoad a b l (s.1 2) ≠ 0 → Q (dRoad a b l (s.1 2)) s)
    (hk : dRoad a b l (s.1 2) = 0 → ∀ s', frm [2] [4] s s' → s'.1 2 = s.1 2 + 1 → (∀ p q, pP p → pP q → s'.2 4 (10 * p + q) = via (s.2 4) a b l p q) → Q (s.1 2 + 1) s') : Sp_LS_road a b l s Q := by
  have hn' : ∀ v : Int, v = dRoad a b l (s.1 2) → v ≠ 0 → Q v s := fun v e h => by rw [e] at h ⊢; exact hn h
  unfold Sp_LS_road
  refine isB_a (La_isPlace_B r1 s) (fun c1 => hn' _ ?_ (by decide)) (fun c1 => isB_b (La_isPlace_B r2 s) (fun c2 => hn' _ ?_ (by decide)) (fun c2 => ⟨r3, fun c3 => hn' _ ?_ (by decide), fun c3 => ⟨r3, fun c4 => hn' _ ?_ (by decide), fun c4 => ⟨r1, r2, fun c5 => ?_, fun c5 => hn' _ ?_ (by decide)⟩⟩⟩))
  all_goals try (unfold dRoad; (repeat' split) <;> omega)
  unfold Sp_La_isFull
  refine ⟨⟨by omega, by omega⟩, fun c6 => b0 (La_lay_ok c1 c2 ⟨c3, c4⟩ h hr (hk ?_)), fun c6 => b1 (hn' _ ?_ (by decide))⟩
  all_goals (unfold dRoad; (repeat' split) <;> omega)
theorem sim_road {a b l : Int} {s : SS} {K : Int → Int → SS → Prop} (r1 : rng a) (r2 : rng b) (r3 : rng l) (hi : iLand s) (hk : ∀ r s', rng r → iLand s' → frm [2, 28] [4, 59] s s' → K r r s') : Sp_LS_road a b l s (fun x s1 => Sp_Md_road a b l s1 (fun y s2 => K x y s2)) := by
  obtain ⟨i1, i2, i3, i4, i5, i6⟩ := id hi
  have hdr : rng (dRoad a b l (s.1 2)) := by unfold dRoad; (repeat' split) <;> decide
  refine LS_road_ok r1 r2 r3 i3 i2 (fun h => ?_) (fun h s1 hf e1 e2 => ?_)
  · -- refused
    have hv : ∀ v : Int, v = dRoad a b l (s.1 2) → K (dRoad a b l (s.1 2)) v s := fun v e => by rw [e]; exact hk _ s hdr hi (frm_rf _ _ s)
    intro X100 X110 X120 h100 h110 h120
    refine isB_a (Md_isPlace_B r1 s) (fun c1 => hv _ ?_) (fun c1 => isB_b (Md_isPlace_B r2 s) (fun c2 => hv _ ?_) (fun c2 => ⟨r3, isB_a (Md_isIn_B r3 (by decide) (by decide) s) (fun c3 => hv _ ?_) (fun c3 => ⟨r1, r2, fun c5 => ⟨⟨by omega, by omega⟩, fun c6 => ?_, fun c6 => hv _ ?_⟩, fun c5 => hv _ ?_⟩)⟩))
    case refine_4 => exfalso; revert h; unfold dRoad; (repeat' split) <;> omega
    all_goals (unfold dRoad; (repeat' split) <;> omega)
  · have hin : (0 ≤ a ∧ a < 10) ∧ (0 ≤ b ∧ b < 10) ∧ 1 ≤ l ∧ l ≤ 30 ∧ a ≠ b ∧ s.1 2 < 40 := by
      unfold dRoad at h
      split at h
      · omega
      · split at h
        · omega
        · split at h <;> omega
    obtain ⟨ha, hb, l1, l2, hab, hn⟩ := hin
    have g28 : s1.1 28 = s.1 2 := by rw [hf.1 28 rfl, i1]
    have g59 : s1.2 59 = s.2 59 := hf.2 59 rfl
    intro X100 X110 X120 h100 h110 h120
    refine isB_a (Md_isPlace_B r1 s1) (fun c1 => absurd ha c1) (fun c1 => isB_b (Md_isPlace_B r2 s1) (fun c2 => absurd hb c2) (fun c2 => ⟨r3, isB_a (Md_isIn_B r3 (by decide) (by decide) s1) (fun c3 => absurd ⟨l1, l2⟩ c3) (fun c3 => ⟨r1, r2, fun c5 => ⟨⟨by omega, by omega⟩, fun c6 => ?_, fun c6 => by omega⟩, fun c5 => absurd c5 hab⟩)⟩))
    intro s7 h7
    have q59 : s7.2 59 = s.2 59 := by rw [h7, sF_2, g59]
    have q28 : s7.1 28 = s.1 2 + 1 := by rw [h7, sF_s, g28]
    have f7 : frm [28] [59] s1 s7 := by rw [h7]; exact frm_F s1 _ (by decide)
    have mab := i6 a b ha hb
    have dab := i3.1 a b ha hb
    have hN : mtr (s1.2 4) 1000000 := via_mtr i3 ha hb (by omega) e2
    have hP := via_pos i3 i4 ha hb l1 e2
    have hG := via_gap i3 i4 i5 ha hb hab ⟨l1, l2⟩ e2
    -- the pivots over a start s9
    have fin : ∀ s9 : SS, frm [28] [59] s1 s9 → s9.1 28 = s.1 2 + 1 → (∀ u v, pP u → pP v → s9.2 59 (10 * u + v) = if (u = a ∧ v = b) ∨ (u = b ∧ v = a) then min l (s.2 59 (10 * u + v)) else s.2 59 (10 * u + v)) → X100 0 s9 := by
      intro s9 hf9 q9 e9
      have bM : ∀ u v, pP u → pP v → 0 ≤ s.2 59 (10 * u + v) ∧ s.2 59 (10 * u + v) ≤ 100000 := fun u v hu hv => by
        have x1 := i6 u v hu hv
        have x2 := i3.1 u v hu hv
        omega
      have le9 : ∀ u v, pP u → pP v → s9.2 59 (10 * u + v) ≤ s.2 59 (10 * u + v) := fun u v hu hv => by
        rw [e9 u v hu hv]
        split <;> omega
      have ab9 : s9.2 59 (10 * a + b) ≤ l ∧ s9.2 59 (10 * b + a) ≤ l := by
        rw [e9 a b ha hb, e9 b a hb ha, if_pos (Or.inl ⟨rfl, rfl⟩), if_pos (Or.inr ⟨rfl, rfl⟩)]
        omega
      refine Md_fw_ok h100 h110 h120 (s := s9) (fun u v hu hv => ?_) (fun u hu => ?_) (fun u v => min (s1.2 4 (10 * u + v)) 100000) (fun u v w hu hv hw => ?_) (fun u v hu hv => ?_) (fun s' hf' hb' ht' => ?_)
      · have := bM u v hu hv
        rw [e9 u v hu hv]
        split <;> omega
      · rw [e9 u u hu hu, if_neg (by omega), i6 u u hu hu, i3.2.1 u hu]
        rfl
      · have t := hN.2.2 u v w hu hv hw
        have p1 := hN.1 u v hu hv
        have p2 := hN.1 v w hv hw
        show min (s1.2 4 (10 * u + w)) 100000 ≤ min (s1.2 4 (10 * u + v)) 100000 + min (s1.2 4 (10 * v + w)) 100000
        omega
      · show min (s1.2 4 (10 * u + v)) 100000 ≤ _
        rw [e9 u v hu hv]
        have x1 := i6 u v hu hv
        have x2 := e2 u v hu hv
        have x3 : via (s.2 4) a b l u v ≤ s.2 4 (10 * u + v) := via_le
        have x4 := via_ab (l := l) i3 ha hb
        split
        · next c =>
          rcases c with ⟨rfl, rfl⟩ | ⟨rfl, rfl⟩ <;> omega
        · omega
      · have f2 : frm [2, 28] [4, 59] s s' := frm_tr (frm_mono hf (by decide) (by decide)) (frm_tr (frm_mono hf9 (by decide) (by decide)) (frm_mono hf' (by decide) (by decide)))
        have g4 : s'.2 4 = s1.2 4 := by rw [hf'.2 4 rfl, hf9.2 4 rfl]
        have k28 : s'.1 28 = s.1 2 + 1 := by rw [hf'.1 28 rfl, q9]
        have k2 : s'.1 2 = s.1 2 + 1 := by rw [hf'.1 2 rfl, hf9.1 2 rfl, e1]
        rw [k28]
        refine hk _ s' ⟨by omega, by omega⟩ ⟨by rw [k2, k28], by omega, by rw [g4]; exact hN, by rw [g4]; exact hP, by rw [g4]; exact hG, fun p q hp hq => ?_⟩ f2
        rw [g4]
        have lo := (hb' p q hp hq).2.2
        have lo : min (s1.2 4 (10 * p + q)) 100000 ≤ s'.2 59 (10 * p + q) := lo
        have up := (hb' p q hp hq).2.1
        have up2 := le9 p q hp hq
        have m1 := i6 p q hp hq
        have t1 := ht' p a q hp ha hq
        have t2 := ht' a b q ha hb hq
        have t3 := ht' p b q hp hb hq
        have t4 := ht' b a q hb ha hq
        have u1 := (hb' p a hp ha).2.1
        have u2 := (hb' b q hb hq).2.1
        have u3 := (hb' p b hp hb).2.1
        have u4 := (hb' a q ha hq).2.1
        have u5 := (hb' a b ha hb).2.1
        have u6 := (hb' b a hb ha).2.1
        have w1 := le9 p a hp ha
        have w2 := le9 b q hb hq
        have w3 := le9 p b hp hb
        have w4 := le9 a q ha hq
        have m2 := i6 p a hp ha
        have m3 := i6 b q hb hq
        have m4 := i6 p b hp hb
        have m5 := i6 a q ha hq
        have ee := e2 p q hp hq
        unfold via at ee
        omega
    refine ⟨by have := ha.1; have := ha.2; have := hb.1; have := hb.2; omega, r3, by rw [q59]; exact ⟨by omega, by omega⟩, fun d => ?_, fun d => ⟨by have := ha.1; have := ha.2; have := hb.1; have := hb.2; omega, fun s8 h8 => ⟨by have := ha.1; have := ha.2; have := hb.1; have := hb.2; omega, fun s9 h9 => ?_⟩⟩⟩
    · refine fin s7 f7 q28 (fun u v hu hv => ?_)
      rw [q59]
      rw [q59] at d
      split
      · next c =>
        have sy := (i3.1 a b ha hb).2.2
        have m2 := i6 b a hb ha
        rcases c with ⟨rfl, rfl⟩ | ⟨rfl, rfl⟩ <;> omega
      · rfl
    · have f9 : frm [28] [59] s1 s9 := by
        rw [h9, h8]
        exact frm_tr (frm_tr f7 (frm_A s7 _ _ (by decide))) (frm_A _ _ _ (by decide))
      refine fin s9 f9 (by rw [h9, sA_1, h8, sA_1, q28]) (fun u v hu hv => ?_)
      rw [h9, sA_s, h8, sA_s, q59]
      rw [q59] at d
      have sy := (i3.1 a b ha hb).2.2
      have m2 := i6 b a hb ha
      have := hu.1
      have := hv.1
      have := hu.2
      have := hv.2
      have := ha.1
      have := hb.1
      have := ha.2
      have := hb.2
      by_cases c : (u = a ∧ v = b) ∨ (u = b ∧ v = a)
      · rw [if_pos c]
        rcases c with ⟨rfl, rfl⟩ | ⟨rfl, rfl⟩
        · rw [if_pos rfl]
          split <;> omega
        · rw [if_pos rfl]
          omega
      · rw [if_neg c, if_neg (by omega), if_neg (by omega)]
theorem sim_far {a b : Int} {s : SS} {K : Int → Int → SS → Prop} (r1 : rng a) (r2 : rng b) (hi : iLand s) (hk : ∀ r, rng r → K r r s) : Sp_LS_far a b s (fun x s1 => Sp_Md_far a b s1 (fun y s2 => K x y s2)) := by
  obtain ⟨i1, i2, i3, i4, i5, i6⟩ := id hi
  have bad : ¬ (0 ≤ a ∧ a < 10) ∨ ¬ (0 ≤ b ∧ b < 10) → Sp_Md_far a b s (fun y s2 => K (-1) y s2) := by
    intro c
    refine isB_a (Md_isPlace_B r1 s) (fun _ => hk _ (by decide)) (fun c1 => isB_b (Md_isPlace_B r2 s) (fun _ => hk _ (by decide)) (fun c2 => ?_))
    exact absurd c (by omega)
  refine isB_a (La_isPlace_B r1 s) (fun c => bad (Or.inl c)) (fun c1 => isB_b (La_isPlace_B r2 s) (fun c => bad (Or.inr c)) (fun c2 => ?_))
  have m := i6 a b c1 c2
  have g := gap_bound i3 i5 c1 c2
  have bd := i3.1 a b c1 c2
  unfold Sp_La_distance
  rw [show a * 10 + b = 10 * a + b by omega]
  have go : ∀ v : Int, (s.2 59 (10 * a + b) < 100000 → v = s.2 59 (10 * a + b)) → (100000 ≤ s.2 59 (10 * a + b) → v = -5) → Sp_Md_far a b s (fun y s2 => K v y s2) := by
    intro v v1 v2
    refine isB_a (Md_isPlace_B r1 s) (fun c => absurd c1 c) (fun _ => isB_b (Md_isPlace_B r2 s) (fun c => absurd c2 c) (fun _ => ⟨by omega, ⟨by omega, by omega⟩, fun d => ⟨by omega, ?_⟩, fun d => ?_⟩))
    · rw [v1 d]; exact hk _ ⟨by omega, by omega⟩
    · rw [v2 d]; exact hk _ (by decide)
  refine ⟨by omega, ⟨by omega, by omega⟩, fun d => go _ (fun _ => by omega) (fun _ => by omega), fun d => go _ (fun _ => by omega) (fun _ => rfl)⟩
end
