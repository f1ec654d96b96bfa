section
/-! counts that are held -/
theorem LS_count_0 {s : SS} {Q : Int → SS → Prop} (hk : Q (s.1 1) s) : Sp_LS_count 0 s Q := by
  unfold Sp_LS_count
  (repeat' first | apply And.intro | intro _) <;> first | omega | exact hk
theorem Md_count_0 {s : SS} {Q : Int → SS → Prop} (hk : Q (s.1 29) s) : Sp_Md_count 0 s Q := by
  intro X84 X148 X192 h84 h148 h192
  unfold B_Md_count_e
  (repeat' first | apply And.intro | intro _) <;> first | omega | exact hk
theorem sim_count0 {s : SS} {K : Int → Int → SS → Prop} (e : s.1 29 = s.1 1) (hk : K (s.1 1) (s.1 1) s) : Sp_LS_count 0 s (fun p s1 => Sp_Md_count 0 s1 (fun q s2 => K p q s2)) := LS_count_0 (Md_count_0 (by rw [e]; exact hk))
theorem LS_count_1 {s : SS} {Q : Int → SS → Prop} (hk : Q (s.1 4) s) : Sp_LS_count 1 s Q := by
  unfold Sp_LS_count
  (repeat' first | apply And.intro | intro _) <;> first | omega | exact hk
theorem Md_count_1 {s : SS} {Q : Int → SS → Prop} (hk : Q (s.1 31) s) : Sp_Md_count 1 s Q := by
  intro X84 X148 X192 h84 h148 h192
  unfold B_Md_count_e
  (repeat' first | apply And.intro | intro _) <;> first | omega | exact hk
theorem sim_count1 {s : SS} {K : Int → Int → SS → Prop} (e : s.1 31 = s.1 4) (hk : K (s.1 4) (s.1 4) s) : Sp_LS_count 1 s (fun p s1 => Sp_Md_count 1 s1 (fun q s2 => K p q s2)) := LS_count_1 (Md_count_1 (by rw [e]; exact hk))
theorem LS_count_3 {s : SS} {Q : Int → SS → Prop} (hk : Q (s.1 7) s) : Sp_LS_count 3 s Q := by
  unfold Sp_LS_count
  (repeat' first | apply And.intro | intro _) <;> first | omega | exact hk
theorem Md_count_3 {s : SS} {Q : Int → SS → Prop} (hk : Q (s.1 36) s) : Sp_Md_count 3 s Q := by
  intro X84 X148 X192 h84 h148 h192
  unfold B_Md_count_e
  (repeat' first | apply And.intro | intro _) <;> first | omega | exact hk
theorem sim_count3 {s : SS} {K : Int → Int → SS → Prop} (e : s.1 36 = s.1 7) (hk : K (s.1 7) (s.1 7) s) : Sp_LS_count 3 s (fun p s1 => Sp_Md_count 3 s1 (fun q s2 => K p q s2)) := LS_count_3 (Md_count_3 (by rw [e]; exact hk))
theorem LS_count_5 {s : SS} {Q : Int → SS → Prop} (hk : Q (s.1 18) s) : Sp_LS_count 5 s Q := by
  unfold Sp_LS_count
  (repeat' first | apply And.intro | intro _) <;> first | omega | exact hk
theorem Md_count_5 {s : SS} {Q : Int → SS → Prop} (hk : Q (s.1 39) s) : Sp_Md_count 5 s Q := by
  intro X84 X148 X192 h84 h148 h192
  unfold B_Md_count_e
  (repeat' first | apply And.intro | intro _) <;> first | omega | exact hk
theorem sim_count5 {s : SS} {K : Int → Int → SS → Prop} (e : s.1 39 = s.1 18) (hk : K (s.1 18) (s.1 18) s) : Sp_LS_count 5 s (fun p s1 => Sp_Md_count 5 s1 (fun q s2 => K p q s2)) := LS_count_5 (Md_count_5 (by rw [e]; exact hk))
theorem LS_count_6 {s : SS} {Q : Int → SS → Prop} (hk : Q (s.1 0) s) : Sp_LS_count 6 s Q := by
  unfold Sp_LS_count
  (repeat' first | apply And.intro | intro _) <;> first | omega | exact hk
theorem Md_count_6 {s : SS} {Q : Int → SS → Prop} (hk : Q (s.1 44) s) : Sp_Md_count 6 s Q := by
  intro X84 X148 X192 h84 h148 h192
  unfold B_Md_count_e
  (repeat' first | apply And.intro | intro _) <;> first | omega | exact hk
theorem sim_count6 {s : SS} {K : Int → Int → SS → Prop} (e : s.1 44 = s.1 0) (hk : K (s.1 0) (s.1 0) s) : Sp_LS_count 6 s (fun p s1 => Sp_Md_count 6 s1 (fun q s2 => K p q s2)) := LS_count_6 (Md_count_6 (by rw [e]; exact hk))
theorem LS_count_8 {s : SS} {Q : Int → SS → Prop} (hk : Q (s.1 25) s) : Sp_LS_count 8 s Q := by
  unfold Sp_LS_count
  (repeat' first | apply And.intro | intro _) <;> first | omega | exact hk
theorem Md_count_8 {s : SS} {Q : Int → SS → Prop} (hk : Q (s.1 46) s) : Sp_Md_count 8 s Q := by
  intro X84 X148 X192 h84 h148 h192
  unfold B_Md_count_e
  (repeat' first | apply And.intro | intro _) <;> first | omega | exact hk
theorem sim_count8 {s : SS} {K : Int → Int → SS → Prop} (e : s.1 46 = s.1 25) (hk : K (s.1 25) (s.1 25) s) : Sp_LS_count 8 s (fun p s1 => Sp_Md_count 8 s1 (fun q s2 => K p q s2)) := LS_count_8 (Md_count_8 (by rw [e]; exact hk))
theorem LS_count_9 {s : SS} {Q : Int → SS → Prop} (hk : Q (s.1 27) s) : Sp_LS_count 9 s Q := by
  unfold Sp_LS_count
  (repeat' first | apply And.intro | intro _) <;> first | omega | exact hk
theorem Md_count_9 {s : SS} {Q : Int → SS → Prop} (hk : Q (s.1 47) s) : Sp_Md_count 9 s Q := by
  intro X84 X148 X192 h84 h148 h192
  unfold B_Md_count_e
  (repeat' first | apply And.intro | intro _) <;> first | omega | exact hk
theorem sim_count9 {s : SS} {K : Int → Int → SS → Prop} (e : s.1 47 = s.1 27) (hk : K (s.1 27) (s.1 27) s) : Sp_LS_count 9 s (fun p s1 => Sp_Md_count 9 s1 (fun q s2 => K p q s2)) := LS_count_9 (Md_count_9 (by rw [e]; exact hk))
theorem LS_count_11 {s : SS} {Q : Int → SS → Prop} (hk : Q (s.1 3) s) : Sp_LS_count 11 s Q := by
  unfold Sp_LS_count
  (repeat' first | apply And.intro | intro _) <;> first | omega | exact hk
theorem Md_count_11 {s : SS} {Q : Int → SS → Prop} (hk : Q (s.1 30) s) : Sp_Md_count 11 s Q := by
  intro X84 X148 X192 h84 h148 h192
  unfold B_Md_count_e
  (repeat' first | apply And.intro | intro _) <;> first | omega | exact hk
theorem sim_count11 {s : SS} {K : Int → Int → SS → Prop} (e : s.1 30 = s.1 3) (hk : K (s.1 3) (s.1 3) s) : Sp_LS_count 11 s (fun p s1 => Sp_Md_count 11 s1 (fun q s2 => K p q s2)) := LS_count_11 (Md_count_11 (by rw [e]; exact hk))
theorem LS_count_x {x : Int} {s : SS} {Q : Int → SS → Prop} (rx : rng x) (hx : x < 0 ∨ 11 < x) (hk : Q (-1) s) : Sp_LS_count x s Q := by
  obtain ⟨x0, x1⟩ := rx
  unfold Sp_LS_count
  (repeat' first | apply And.intro | intro _) <;> first | omega | exact hk
theorem Md_count_x {x : Int} {s : SS} {Q : Int → SS → Prop} (rx : rng x) (hx : x < 0 ∨ 11 < x) (hk : Q (-1) s) : Sp_Md_count x s Q := by
  obtain ⟨x0, x1⟩ := rx
  intro X84 X148 X192 h84 h148 h192
  unfold B_Md_count_e
  (repeat' first | apply And.intro | intro _) <;> first | omega | exact hk
theorem sim_countx {x : Int} {s : SS} {K : Int → Int → SS → Prop} (rx : rng x) (hx : x < 0 ∨ 11 < x) (hk : K (-1) (-1) s) : Sp_LS_count x s (fun p s1 => Sp_Md_count x s1 (fun q s2 => K p q s2)) := LS_count_x rx hx (Md_count_x rx hx hk)
end
