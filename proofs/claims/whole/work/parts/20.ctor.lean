section
def nwK (U : State) : Prop := va_Nw (.methodLinkNest "LastSeen" 18 y_Ta_init "LastSeen") U ∧ va_Nw (.methodLinkNest "LastSeen" 25 y_Na_init "LastSeen") U ∧ va_Nw (.methodLinkNest "LastSeen" 32 y_Wo_init "LastSeen") U ∧ va_Nw (.methodLinkNest "LastSeen" 53 y_Ru_init "LastSeen") U ∧ va_Nw (.methodLinkNest "LastSeen" 60 y_Bn_init "LastSeen") U
theorem nwK_same {u U : State} (h : u.vm = U.vm) (q : nwK u) : nwK U := ⟨va_Nw.same rfl h q.1, va_Nw.same rfl h q.2.1, va_Nw.same rfl h q.2.2.1, va_Nw.same rfl h q.2.2.2.1, va_Nw.same rfl h q.2.2.2.2⟩
theorem nwK_warm {s U : State} (hW : s.WarmedH U.vm) (q : nwK s) : nwK U := ⟨va_Nw.warmM hW q.1, va_Nw.warmM hW q.2.1, va_Nw.warmM hW q.2.2.1, va_Nw.warmM hW q.2.2.2.1, va_Nw.warmM hW q.2.2.2.2⟩
def AtC (F : FT) (n k : Nat) (pc : Nat) (lv : List (Nat × Value)) (st : List Value) (ws : va_W) : Prop :=
  match F with
  | (l, G, A, p, e, R, s, m, args, below, meth, c, kc, ks, nL, Q) => ∀ (H : Heap) (locs : List Loc) (ls : Array Slot), va_P G.2.1 classes ws H → va_D A ws → va_S A s.heap H locs → lv_has ls nL lv → W p l e R s m args below meth c H locs n k Q (F0 m pc ls st)
def OkC (F : FT) (cc : ByteArray) (own : String) (rm : Room) : Prop :=
  match F with
  | (l, G, A, p, e, R, s, m, args, below, meth, c, kc, ks, nL, Q) => p.tables.exec = Jvm.exec ∧ c.code = cc ∧ c.maxLocals = nL ∧ s.vm.findClass own = some m.cls ∧ (∀ w ∈ lw_ok, w.before args s = true) ∧ va_K G.2.1 classes (tysG G) s ∧ (∀ q, s.heap.size ≤ q → A q) ∧ R = rm ∧ nwK s
section CROWS
variable {F : FT} {cc : ByteArray} {own : String} {rm : Room} {n k : Nat} {pc : Nat} {lv lv' : List (Nat × Value)} {st : List Value} {ws : va_W}
theorem c_sub (ks : List Nat) (hl : lv_pick lv ks = lv') (kk : AtC F n k pc lv' st ws) : AtC F n k pc lv st ws := by
  obtain ⟨l, G, A, p, e, R, s, m, args, below, meth, c, kc, ks2, nL, Q⟩ := F
  intro H locs ls hP hD hS h
  exact kk H locs ls hP hD hS (lv_sub h _ hl)
theorem c_ws {ws' : va_W} (e : ws = ws') (kk : AtC F n k pc lv st ws') : AtC F n k pc lv st ws := e ▸ kk
theorem c_iconst (ok : OkC F cc own rm) {i : Int} (v : Int) (hd : decode cc pc = .ok (.iconst i, 1)) (hv : Int32.ofInt i = iI v) (kk : AtC F n k (pc + 1) lv (vI v :: st) ws) : AtC F n k pc lv st ws := by
  obtain ⟨l, G, A, p, e, R, s, m, args, below, meth, c, kc, ks, nL, Q⟩ := F
  obtain ⟨hx, hb, hml, hown, hts, hK, hA, hR, hN⟩ := ok
  intro H locs ls hP hD hS hl
  exact lv_iconst hx hb hd hv (kk H locs ls hP hD hS hl)
theorem c_bipush (ok : OkC F cc own rm) {i : Int} (v : Int) (hd : decode cc pc = .ok (.bipush i, 2)) (hv : (Int8.ofInt i).toInt32 = iI v) (kk : AtC F n k (pc + 2) lv (vI v :: st) ws) : AtC F n k pc lv st ws := by
  obtain ⟨l, G, A, p, e, R, s, m, args, below, meth, c, kc, ks, nL, Q⟩ := F
  obtain ⟨hx, hb, hml, hown, hts, hK, hA, hR, hN⟩ := ok
  intro H locs ls hP hD hS hl
  exact lv_bipush hx hb hd hv (kk H locs ls hP hD hS hl)
theorem c_sipush (ok : OkC F cc own rm) {i : Int} (v : Int) (hd : decode cc pc = .ok (.sipush i, 3)) (hv : (Int16.ofInt i).toInt32 = iI v) (kk : AtC F n k (pc + 3) lv (vI v :: st) ws) : AtC F n k pc lv st ws := by
  obtain ⟨l, G, A, p, e, R, s, m, args, below, meth, c, kc, ks, nL, Q⟩ := F
  obtain ⟨hx, hb, hml, hown, hts, hK, hA, hR, hN⟩ := ok
  intro H locs ls hP hD hS hl
  exact lv_sipush hx hb hd hv (kk H locs ls hP hD hS hl)
theorem c_ldc (ok : OkC F cc own rm) {i : Nat} {w : Int32} (v : Int) (hw : Cond.constant own i w ∈ lw_ok) (hd : decode cc pc = .ok (.ldc i, 2)) (hv : w = iI v) (kk : AtC F n k (pc + 2) lv (vI v :: st) ws) : AtC F n k pc lv st ws := by
  obtain ⟨l, G, A, p, e, R, s, m, args, below, meth, c, kc, ks, nL, Q⟩ := F
  obtain ⟨hx, hb, hml, hown, hts, hK, hA, hR, hN⟩ := ok
  intro H locs ls hP hD hS hl
  exact lv_ldc hx hb hown (hts _ hw) hd (hv ▸ kk H locs ls hP hD hS hl)
theorem c_iload_n (ok : OkC F cc own rm) (q : Nat) {i : Nat} {j : Fin 4} {x : Int32} (hd : decode cc pc = .ok (.iload_n j, 1)) (hj : (j : Nat) = i) (hv : lv[q]? = some (i, .int x)) (kk : AtC F n k (pc + 1) lv (.int x :: st) ws) : AtC F n k pc lv st ws := by
  obtain ⟨l, G, A, p, e, R, s, m, args, below, meth, c, kc, ks, nL, Q⟩ := F
  obtain ⟨hx, hb, hml, hown, hts, hK, hA, hR, hN⟩ := ok
  intro H locs ls hP hD hS hl
  exact lv_iload_n hx hb hd hj (lv_at hl q hv) (kk H locs ls hP hD hS hl)
theorem c_istore_n (ok : OkC F cc own rm) {i nL' : Nat} {j : Fin 4} {x : Int32} (lv' : List (Nat × Value)) (hd : decode cc pc = .ok (.istore_n j, 1)) (hj : (j : Nat) = i) (hm : F.2.2.2.2.2.2.2.2.2.2.2.2.2.2.1 = nL') (hn : i < nL') (hl2 : (i, Value.int x) :: lv.filter (fun q => !(q.1 == i) && !(q.1 + 1 == i && q.2.category == 2)) = lv') (kk : AtC F n k (pc + 1) lv' st ws) : AtC F n k pc lv (.int x :: st) ws := by
  obtain ⟨l, G, A, p, e, R, s, m, args, below, meth, c, kc, ks, nL, Q⟩ := F
  obtain ⟨hx, hb, hml, hown, hts, hK, hA, hR, hN⟩ := ok
  intro H locs ls hP hD hS hl
  have hn : i < nL := by rw [show nL = nL' from hm]; exact hn
  exact lv_istore_n hx hb hd hj hl hn hl2 (fun ls2 hl3 => kk H locs ls2 hP hD hS hl3)
theorem c_aload_n (ok : OkC F cc own rm) (q : Nat) {i : Nat} {j : Fin 4} {x : Nat} (hd : decode cc pc = .ok (.aload_n j, 1)) (hj : (j : Nat) = i) (hv : lv[q]? = some (i, .ref x)) (kk : AtC F n k (pc + 1) lv (.ref x :: st) ws) : AtC F n k pc lv st ws := by
  obtain ⟨l, G, A, p, e, R, s, m, args, below, meth, c, kc, ks, nL, Q⟩ := F
  obtain ⟨hx, hb, hml, hown, hts, hK, hA, hR, hN⟩ := ok
  intro H locs ls hP hD hS hl
  exact lv_aload_n hx hb hd hj (lv_at hl q hv) (kk H locs ls hP hD hS hl)
theorem c_astore_n (ok : OkC F cc own rm) {i nL' : Nat} {j : Fin 4} {x : Nat} (lv' : List (Nat × Value)) (hd : decode cc pc = .ok (.astore_n j, 1)) (hj : (j : Nat) = i) (hm : F.2.2.2.2.2.2.2.2.2.2.2.2.2.2.1 = nL') (hn : i < nL') (hl2 : (i, Value.ref x) :: lv.filter (fun q => !(q.1 == i) && !(q.1 + 1 == i && q.2.category == 2)) = lv') (kk : AtC F n k (pc + 1) lv' st ws) : AtC F n k pc lv (.ref x :: st) ws := by
  obtain ⟨l, G, A, p, e, R, s, m, args, below, meth, c, kc, ks, nL, Q⟩ := F
  obtain ⟨hx, hb, hml, hown, hts, hK, hA, hR, hN⟩ := ok
  intro H locs ls hP hD hS hl
  have hn : i < nL := by rw [show nL = nL' from hm]; exact hn
  exact lv_astore_n hx hb hd hj hl hn hl2 (fun ls2 hl3 => kk H locs ls2 hP hD hS hl3)
theorem c_iinc (ok : OkC F cc own rm) (q : Nat) {i nL' : Nat} {j : Int} {x : Int} (v : Int) (lv' : List (Nat × Value)) (hd : decode cc pc = .ok (.iinc i j, 3)) (hk : lv[q]? = some (i, vI x)) (hv : x + j = v) (hm : F.2.2.2.2.2.2.2.2.2.2.2.2.2.2.1 = nL') (hn : i < nL') (hl2 : (i, vI v) :: lv.filter (fun q => !(q.1 == i) && !(q.1 + 1 == i && q.2.category == 2)) = lv') (kk : AtC F n k (pc + 3) lv' st ws) : AtC F n k pc lv st ws := by
  obtain ⟨l, G, A, p, e, R, s, m, args, below, meth, c, kc, ks, nL, Q⟩ := F
  obtain ⟨hx, hb, hml, hown, hts, hK, hA, hR, hN⟩ := ok
  intro H locs ls hP hD hS hl
  have hn : i < nL := by rw [show nL = nL' from hm]; exact hn
  exact lv_iinc hx hb hd hl hk (by rw [← hv]; exact iI_add x j) hn hl2 (fun ls2 hl3 => kk H locs ls2 hP hD hS hl3)
theorem c_iadd (ok : OkC F cc own rm) {x y : Int} (hd : decode cc pc = .ok (.iadd, 1)) (kk : AtC F n k (pc + 1) lv (vI (x + y) :: st) ws) : AtC F n k pc lv (vI y :: vI x :: st) ws := by
  obtain ⟨l, G, A, p, e, R, s, m, args, below, meth, c, kc, ks, nL, Q⟩ := F
  obtain ⟨hx, hb, hml, hown, hts, hK, hA, hR, hN⟩ := ok
  intro H locs ls hP hD hS hl
  refine lv_iadd hx hb hd ?_
  rw [iI_add]
  exact kk H locs ls hP hD hS hl
theorem c_imul (ok : OkC F cc own rm) {x y : Int} (hd : decode cc pc = .ok (.imul, 1)) (kk : AtC F n k (pc + 1) lv (vI (x * y) :: st) ws) : AtC F n k pc lv (vI y :: vI x :: st) ws := by
  obtain ⟨l, G, A, p, e, R, s, m, args, below, meth, c, kc, ks, nL, Q⟩ := F
  obtain ⟨hx, hb, hml, hown, hts, hK, hA, hR, hN⟩ := ok
  intro H locs ls hP hD hS hl
  refine lv_imul hx hb hd ?_
  rw [iI_mul]
  exact kk H locs ls hP hD hS hl
theorem c_irem (ok : OkC F cc own rm) {x : Int} (d : Int) (hd : decode cc pc = .ok (.irem, 1)) (h0 : 0 ≤ x ∧ x ≤ 2147483647) (h1 : 0 < d ∧ d ≤ 1000000) (hne : ¬ iI d = 0) (kk : AtC F n k (pc + 1) lv (vI (x % d) :: st) ws) : AtC F n k pc lv (vI d :: vI x :: st) ws := by
  obtain ⟨l, G, A, p, e, R, s, m, args, below, meth, c, kc, ks, nL, Q⟩ := F
  obtain ⟨hx, hb, hml, hown, hts, hK, hA, hR, hN⟩ := ok
  intro H locs ls hP hD hS hl
  refine lv_irem hx hb hd hne ?_
  rw [iI_emod d h0.1 h0.2 h1.1 h1.2]
  exact kk H locs ls hP hD hS hl
theorem c_dup (ok : OkC F cc own rm) {va : Value} (hd : decode cc pc = .ok (.dup, 1)) (hva : va.category = 1) (kk : AtC F n k (pc + 1) lv (va :: va :: st) ws) : AtC F n k pc lv (va :: st) ws := by
  obtain ⟨l, G, A, p, e, R, s, m, args, below, meth, c, kc, ks, nL, Q⟩ := F
  obtain ⟨hx, hb, hml, hown, hts, hK, hA, hR, hN⟩ := ok
  intro H locs ls hP hD hS hl
  exact lv_dup hx hb hd hva (kk H locs ls hP hD hS hl)
theorem c_goto (ok : OkC F cc own rm) {off : Int} (tgt : Nat) (hd : decode cc pc = .ok (.goto off, 3)) (ht : (pc : Int) + off = (tgt : Int)) (kk : AtC F n k tgt lv st ws) : AtC F n k pc lv st ws := by
  obtain ⟨l, G, A, p, e, R, s, m, args, below, meth, c, kc, ks, nL, Q⟩ := F
  obtain ⟨hx, hb, hml, hown, hts, hK, hA, hR, hN⟩ := ok
  intro H locs ls hP hD hS hl
  exact lv_goto hx hb hd ht (kk H locs ls hP hD hS hl)
theorem c_icmp_ge (ok : OkC F cc own rm) {x y : Int} {off : Int} (tgt : Nat) (hd : decode cc pc = .ok (.if_icmp .ge off, 3)) (ht : (pc : Int) + off = (tgt : Int)) (hx1 : rng x) (hy1 : rng y) (kt : y ≤ x → AtC F n k tgt lv st ws) (kf : x < y → AtC F n k (pc + 3) lv st ws) : AtC F n k pc lv (vI y :: vI x :: st) ws := by
  obtain ⟨l, G, A, p, e, R, s, m, args, below, meth, c, kc, ks, nL, Q⟩ := F
  obtain ⟨hx, hb, hml, hown, hts, hK, hA, hR, hN⟩ := ok
  intro H locs ls hP hD hS hl
  have e5 := iI_le hy1 hx1
  exact lv_icmp_ge (tgt := tgt) hx hb hd ht (fun h => kt (e5.mp h) H locs ls hP hD hS hl) (fun h => kf (Int.not_le.mp (fun q => h (e5.mpr q))) H locs ls hP hD hS hl)
theorem c_icmp_ne (ok : OkC F cc own rm) {x y : Int} {off : Int} (tgt : Nat) (hd : decode cc pc = .ok (.if_icmp .ne off, 3)) (ht : (pc : Int) + off = (tgt : Int)) (hx1 : rng x) (hy1 : rng y) (kt : ¬ x = y → AtC F n k tgt lv st ws) (kf : x = y → AtC F n k (pc + 3) lv st ws) : AtC F n k pc lv (vI y :: vI x :: st) ws := by
  obtain ⟨l, G, A, p, e, R, s, m, args, below, meth, c, kc, ks, nL, Q⟩ := F
  obtain ⟨hx, hb, hml, hown, hts, hK, hA, hR, hN⟩ := ok
  intro H locs ls hP hD hS hl
  have e3 := iI_eq hx1 hy1
  exact lv_icmp_ne (tgt := tgt) hx hb hd ht (fun h => kt (fun q => h (e3.mpr q)) H locs ls hP hD hS hl) (fun h => kf (e3.mp h) H locs ls hP hD hS hl)
theorem c_if_ne (ok : OkC F cc own rm) {x : Int} {off : Int} (tgt : Nat) (hd : decode cc pc = .ok (.ifCond .ne off, 3)) (ht : (pc : Int) + off = (tgt : Int)) (hx1 : rng x) (kt : ¬ x = 0 → AtC F n k tgt lv st ws) (kf : x = 0 → AtC F n k (pc + 3) lv st ws) : AtC F n k pc lv (vI x :: st) ws := by
  obtain ⟨l, G, A, p, e, R, s, m, args, below, meth, c, kc, ks, nL, Q⟩ := F
  obtain ⟨hx, hb, hml, hown, hts, hK, hA, hR, hN⟩ := ok
  intro H locs ls hP hD hS hl
  have e3 := iI_eq hx1 rng0
  exact lv_if_ne (tgt := tgt) hx hb hd ht (fun h => kt (fun q => h (e3.mpr q)) H locs ls hP hD hS hl) (fun h => kf (e3.mp h) H locs ls hP hD hS hl)
theorem c_objInit (ok : OkC F cc own rm) {idx : Nat} {a : Nat} (w1 : Cond.methodLink own idx Lib.objectInit ∈ lw_ok) (w2 : Cond.instanceMethod Lib.objectInit ∈ lw_ok) (w3 : Cond.code Lib.objectInit ⟨#[0xb1]⟩ 1 none ∈ lw_ok) (hf : 1 ≤ rm.frames) (hlo : (st.map fun v => v.category).sum + 12 ≤ rm.locals) (hd : decode cc pc = .ok (.invokespecial idx, 3)) (kk : AtC F n k (pc + 3) lv st ws) : AtC F n k pc lv (.ref a :: st) ws := by
  obtain ⟨l, G, A, p, e, R, s, m, args, below, meth, c, kc, ks, nL, Q⟩ := F
  obtain ⟨hx, hb, hml, hown, hts, hK, hA, hR, hN⟩ := ok
  intro H locs ls hP hD hS hl
  subst hR
  refine W.objInit hx hb hown (hts _ w1) (hts _ w2) (hts _ w3) rfl (hl.1.trans hml.symm) rfl hd hf (by show 2 * 0 + _ + 12 ≤ _; omega) ?_
  exact W.eq (g2 := F0 m (pc + 3) ls st) rfl (kk H locs ls hP hD hS hl)
theorem c_getf (ok : OkC F cc own rm) (o pl : Nat) {C : String} {TT : u_T} {N j index : Nat} {a : Nat} {fs : List Value} {v : Value} (hin : ∀ w ∈ u_ws C TT N, w ∈ lw_ok) (hc : classes[o]? = some (C, TT, N)) (he : ws[pl]? = some (a, .inr (o, fs))) (hj : j < N) (hsame : (TT j).1 = C) (hw : Cond.fieldLink own index C (TT j).2.1 (TT j).2.2.1 ∈ lw_ok) (hv : fs[j]? = some v) (hd : decode cc pc = .ok (.getfield index, 3)) (kk : AtC F n k (pc + 3) lv (v :: st) ws) : AtC F n k pc lv (.ref a :: st) ws := by
  obtain ⟨l, G, A, p, e, R, s, m, args, below, meth, c, kc, ks, nL, Q⟩ := F
  obtain ⟨hx, hb, hml, hown, hts, hK, hA, hR, hN⟩ := ok
  intro H locs ls hP hD hS hl
  exact va_get (ci := o) (C := C) (T := TT) (N := N) hx hb hts hin hown hK hP pl he hc j hj (hts _ hw) (fun _ h9 => by rw [hsame] at h9; exact h9) hv hd (kk H locs ls hP hD hS hl)
theorem c_putF (ok : OkC F cc own rm) (o : Nat) {C : String} {TT : u_T} {N j index : Nat} {a : Nat} {fs : List Value} {v : Value} {ty : FieldType} {ty0 : Nat → FieldType} (hin : ∀ w ∈ u_ws C TT N, w ∈ lw_ok) (hty : ∀ k, k < N → parseFieldDescriptor (TT k).2.2.1 = some (ty0 k)) (hnm : ∀ a, a < N → ∀ b, b < N → a ≠ b → (TT a).2.1 ≠ (TT b).2.1) (hc : classes[o]? = some (C, TT, N)) (hj : j < N) (hsame : (TT j).1 = C) (hw : Cond.fieldLink own index C (TT j).2.1 (TT j).2.2.1 ∈ lw_ok) (hfin : (TT j).2.2.2 = true) (hini : F.2.2.2.2.2.2.2.2.2.2.1.name = "<init>") (hown2 : own = C) (hde : parseFieldDescriptor (TT j).2.2.1 = some ty) (hn : narrow ty v = v) (hfit : fits ty v = true) (hlt : j < fs.length) (hd : decode cc pc = .ok (.putfield index, 3)) (kk : AtC F n k (pc + 3) lv st ((a, .inr (o, fs.set j v)) :: ws)) : AtC F n k pc lv (v :: .ref a :: st) ((a, .inr (o, fs)) :: ws) := by
  obtain ⟨l, G, A, p, e, R, s, m, args, below, meth, c, kc, ks, nL, Q⟩ := F
  obtain ⟨hx, hb, hml, hown, hts, hK, hA, hR, hN⟩ := ok
  intro H locs ls hP hD hS hl
  exact va_putF (ci := o) (C := C) (T := TT) (N := N) hx hb hts hin ty0 hty hnm hown hK hP hD hS 0 rfl hc j hj (hts _ hw) (fun _ h9 => by rw [hsame] at h9; exact h9) hfin hini (hsame.trans hown2.symm) hde hn hfit hlt hd (fun H2 locs2 hP2 hD2 hS2 => kk H2 locs2 ls hP2 hD2 hS2 hl)
theorem c_putI (ok : OkC F cc own rm) (o : Nat) {C : String} {TT : u_T} {N j index : Nat} {a : Nat} {fs : List Value} {v : Value} {ty : FieldType} {ty0 : Nat → FieldType} (hin : ∀ w ∈ u_ws C TT N, w ∈ lw_ok) (hty : ∀ k, k < N → parseFieldDescriptor (TT k).2.2.1 = some (ty0 k)) (hnm : ∀ a, a < N → ∀ b, b < N → a ≠ b → (TT a).2.1 ≠ (TT b).2.1) (hc : classes[o]? = some (C, TT, N)) (hj : j < N) (hsame : (TT j).1 = C) (hw : Cond.fieldLink own index C (TT j).2.1 (TT j).2.2.1 ∈ lw_ok) (hfin : (TT j).2.2.2 = false) (hde : parseFieldDescriptor (TT j).2.2.1 = some ty) (hn : narrow ty v = v) (hfit : fits ty v = true) (hlt : j < fs.length) (hd : decode cc pc = .ok (.putfield index, 3)) (kk : AtC F n k (pc + 3) lv st ((a, .inr (o, fs.set j v)) :: ws)) : AtC F n k pc lv (v :: .ref a :: st) ((a, .inr (o, fs)) :: ws) := by
  obtain ⟨l, G, A, p, e, R, s, m, args, below, meth, c, kc, ks, nL, Q⟩ := F
  obtain ⟨hx, hb, hml, hown, hts, hK, hA, hR, hN⟩ := ok
  intro H locs ls hP hD hS hl
  exact va_put (ci := o) (C := C) (T := TT) (N := N) hx hb hts hin ty0 hty hnm hown hK hP hD hS 0 rfl hc j hj (hts _ hw) (fun _ h9 => by rw [hsame] at h9; exact h9) hfin hde hn hfit hlt hd (fun H2 locs2 hP2 hD2 hS2 => kk H2 locs2 ls hP2 hD2 hS2 hl)
theorem c_newI (ok : OkC F cc own rm) {w0 : Nat × va_E} (N : Nat) {x : Int} (hxN : x = (N : Int)) (hN : N ≤ 1000000) (w1 : Cond.arrayClass .int ∈ lw_ok) (hcell : n + 1 ≤ rm.cells) (hslot : k + N ≤ rm.slots) (hd : decode cc pc = .ok (.newarray .int, 2)) (kk : ∀ q : Nat, AtC F (n + 1) (k + N) (pc + 2) lv (.ref q :: st) (w0 :: (ws ++ [(q, .inl (F.2.1.2.2 0, N, .inl (fun _ => 0)))]))) : AtC F n k pc lv (vI x :: st) (w0 :: ws) := by
  obtain ⟨l, G, A, p, e, R, s, m, args, below, meth, c, kc, ks, nL, Q⟩ := F
  obtain ⟨hx, hb, hml, hown, hts, hK, hA, hR, hN⟩ := ok
  intro H locs ls hP hD hS hl
  subst hR
  subst hxN
  have hr : rng (N : Int) := ⟨by omega, by omega⟩
  have hKt := hK.2 0 _ rfl
  refine va_newa (a0 := (N, .inl (fun _ => 0))) (N' := N) (atype := .int) (ty := .int) hx hb (hts _ w1) rfl hK hP hD hS hA (fun cA => by rw [vp_cell_i]; rfl) (by rw [Int32.lt_iff_toInt_lt, ti_iI hr]; show ¬ (N : Int) < 0; omega) (by show (iI (N : Int)).toInt.toNat = N; rw [ti_iI hr]; omega) (by show N * 4 ≤ 536870912; omega) hcell hslot hd (fun q cA H1 hK1 hP1 hD1 hS1 => ?_)
  have hn := (hK1.2 3 _ rfl).2
  have e : cA = G.2.2 0 := Option.some.inj ((show s.vm.findClass _ = some cA from hn).symm.trans (show s.vm.findClass _ = some (G.2.2 0) from hKt.2))
  subst e
  exact kk q H1 locs ls hP1 hD1 hS1 hl
theorem c_newB (ok : OkC F cc own rm) {w0 : Nat × va_E} (N : Nat) {x : Int} (hxN : x = (N : Int)) (hN : N ≤ 1000000) (w1 : Cond.arrayClass .byte ∈ lw_ok) (hcell : n + 1 ≤ rm.cells) (hslot : k + N ≤ rm.slots) (hd : decode cc pc = .ok (.newarray .byte, 2)) (kk : ∀ q : Nat, AtC F (n + 1) (k + N) (pc + 2) lv (.ref q :: st) (w0 :: (ws ++ [(q, .inl (F.2.1.2.2 1, N, .inl (fun _ => 0)))]))) : AtC F n k pc lv (vI x :: st) (w0 :: ws) := by
  obtain ⟨l, G, A, p, e, R, s, m, args, below, meth, c, kc, ks, nL, Q⟩ := F
  obtain ⟨hx, hb, hml, hown, hts, hK, hA, hR, hN⟩ := ok
  intro H locs ls hP hD hS hl
  subst hR
  subst hxN
  have hr : rng (N : Int) := ⟨by omega, by omega⟩
  have hKt := hK.2 1 _ rfl
  refine va_newa (a0 := (N, .inl (fun _ => 0))) (N' := N) (atype := .byte) (ty := .byte) hx hb (hts _ w1) rfl hK hP hD hS hA (fun cA => by rw [vp_cell_i]; rfl) (by rw [Int32.lt_iff_toInt_lt, ti_iI hr]; show ¬ (N : Int) < 0; omega) (by show (iI (N : Int)).toInt.toNat = N; rw [ti_iI hr]; omega) (by show N * 1 ≤ 536870912; omega) hcell hslot hd (fun q cA H1 hK1 hP1 hD1 hS1 => ?_)
  have hn := (hK1.2 3 _ rfl).2
  have e : cA = G.2.2 1 := Option.some.inj ((show s.vm.findClass _ = some cA from hn).symm.trans (show s.vm.findClass _ = some (G.2.2 1) from hKt.2))
  subst e
  exact kk q H1 locs ls hP1 hD1 hS1 hl
theorem c_newZ (ok : OkC F cc own rm) {w0 : Nat × va_E} (N : Nat) {x : Int} (hxN : x = (N : Int)) (hN : N ≤ 1000000) (w1 : Cond.arrayClass .boolean ∈ lw_ok) (hcell : n + 1 ≤ rm.cells) (hslot : k + N ≤ rm.slots) (hd : decode cc pc = .ok (.newarray .boolean, 2)) (kk : ∀ q : Nat, AtC F (n + 1) (k + N) (pc + 2) lv (.ref q :: st) (w0 :: (ws ++ [(q, .inl (F.2.1.2.2 2, N, .inl (fun _ => 0)))]))) : AtC F n k pc lv (vI x :: st) (w0 :: ws) := by
  obtain ⟨l, G, A, p, e, R, s, m, args, below, meth, c, kc, ks, nL, Q⟩ := F
  obtain ⟨hx, hb, hml, hown, hts, hK, hA, hR, hN⟩ := ok
  intro H locs ls hP hD hS hl
  subst hR
  subst hxN
  have hr : rng (N : Int) := ⟨by omega, by omega⟩
  have hKt := hK.2 2 _ rfl
  refine va_newa (a0 := (N, .inl (fun _ => 0))) (N' := N) (atype := .boolean) (ty := .boolean) hx hb (hts _ w1) rfl hK hP hD hS hA (fun cA => by rw [vp_cell_i]; rfl) (by rw [Int32.lt_iff_toInt_lt, ti_iI hr]; show ¬ (N : Int) < 0; omega) (by show (iI (N : Int)).toInt.toNat = N; rw [ti_iI hr]; omega) (by show N * 1 ≤ 536870912; omega) hcell hslot hd (fun q cA H1 hK1 hP1 hD1 hS1 => ?_)
  have hn := (hK1.2 3 _ rfl).2
  have e : cA = G.2.2 2 := Option.some.inj ((show s.vm.findClass _ = some cA from hn).symm.trans (show s.vm.findClass _ = some (G.2.2 2) from hKt.2))
  subst e
  exact kk q H1 locs ls hP1 hD1 hS1 hl
theorem c_new (ok : OkC F cc own rm) {w0 : Nat × va_E} (o : Nat) {C : String} {TT : u_T} {N index : Nat} {ty0 : Nat → FieldType} (fs : List Value) (hin : ∀ w ∈ u_ws C TT N, w ∈ lw_ok) (hty : ∀ k, k < N → parseFieldDescriptor (TT k).2.2.1 = some (ty0 k)) (hc : classes[o]? = some (C, TT, N)) (w1 : Cond.classLink own index C ∈ lw_ok) (w2 : Cond.instantiable C N ∈ lw_ok) (w3 : Cond.initialized C ∈ lw_ok) (hfs : ∀ j, j < N → defaultValue (ty0 j) = vp_V fs j) (hcell : n + 1 ≤ rm.cells) (hslot : k + N ≤ rm.slots) (hd : decode cc pc = .ok (.new index, 3)) (kk : ∀ q : Nat, AtC F (n + 1) (k + N) (pc + 3) lv (.ref q :: st) (w0 :: (ws ++ [(q, .inr (o, fs))]))) : AtC F n k pc lv st (w0 :: ws) := by
  obtain ⟨l, G, A, p, e, R, s, m, args, below, meth, c, kc, ks, nL, Q⟩ := F
  obtain ⟨hx, hb, hml, hown, hts, hK, hA, hR, hN⟩ := ok
  intro H locs ls hP hD hS hl
  subst hR
  exact va_new (ci := o) (fs := fs) (C := C) (T := TT) (N := N) hx hb hts hin ty0 hty hown (hts _ w1) (hts _ w2) (hts _ w3) hK hP hD hS hA hc hfs hcell hslot hd (fun q H1 hP1 hD1 hS1 => kk q H1 locs ls hP1 hD1 hS1 hl)
theorem c_iast (ok : OkC F cc own rm) (pl : Nat) {a N : Nat} {f f2 : Int → Int} {i v : Int} (hd : decode cc pc = .ok (.iastore, 1)) (hNb : N ≤ 1000000) (he : ws[pl]? = some (a, .inl (F.2.1.2.2 0, N, .inl (fun j : Nat => iI (f (j : Int)))))) (hi : 0 ≤ i ∧ i < (N : Int)) (hf : ∀ x : Int, f2 x = if x = i then v else f x) (kk : AtC F n k (pc + 1) lv st (ws.set pl (a, .inl (F.2.1.2.2 0, N, .inl (fun j : Nat => iI (f2 (j : Int))))))) : AtC F n k pc lv (vI v :: vI i :: .ref a :: st) ws := by
  obtain ⟨l, G, A, p, e, R, s, m, args, below, meth, c, kc, ks, nL, Q⟩ := F
  obtain ⟨hx, hb, hml, hown, hts, hK, hA, hR, hN⟩ := ok
  intro H locs ls hP hD hS hl
  refine va_iast hx hb hK hP hD hS pl 0 he rfl (iI_in hi.1 hi.2 hNb) hd (fun H2 locs2 hP2 hD2 hS2 => ?_)
  have e : upd (fun j : Nat => iI (f (j : Int))) (iI i).toNatClampNeg (iI v) = (fun j : Nat => iI (f2 (j : Int))) := by
    funext x
    have hc := iI_cl hi.1 hi.2 hNb
    show (if x = (iI i).toNatClampNeg then iI v else iI (f x)) = iI (f2 x)
    rw [hf]
    by_cases hx : (x : Int) = i
    · rw [if_pos (by omega), if_pos hx]
    · rw [if_neg (by omega), if_neg hx]
  rw [e] at hP2 hD2
  exact kk H2 locs2 ls hP2 hD2 hS2 hl
theorem c_callI (ok : OkC F cc own rm) {y : MethodName} {bytes : ByteArray} {maxL index : Nat} {rmc : Room} {As rest : List Value} {b : Nat} {mc ms : Nat} {U0 : Type} {wN : U0 → va_W} {post : U0 → Prop} (wc wr : va_W) (isC isR : List Nat) (w1 : Cond.methodLink own index y ∈ lw_ok) (w2 : Cond.instanceMethod y ∈ lw_ok) (w4 : Cond.initialized y.cls ∈ lw_ok) (w5 : Cond.code y bytes maxL none ∈ lw_ok) (hy1 : y.name = "<init>") (hR1 : rmc.frames + 1 ≤ rm.frames ∧ 8 + (maxL + 11) + rmc.locals ≤ rm.locals) (hrc : rmc.cells = mc ∧ rmc.slots = ms) (hh : y.cls ≠ "java/lang/invoke/MethodHandle" ∧ y.cls ≠ "java/lang/invoke/VarHandle" ∧ (parseMethodDescriptor y.desc).map (fun d => d.parameters.length) = some As.length) (hcat : (rest.map fun v => v.category).sum ≤ 8) (hst : st = As.reverse ++ .ref b :: rest) (hd : decode cc pc = .ok (.invokespecial index, 3)) (hroom : n + mc ≤ rm.cells ∧ k + ms ≤ rm.slots)
    (hC : isC.map (fun i => ws[i]?) = wc.map some) (hR2 : isR.map (fun i => ws[i]?) = wr.map some) (hnd : va_nd isR = true) (hndC : va_nd isC = true) (hdis : ∀ i ∈ isR, i ∉ isC)
    (hM : ∀ sz : Nat, Met F.1 y (Cond.code y bytes maxL none :: lw_ok) rmc (va_Pc (.ref b :: As) (fun U => U.heap.size = sz ∧ va_P F.2.1.2.1 classes wc U.heap ∧ va_K F.2.1.2.1 classes (tysG F.2.1) U ∧ nwK U ∧ va_D (fun _ => True) wc)) (va_Qv post (fun u t => va_P F.2.1.2.1 classes (wN u) t.heap ∧ va_D (va_A wc sz) (wN u)) (va_A wc sz)) mc ms (va_A wc sz))
    (kk : ∀ u : U0, post u → AtC F (n + mc) (k + ms) (pc + 3) lv rest (wr ++ wN u)) : AtC F n k pc lv st ws := by
  obtain ⟨l, G, A, p, e, R, s, m, args, below, meth, c, kc, ks, nL, Q⟩ := F
  obtain ⟨hx, hb, hml, hown, hts, hK, hA, hR, hN⟩ := ok
  intro H locs ls hP hD hS hl
  subst hR
  have hPc : va_P G.2.1 classes wc H := hP.sub isC (by
    have h := congrArg (List.filterMap id) hC
    rw [List.filterMap_map, List.filterMap_map] at h
    have e2 : List.filterMap (id ∘ some) wc = wc := by rw [show (id ∘ some : (Nat × va_E) → Option (Nat × va_E)) = some from rfl]; exact List.filterMap_some
    exact (show List.filterMap (fun i => ws[i]?) isC = List.filterMap (id ∘ some) wc from h).trans e2)
  have hDc : va_D A wc := hD.sub isC hndC hC
  have hFc := va_free (wc := wc) hD hS hA isC hC
  refine va_callv (va_runI (As := As) (rest := rest) (nL := nL) ⟨hx, hb, hml, hown, hts⟩ (hM H.size) ⟨callB_of As.length hts (gd_in w5) rfl hrc.1 hrc.2 (hts _ w4) (hts _ w1) hh hR1, hy1, hts _ w2⟩ ⟨fun a U g mk q => ⟨q.1, q.2.1, q.2.2.1, va_K.moved (u := U) (U := U.calling g mk a) (Vm.Alike.refl U.vm) q.2.2.2.1, nwK_same rfl q.2.2.2.2.1, q.2.2.2.2.2⟩, fun U hU hW => ⟨rfl, by rw [hU], by rw [hU]; exact hPc, va_K.moved hW.alike hK, nwK_warm hW hN, hDc.weaken (fun _ _ _ _ => trivial)⟩⟩ rfl rfl hl.1 hst (lv_room hcat) hd hroom) hS (fun q _ h => hFc q h) hFc (fun u t H1 locs1 ht hvm hw hB hz1 hk1 hS2 => ?_)
  obtain ⟨hP1, hD1⟩ := hB
  rw [ht] at hP1
  obtain ⟨hP2, hD2⟩ := va_join (wr := wr) (w1 := wN u) hP hD isC isR hC hR2 hnd hdis hk1 hFc hP1 hD1
  exact kk u hw H1 locs1 ls hP2 hD2 hS2 hl
theorem c_callN (ok : OkC F cc own rm) {y : MethodName} {bytes : ByteArray} {maxL index : Nat} {host : String} {rmc : Room} {As rest : List Value} {b : Nat} {mc ms : Nat} {U0 : Type} {wN : U0 → va_W} {post : U0 → Prop} (wc wr : va_W) (isC isR : List Nat) (hnw : ∀ s2 : State, s2 = F.2.2.2.2.2.2.1 → va_Nw (.methodLinkNest own index y host) s2) (w2 : Cond.instanceMethod y ∈ lw_ok) (w4 : Cond.initialized y.cls ∈ lw_ok) (w5 : Cond.code y bytes maxL none ∈ lw_ok) (hy1 : y.name = "<init>") (hR1 : rmc.frames + 1 ≤ rm.frames ∧ 8 + (maxL + 11) + rmc.locals ≤ rm.locals) (hrc : rmc.cells = mc ∧ rmc.slots = ms) (hh : y.cls ≠ "java/lang/invoke/MethodHandle" ∧ y.cls ≠ "java/lang/invoke/VarHandle" ∧ (parseMethodDescriptor y.desc).map (fun d => d.parameters.length) = some As.length) (hcat : (rest.map fun v => v.category).sum ≤ 8) (hst : st = As.reverse ++ .ref b :: rest) (hd : decode cc pc = .ok (.invokespecial index, 3)) (hroom : n + mc ≤ rm.cells ∧ k + ms ≤ rm.slots)
    (hC : isC.map (fun i => ws[i]?) = wc.map some) (hR2 : isR.map (fun i => ws[i]?) = wr.map some) (hnd : va_nd isR = true) (hndC : va_nd isC = true) (hdis : ∀ i ∈ isR, i ∉ isC)
    (hM : ∀ sz : Nat, Met F.1 y (Cond.code y bytes maxL none :: lw_ok) rmc (va_Pc (.ref b :: As) (fun U => U.heap.size = sz ∧ va_P F.2.1.2.1 classes wc U.heap ∧ va_K F.2.1.2.1 classes (tysG F.2.1) U ∧ nwK U ∧ va_D (fun _ => True) wc)) (va_Qv post (fun u t => va_P F.2.1.2.1 classes (wN u) t.heap ∧ va_D (va_A wc sz) (wN u)) (va_A wc sz)) mc ms (va_A wc sz))
    (kk : ∀ u : U0, post u → AtC F (n + mc) (k + ms) (pc + 3) lv rest (wr ++ wN u)) : AtC F n k pc lv st ws := by
  obtain ⟨l, G, A, p, e, R, s, m, args, below, meth, c, kc, ks, nL, Q⟩ := F
  obtain ⟨hx, hb, hml, hown, hts, hK, hA, hR, hN⟩ := ok
  intro H locs ls hP hD hS hl
  subst hR
  have hPc : va_P G.2.1 classes wc H := hP.sub isC (by
    have h := congrArg (List.filterMap id) hC
    rw [List.filterMap_map, List.filterMap_map] at h
    have e2 : List.filterMap (id ∘ some) wc = wc := by rw [show (id ∘ some : (Nat × va_E) → Option (Nat × va_E)) = some from rfl]; exact List.filterMap_some
    exact (show List.filterMap (fun i => ws[i]?) isC = List.filterMap (id ∘ some) wc from h).trans e2)
  have hDc : va_D A wc := hD.sub isC hndC hC
  have hFc := va_free (wc := wc) hD hS hA isC hC
  refine va_callv (va_runIN (As := As) (rest := rest) (nL := nL) ⟨hx, hb, hml, hown, hts⟩ (hM H.size) ⟨va_cnB (host := host) As.length hts (gd_in w5) rfl hrc.1 hrc.2 (hnw _ rfl) (hts _ w4) hh hR1, hy1, hts _ w2⟩ ⟨fun a U g mk q => ⟨q.1, q.2.1, q.2.2.1, va_K.moved (u := U) (U := U.calling g mk a) (Vm.Alike.refl U.vm) q.2.2.2.1, nwK_same rfl q.2.2.2.2.1, q.2.2.2.2.2⟩, fun U hU hW => ⟨rfl, by rw [hU], by rw [hU]; exact hPc, va_K.moved hW.alike hK, nwK_warm hW hN, hDc.weaken (fun _ _ _ _ => trivial)⟩⟩ rfl rfl hl.1 hst (lv_room hcat) hd hroom) hS (fun q _ h => hFc q h) hFc (fun u t H1 locs1 ht hvm hw hB hz1 hk1 hS2 => ?_)
  obtain ⟨hP1, hD1⟩ := hB
  rw [ht] at hP1
  obtain ⟨hP2, hD2⟩ := va_join (wr := wr) (w1 := wN u) hP hD isC isR hC hR2 hnd hdis hk1 hFc hP1 hD1
  exact kk u hw H1 locs1 ls hP2 hD2 hS2 hl
end CROWS
def RetC {U0 : Type} (F : FT) (mc ms : Nat) (post : U0 → Prop) (wN : U0 → va_W) : Prop := ∀ (pc : Nat) (lv : List (Nat × Value)) (ws : va_W) (u : U0) (cc : ByteArray), F.2.2.2.2.2.2.2.2.2.2.2.1.code = cc → decode cc pc = .ok (.return_, 1) → post u → ws = wN u → AtC F mc ms pc lv [] ws
theorem okC_code {F : FT} {cc : ByteArray} {own : String} {rm : Room} (ok : OkC F cc own rm) : F.2.2.2.2.2.2.2.2.2.2.2.1.code = cc := by
  obtain ⟨l, G, A, p, e, R, s, m, args, below, meth, c, kc, ks, nL, Q⟩ := F
  exact ok.2.1
theorem met_c {l : Launch} {G : GE} {y : MethodName} {bytes : ByteArray} {maxL : Nat} {rm : Room} {vs : List Value} {lv : List (Nat × Value)} {U0 : Type} {post : U0 → Prop} {wN : U0 → va_W} {mc ms : Nat} (wc : va_W) (hy : plainName y.cls = true) (hle : (lg_sl vs).length ≤ maxL) (hlv : lv_args 0 vs = lv) (hyn : y.name = "<init>")
    (body : ∀ F : FT, F.1 = l → F.2.1 = G → F.2.2.2.2.2.2.2.2.2.2.2.2.2.2.1 = maxL → F.2.2.2.2.2.2.2.2.2.2.1.name = "<init>" → OkC F bytes y.cls rm → RetC F mc ms post wN → AtC F 0 0 0 lv [] wc) (sz : Nat) : Met l y (Cond.code y bytes maxL none :: lw_ok) rm (va_Pc vs (fun U => U.heap.size = sz ∧ va_P G.2.1 classes wc U.heap ∧ va_K G.2.1 classes (tysG G) U ∧ nwK U ∧ va_D (fun _ => True) wc)) (va_Qv post (fun u t => va_P G.2.1 classes (wN u) t.heap ∧ va_D (va_A wc sz) (wN u)) (va_A wc sz)) mc ms (va_A wc sz) := by
  refine Met.ofW (cc := bytes) (maxL := maxL) (ret := none) hy rfl ?_
  intro p e s m args below meth c s₁ B hml hv
  obtain ⟨rfl, hsz, hP0, hK, hN, hD0⟩ := hv
  have hx := B.exec
  have hb := B.bytes
  have hr := B.returns
  have hts := atoms_spec (ws := Cond.code y bytes maxL none :: lw_ok) B.pre
  have hown : s.vm.findClass y.cls = some m.cls := findClass_of_methodNamed B.named
  have hin : meth.name = "<init>" := by rw [← hyn]; exact (name_of_methodNamed B.named B.method).1
  have hlocks := B.notSynchronized
  subst hsz
  have hD : va_D (va_A wc s.heap.size) wc := hD0.self (sz := s.heap.size)
  have hl0 := lv_entry vs (n := maxL) hle
  rw [hlv] at hl0
  rw [lg_entry_eq]
  refine body (l, G, va_A wc s.heap.size, p, e, rm, s, m, vs.toArray, below, meth, c, 0, 0, maxL, MQ below (va_Qv post (fun u t => va_P G.2.1 classes (wN u) t.heap ∧ va_D (va_A wc s.heap.size) (wN u)) (va_A wc s.heap.size)) vs.toArray s mc ms (va_A wc s.heap.size)) rfl rfl rfl hin ⟨hx, hb, hml, hown, fun w hw => hts w (List.mem_cons_of_mem _ hw), hK, fun q h => Or.inr h, rfl, hN⟩ ?_ _ _ _ hP0 hD va_S.rf hl0
  intro pc2 lv2 ws2 u cc2 hcc hd2 hpost hws H locs ls hP hD2 hS hl
  have hcc : c.code = cc2 := hcc
  rw [← hcc, hb] at hd2
  subst hws
  exact W.vret hx hb hr (fun t ht hW => ⟨⟨u, rfl, hpost, by rw [ht]; exact hP, hD2⟩, hS.F ht⟩) hS.2.2 hd2
end
