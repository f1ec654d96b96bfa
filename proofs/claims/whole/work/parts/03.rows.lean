section
abbrev GE : Type := (Nat → Nat) × va_G × (Nat → ClassId)
abbrev FT : Type := Launch × GE × (Nat → Prop) × Program × Env × Room × State × MethodId × Array Value × List Frame × Method × Code × Nat × Nat × Nat × (State → Prop)
def AtS (F : FT) (pc : Nat) (lv : List (Nat × Value)) (st : List Value) (σ : SS) : Prop :=
  match F with
  | (l, G, A, p, e, R, s, m, args, below, meth, c, kc, ks, nL, Q) => ∀ (H : Heap) (locs : List Loc) (ls : Array Slot), va_P G.2.1 classes (GW G σ) H → va_S A s.heap H locs → lv_has ls nL lv → W p l e R s m args below meth c H locs kc ks Q (F0 m pc ls st)
def OkF (F : FT) (cc : ByteArray) (own : String) (rm : Room) : Prop :=
  match F with
  | (l, G, A, p, e, R, s, m, args, below, meth, c, kc, ks, nL, Q) => p.tables.exec = Jvm.exec ∧ c.code = cc ∧ c.maxLocals = nL ∧ s.vm.findClass own = some m.cls ∧ (∀ w ∈ lw_ok, w.before args s = true) ∧ va_K G.2.1 classes (tysG G) s ∧ (∀ σ, va_D A (GW G σ)) ∧ R = rm ∧ kc ≤ R.cells ∧ ks ≤ R.slots
/-- the world of a contract -/
def gB (G : GE) (σ : SS) (t : State) : Prop := va_P G.2.1 classes (GW G σ) t.heap ∧ va_K G.2.1 classes (tysG G) t
section ROWS
variable {F : FT} {cc : ByteArray} {own : String} {rm : Room} {pc : Nat} {lv lv' : List (Nat × Value)} {st : List Value} {σ : SS}
theorem r_sub (ks : List Nat) (hl : lv_pick lv ks = lv') (k : AtS F pc lv' st σ) : AtS F pc lv st σ := by
  obtain ⟨l, G, A, p, e, R, s, m, args, below, meth, c, kc, ks, nL, Q⟩ := F
  intro H locs ls hP hS h
  exact k H locs ls hP hS (lv_sub h _ hl)
theorem r_iconst (ok : OkF F cc own rm) {n : Int} (v : Int) (hd : decode cc pc = .ok (.iconst n, 1)) (hv : Int32.ofInt n = iI v) (k : AtS F (pc + 1) lv (vI v :: st) σ) : AtS F pc lv st σ := by
  obtain ⟨l, G, A, p, e, R, s, m, args, below, meth, c, kc, ks, nL, Q⟩ := F
  obtain ⟨hx, hb, hml, hown, hts, hK, hD, hR, hkc, hks⟩ := ok
  intro H locs ls hP hS hl
  exact lv_iconst hx hb hd hv (k H locs ls hP hS hl)
theorem r_bipush (ok : OkF F cc own rm) {n : Int} (v : Int) (hd : decode cc pc = .ok (.bipush n, 2)) (hv : (Int8.ofInt n).toInt32 = iI v) (k : AtS F (pc + 2) lv (vI v :: st) σ) : AtS F pc lv st σ := by
  obtain ⟨l, G, A, p, e, R, s, m, args, below, meth, c, kc, ks, nL, Q⟩ := F
  obtain ⟨hx, hb, hml, hown, hts, hK, hD, hR, hkc, hks⟩ := ok
  intro H locs ls hP hS hl
  exact lv_bipush hx hb hd hv (k H locs ls hP hS hl)
theorem r_sipush (ok : OkF F cc own rm) {n : Int} (v : Int) (hd : decode cc pc = .ok (.sipush n, 3)) (hv : (Int16.ofInt n).toInt32 = iI v) (k : AtS F (pc + 3) lv (vI v :: st) σ) : AtS F pc lv st σ := by
  obtain ⟨l, G, A, p, e, R, s, m, args, below, meth, c, kc, ks, nL, Q⟩ := F
  obtain ⟨hx, hb, hml, hown, hts, hK, hD, hR, hkc, hks⟩ := ok
  intro H locs ls hP hS hl
  exact lv_sipush hx hb hd hv (k H locs ls hP hS hl)
theorem r_ldc (ok : OkF F cc own rm) {i : Nat} {w : Int32} (v : Int) (hw : Cond.constant own i w ∈ lw_ok) (hd : decode cc pc = .ok (.ldc i, 2)) (hv : w = iI v) (k : AtS F (pc + 2) lv (vI v :: st) σ) : AtS F pc lv st σ := by
  obtain ⟨l, G, A, p, e, R, s, m, args, below, meth, c, kc, ks, nL, Q⟩ := F
  obtain ⟨hx, hb, hml, hown, hts, hK, hD, hR, hkc, hks⟩ := ok
  intro H locs ls hP hS hl
  exact lv_ldc hx hb hown (hts _ hw) hd (hv ▸ k H locs ls hP hS hl)
theorem r_ldcw (ok : OkF F cc own rm) {i : Nat} {w : Int32} (v : Int) (hw : Cond.constant own i w ∈ lw_ok) (hd : decode cc pc = .ok (.ldc_w i, 3)) (hv : w = iI v) (k : AtS F (pc + 3) lv (vI v :: st) σ) : AtS F pc lv st σ := by
  obtain ⟨l, G, A, p, e, R, s, m, args, below, meth, c, kc, ks, nL, Q⟩ := F
  obtain ⟨hx, hb, hml, hown, hts, hK, hD, hR, hkc, hks⟩ := ok
  intro H locs ls hP hS hl
  exact lv_ldcw hx hb hown (hts _ hw) hd (hv ▸ k H locs ls hP hS hl)
theorem r_ldc2 (ok : OkF F cc own rm) {i : Nat} {w : Int64} (v : Int) (hw : Cond.constantLong own i w ∈ lw_ok) (hd : decode cc pc = .ok (.ldc2_w i, 3)) (hv : w = jJ v) (k : AtS F (pc + 3) lv (vJ v :: st) σ) : AtS F pc lv st σ := by
  obtain ⟨l, G, A, p, e, R, s, m, args, below, meth, c, kc, ks, nL, Q⟩ := F
  obtain ⟨hx, hb, hml, hown, hts, hK, hD, hR, hkc, hks⟩ := ok
  intro H locs ls hP hS hl
  exact lv_ldc2 hx hb hown (hts _ hw) hd (hv ▸ k H locs ls hP hS hl)
theorem r_lconst (ok : OkF F cc own rm) {n : Fin 2} (v : Int) (hd : decode cc pc = .ok (.lconst n, 1)) (hv : Int64.ofNat (n : Nat) = jJ v) (k : AtS F (pc + 1) lv (vJ v :: st) σ) : AtS F pc lv st σ := by
  obtain ⟨l, G, A, p, e, R, s, m, args, below, meth, c, kc, ks, nL, Q⟩ := F
  obtain ⟨hx, hb, hml, hown, hts, hK, hD, hR, hkc, hks⟩ := ok
  intro H locs ls hP hS hl
  exact lv_lconst hx hb hd hv (k H locs ls hP hS hl)
theorem r_iload (ok : OkF F cc own rm) (n : Nat) {i : Nat} {x : Int32} (hd : decode cc pc = .ok (.iload i, 2)) (hv : lv[n]? = some (i, .int x)) (k : AtS F (pc + 2) lv (.int x :: st) σ) : AtS F pc lv st σ := by
  obtain ⟨l, G, A, p, e, R, s, m, args, below, meth, c, kc, ks, nL, Q⟩ := F
  obtain ⟨hx, hb, hml, hown, hts, hK, hD, hR, hkc, hks⟩ := ok
  intro H locs ls hP hS hl
  exact lv_iload hx hb hd (lv_at hl n hv) (k H locs ls hP hS hl)
theorem r_iload_n (ok : OkF F cc own rm) (n : Nat) {i : Nat} {j : Fin 4} {x : Int32} (hd : decode cc pc = .ok (.iload_n j, 1)) (hj : (j : Nat) = i) (hv : lv[n]? = some (i, .int x)) (k : AtS F (pc + 1) lv (.int x :: st) σ) : AtS F pc lv st σ := by
  obtain ⟨l, G, A, p, e, R, s, m, args, below, meth, c, kc, ks, nL, Q⟩ := F
  obtain ⟨hx, hb, hml, hown, hts, hK, hD, hR, hkc, hks⟩ := ok
  intro H locs ls hP hS hl
  exact lv_iload_n hx hb hd hj (lv_at hl n hv) (k H locs ls hP hS hl)
theorem r_lload (ok : OkF F cc own rm) (n : Nat) {i : Nat} {x : Int64} (hd : decode cc pc = .ok (.lload i, 2)) (hv : lv[n]? = some (i, .long x)) (k : AtS F (pc + 2) lv (.long x :: st) σ) : AtS F pc lv st σ := by
  obtain ⟨l, G, A, p, e, R, s, m, args, below, meth, c, kc, ks, nL, Q⟩ := F
  obtain ⟨hx, hb, hml, hown, hts, hK, hD, hR, hkc, hks⟩ := ok
  intro H locs ls hP hS hl
  exact lv_lload hx hb hd (lv_at hl n hv) (k H locs ls hP hS hl)
theorem r_lload_n (ok : OkF F cc own rm) (n : Nat) {i : Nat} {j : Fin 4} {x : Int64} (hd : decode cc pc = .ok (.lload_n j, 1)) (hj : (j : Nat) = i) (hv : lv[n]? = some (i, .long x)) (k : AtS F (pc + 1) lv (.long x :: st) σ) : AtS F pc lv st σ := by
  obtain ⟨l, G, A, p, e, R, s, m, args, below, meth, c, kc, ks, nL, Q⟩ := F
  obtain ⟨hx, hb, hml, hown, hts, hK, hD, hR, hkc, hks⟩ := ok
  intro H locs ls hP hS hl
  exact lv_lload_n hx hb hd hj (lv_at hl n hv) (k H locs ls hP hS hl)
theorem r_aload (ok : OkF F cc own rm) (n : Nat) {i : Nat} {x : Nat} (hd : decode cc pc = .ok (.aload i, 2)) (hv : lv[n]? = some (i, .ref x)) (k : AtS F (pc + 2) lv (.ref x :: st) σ) : AtS F pc lv st σ := by
  obtain ⟨l, G, A, p, e, R, s, m, args, below, meth, c, kc, ks, nL, Q⟩ := F
  obtain ⟨hx, hb, hml, hown, hts, hK, hD, hR, hkc, hks⟩ := ok
  intro H locs ls hP hS hl
  exact lv_aload hx hb hd (lv_at hl n hv) (k H locs ls hP hS hl)
theorem r_aload_n (ok : OkF F cc own rm) (n : Nat) {i : Nat} {j : Fin 4} {x : Nat} (hd : decode cc pc = .ok (.aload_n j, 1)) (hj : (j : Nat) = i) (hv : lv[n]? = some (i, .ref x)) (k : AtS F (pc + 1) lv (.ref x :: st) σ) : AtS F pc lv st σ := by
  obtain ⟨l, G, A, p, e, R, s, m, args, below, meth, c, kc, ks, nL, Q⟩ := F
  obtain ⟨hx, hb, hml, hown, hts, hK, hD, hR, hkc, hks⟩ := ok
  intro H locs ls hP hS hl
  exact lv_aload_n hx hb hd hj (lv_at hl n hv) (k H locs ls hP hS hl)
theorem r_istore (ok : OkF F cc own rm) {i nL' : Nat} {x : Int32} (lv' : List (Nat × Value)) (hd : decode cc pc = .ok (.istore i, 2)) (hm : F.2.2.2.2.2.2.2.2.2.2.2.2.2.2.1 = nL') (hn : i < nL') (hl2 : (i, Value.int x) :: lv.filter (fun q => !(q.1 == i) && !(q.1 + 1 == i && q.2.category == 2)) = lv') (k : AtS F (pc + 2) lv' st σ) : AtS F pc lv (.int x :: st) σ := by
  obtain ⟨l, G, A, p, e, R, s, m, args, below, meth, c, kc, ks, nL, Q⟩ := F
  obtain ⟨hx, hb, hml, hown, hts, hK, hD, hR, hkc, hks⟩ := ok
  intro H locs ls hP hS hl
  have hn : i < nL := by rw [show nL = nL' from hm]; exact hn
  exact lv_istore hx hb hd hl hn hl2 (fun ls2 hl3 => k H locs ls2 hP hS hl3)
theorem r_istore_n (ok : OkF F cc own rm) {i nL' : Nat} {j : Fin 4} {x : Int32} (lv' : List (Nat × Value)) (hd : decode cc pc = .ok (.istore_n j, 1)) (hj : (j : Nat) = i) (hm : F.2.2.2.2.2.2.2.2.2.2.2.2.2.2.1 = nL') (hn : i < nL') (hl2 : (i, Value.int x) :: lv.filter (fun q => !(q.1 == i) && !(q.1 + 1 == i && q.2.category == 2)) = lv') (k : AtS F (pc + 1) lv' st σ) : AtS F pc lv (.int x :: st) σ := by
  obtain ⟨l, G, A, p, e, R, s, m, args, below, meth, c, kc, ks, nL, Q⟩ := F
  obtain ⟨hx, hb, hml, hown, hts, hK, hD, hR, hkc, hks⟩ := ok
  intro H locs ls hP hS hl
  have hn : i < nL := by rw [show nL = nL' from hm]; exact hn
  exact lv_istore_n hx hb hd hj hl hn hl2 (fun ls2 hl3 => k H locs ls2 hP hS hl3)
theorem r_astore (ok : OkF F cc own rm) {i nL' : Nat} {x : Nat} (lv' : List (Nat × Value)) (hd : decode cc pc = .ok (.astore i, 2)) (hm : F.2.2.2.2.2.2.2.2.2.2.2.2.2.2.1 = nL') (hn : i < nL') (hl2 : (i, Value.ref x) :: lv.filter (fun q => !(q.1 == i) && !(q.1 + 1 == i && q.2.category == 2)) = lv') (k : AtS F (pc + 2) lv' st σ) : AtS F pc lv (.ref x :: st) σ := by
  obtain ⟨l, G, A, p, e, R, s, m, args, below, meth, c, kc, ks, nL, Q⟩ := F
  obtain ⟨hx, hb, hml, hown, hts, hK, hD, hR, hkc, hks⟩ := ok
  intro H locs ls hP hS hl
  have hn : i < nL := by rw [show nL = nL' from hm]; exact hn
  exact lv_astore hx hb hd hl hn hl2 (fun ls2 hl3 => k H locs ls2 hP hS hl3)
theorem r_astore_n (ok : OkF F cc own rm) {i nL' : Nat} {j : Fin 4} {x : Nat} (lv' : List (Nat × Value)) (hd : decode cc pc = .ok (.astore_n j, 1)) (hj : (j : Nat) = i) (hm : F.2.2.2.2.2.2.2.2.2.2.2.2.2.2.1 = nL') (hn : i < nL') (hl2 : (i, Value.ref x) :: lv.filter (fun q => !(q.1 == i) && !(q.1 + 1 == i && q.2.category == 2)) = lv') (k : AtS F (pc + 1) lv' st σ) : AtS F pc lv (.ref x :: st) σ := by
  obtain ⟨l, G, A, p, e, R, s, m, args, below, meth, c, kc, ks, nL, Q⟩ := F
  obtain ⟨hx, hb, hml, hown, hts, hK, hD, hR, hkc, hks⟩ := ok
  intro H locs ls hP hS hl
  have hn : i < nL := by rw [show nL = nL' from hm]; exact hn
  exact lv_astore_n hx hb hd hj hl hn hl2 (fun ls2 hl3 => k H locs ls2 hP hS hl3)
theorem r_iinc (ok : OkF F cc own rm) (q : Nat) {i nL' : Nat} {n : Int} {x : Int} (v : Int) (lv' : List (Nat × Value)) (hd : decode cc pc = .ok (.iinc i n, 3)) (hk : lv[q]? = some (i, vI x)) (hv : x + n = v) (hm : F.2.2.2.2.2.2.2.2.2.2.2.2.2.2.1 = nL') (hn : i < nL') (hl2 : (i, vI v) :: lv.filter (fun q => !(q.1 == i) && !(q.1 + 1 == i && q.2.category == 2)) = lv') (k : AtS F (pc + 3) lv' st σ) : AtS F pc lv st σ := by
  obtain ⟨l, G, A, p, e, R, s, m, args, below, meth, c, kc, ks, nL, Q⟩ := F
  obtain ⟨hx, hb, hml, hown, hts, hK, hD, hR, hkc, hks⟩ := ok
  intro H locs ls hP hS hl
  have hn : i < nL := by rw [show nL = nL' from hm]; exact hn
  exact lv_iinc hx hb hd hl hk (by rw [← hv]; exact iI_add x n) hn hl2 (fun ls2 hl3 => k H locs ls2 hP hS hl3)
theorem r_iadd (ok : OkF F cc own rm) {x y : Int} (hd : decode cc pc = .ok (.iadd, 1)) (k : AtS F (pc + 1) lv (vI (x + y) :: st) σ) : AtS F pc lv (vI y :: vI x :: st) σ := by
  obtain ⟨l, G, A, p, e, R, s, m, args, below, meth, c, kc, ks, nL, Q⟩ := F
  obtain ⟨hx, hb, hml, hown, hts, hK, hD, hR, hkc, hks⟩ := ok
  intro H locs ls hP hS hl
  refine lv_iadd hx hb hd ?_
  rw [iI_add]
  exact k H locs ls hP hS hl
theorem r_isub (ok : OkF F cc own rm) {x y : Int} (hd : decode cc pc = .ok (.isub, 1)) (k : AtS F (pc + 1) lv (vI (x - y) :: st) σ) : AtS F pc lv (vI y :: vI x :: st) σ := by
  obtain ⟨l, G, A, p, e, R, s, m, args, below, meth, c, kc, ks, nL, Q⟩ := F
  obtain ⟨hx, hb, hml, hown, hts, hK, hD, hR, hkc, hks⟩ := ok
  intro H locs ls hP hS hl
  refine lv_isub hx hb hd ?_
  rw [iI_sub]
  exact k H locs ls hP hS hl
theorem r_imul (ok : OkF F cc own rm) {x y : Int} (hd : decode cc pc = .ok (.imul, 1)) (k : AtS F (pc + 1) lv (vI (x * y) :: st) σ) : AtS F pc lv (vI y :: vI x :: st) σ := by
  obtain ⟨l, G, A, p, e, R, s, m, args, below, meth, c, kc, ks, nL, Q⟩ := F
  obtain ⟨hx, hb, hml, hown, hts, hK, hD, hR, hkc, hks⟩ := ok
  intro H locs ls hP hS hl
  refine lv_imul hx hb hd ?_
  rw [iI_mul]
  exact k H locs ls hP hS hl
theorem r_iand (ok : OkF F cc own rm) {x y : Int} (hd : decode cc pc = .ok (.iand, 1)) (k : AtS F (pc + 1) lv (vI (bnd x y) :: st) σ) : AtS F pc lv (vI y :: vI x :: st) σ := by
  obtain ⟨l, G, A, p, e, R, s, m, args, below, meth, c, kc, ks, nL, Q⟩ := F
  obtain ⟨hx, hb, hml, hown, hts, hK, hD, hR, hkc, hks⟩ := ok
  intro H locs ls hP hS hl
  refine lv_iand hx hb hd ?_
  rw [show (iI x &&& iI y) = iI (bnd x y) from (iI_ti _).symm]
  exact k H locs ls hP hS hl
theorem r_ior (ok : OkF F cc own rm) {x y : Int} (hd : decode cc pc = .ok (.ior, 1)) (k : AtS F (pc + 1) lv (vI (bor x y) :: st) σ) : AtS F pc lv (vI y :: vI x :: st) σ := by
  obtain ⟨l, G, A, p, e, R, s, m, args, below, meth, c, kc, ks, nL, Q⟩ := F
  obtain ⟨hx, hb, hml, hown, hts, hK, hD, hR, hkc, hks⟩ := ok
  intro H locs ls hP hS hl
  refine lv_ior hx hb hd ?_
  rw [show (iI x ||| iI y) = iI (bor x y) from (iI_ti _).symm]
  exact k H locs ls hP hS hl
theorem r_ixor (ok : OkF F cc own rm) {x y : Int} (hd : decode cc pc = .ok (.ixor, 1)) (k : AtS F (pc + 1) lv (vI (bxr x y) :: st) σ) : AtS F pc lv (vI y :: vI x :: st) σ := by
  obtain ⟨l, G, A, p, e, R, s, m, args, below, meth, c, kc, ks, nL, Q⟩ := F
  obtain ⟨hx, hb, hml, hown, hts, hK, hD, hR, hkc, hks⟩ := ok
  intro H locs ls hP hS hl
  refine lv_ixor hx hb hd ?_
  rw [show (iI x ^^^ iI y) = iI (bxr x y) from (iI_ti _).symm]
  exact k H locs ls hP hS hl
theorem r_ishl (ok : OkF F cc own rm) {x y : Int} (hd : decode cc pc = .ok (.ishl, 1)) (k : AtS F (pc + 1) lv (vI (shl x y) :: st) σ) : AtS F pc lv (vI y :: vI x :: st) σ := by
  obtain ⟨l, G, A, p, e, R, s, m, args, below, meth, c, kc, ks, nL, Q⟩ := F
  obtain ⟨hx, hb, hml, hown, hts, hK, hD, hR, hkc, hks⟩ := ok
  intro H locs ls hP hS hl
  refine lv_ishl hx hb hd ?_
  rw [show (iI x <<< (iI y &&& 31)) = iI (shl x y) from (iI_ti _).symm]
  exact k H locs ls hP hS hl
theorem r_ishr (ok : OkF F cc own rm) {x y : Int} (hd : decode cc pc = .ok (.ishr, 1)) (k : AtS F (pc + 1) lv (vI (shr x y) :: st) σ) : AtS F pc lv (vI y :: vI x :: st) σ := by
  obtain ⟨l, G, A, p, e, R, s, m, args, below, meth, c, kc, ks, nL, Q⟩ := F
  obtain ⟨hx, hb, hml, hown, hts, hK, hD, hR, hkc, hks⟩ := ok
  intro H locs ls hP hS hl
  refine lv_ishr hx hb hd ?_
  rw [show (iI x >>> (iI y &&& 31)) = iI (shr x y) from (iI_ti _).symm]
  exact k H locs ls hP hS hl
theorem r_iushr (ok : OkF F cc own rm) {x y : Int} (hd : decode cc pc = .ok (.iushr, 1)) (k : AtS F (pc + 1) lv (vI (ush x y) :: st) σ) : AtS F pc lv (vI y :: vI x :: st) σ := by
  obtain ⟨l, G, A, p, e, R, s, m, args, below, meth, c, kc, ks, nL, Q⟩ := F
  obtain ⟨hx, hb, hml, hown, hts, hK, hD, hR, hkc, hks⟩ := ok
  intro H locs ls hP hS hl
  exact lv_iushr hx hb hd (iI_ti _).symm (k H locs ls hP hS hl)
theorem r_ineg (ok : OkF F cc own rm) {x : Int} (hd : decode cc pc = .ok (.ineg, 1)) (k : AtS F (pc + 1) lv (vI (-x) :: st) σ) : AtS F pc lv (vI x :: st) σ := by
  obtain ⟨l, G, A, p, e, R, s, m, args, below, meth, c, kc, ks, nL, Q⟩ := F
  obtain ⟨hx, hb, hml, hown, hts, hK, hD, hR, hkc, hks⟩ := ok
  intro H locs ls hP hS hl
  refine lv_ineg hx hb hd ?_
  rw [iI_neg]
  exact k H locs ls hP hS hl
theorem r_idiv (ok : OkF F cc own rm) {x : Int} (d : Int) (hd : decode cc pc = .ok (.idiv, 1)) (h0 : 0 ≤ x ∧ x ≤ 2147483647) (h1 : 0 < d ∧ d ≤ 1000000) (hne : ¬ iI d = 0) (k : AtS F (pc + 1) lv (vI (x / d) :: st) σ) : AtS F pc lv (vI d :: vI x :: st) σ := by
  obtain ⟨l, G, A, p, e, R, s, m, args, below, meth, c, kc, ks, nL, Q⟩ := F
  obtain ⟨hx, hb, hml, hown, hts, hK, hD, hR, hkc, hks⟩ := ok
  intro H locs ls hP hS hl
  refine lv_idiv hx hb hd hne ?_
  rw [iI_ediv d h0.1 h0.2 h1.1 h1.2]
  exact k H locs ls hP hS hl
theorem r_irem (ok : OkF F cc own rm) {x : Int} (d : Int) (hd : decode cc pc = .ok (.irem, 1)) (h0 : 0 ≤ x ∧ x ≤ 2147483647) (h1 : 0 < d ∧ d ≤ 1000000) (hne : ¬ iI d = 0) (k : AtS F (pc + 1) lv (vI (x % d) :: st) σ) : AtS F pc lv (vI d :: vI x :: st) σ := by
  obtain ⟨l, G, A, p, e, R, s, m, args, below, meth, c, kc, ks, nL, Q⟩ := F
  obtain ⟨hx, hb, hml, hown, hts, hK, hD, hR, hkc, hks⟩ := ok
  intro H locs ls hP hS hl
  refine lv_irem hx hb hd hne ?_
  rw [iI_emod d h0.1 h0.2 h1.1 h1.2]
  exact k H locs ls hP hS hl
theorem r_i2l (ok : OkF F cc own rm) {x : Int} (hd : decode cc pc = .ok (.i2l, 1)) (h : rng x) (k : AtS F (pc + 1) lv (vJ x :: st) σ) : AtS F pc lv (vI x :: st) σ := by
  obtain ⟨l, G, A, p, e, R, s, m, args, below, meth, c, kc, ks, nL, Q⟩ := F
  obtain ⟨hx, hb, hml, hown, hts, hK, hD, hR, hkc, hks⟩ := ok
  intro H locs ls hP hS hl
  refine lv_i2l (v := jJ x) hx hb hd (by rw [← jJ_ti (iI x).toInt64, Int32.toInt_toInt64, ti_iI h]) (k H locs ls hP hS hl)
theorem r_l2i (ok : OkF F cc own rm) {x : Int} (hd : decode cc pc = .ok (.l2i, 1)) (k : AtS F (pc + 1) lv (vI (l2i x) :: st) σ) : AtS F pc lv (vJ x :: st) σ := by
  obtain ⟨l, G, A, p, e, R, s, m, args, below, meth, c, kc, ks, nL, Q⟩ := F
  obtain ⟨hx, hb, hml, hown, hts, hK, hD, hR, hkc, hks⟩ := ok
  intro H locs ls hP hS hl
  exact lv_l2i hx hb hd (iI_ti _).symm (k H locs ls hP hS hl)
theorem r_i2b (ok : OkF F cc own rm) {x : Int} (hd : decode cc pc = .ok (.i2b, 1)) (k : AtS F (pc + 1) lv (vI (i2b x) :: st) σ) : AtS F pc lv (vI x :: st) σ := by
  obtain ⟨l, G, A, p, e, R, s, m, args, below, meth, c, kc, ks, nL, Q⟩ := F
  obtain ⟨hx, hb, hml, hown, hts, hK, hD, hR, hkc, hks⟩ := ok
  intro H locs ls hP hS hl
  exact lv_i2b hx hb hd (iI_ti _).symm (k H locs ls hP hS hl)
theorem r_land (ok : OkF F cc own rm) {x y : Int} (hd : decode cc pc = .ok (.land, 1)) (k : AtS F (pc + 1) lv (vJ (lnd x y) :: st) σ) : AtS F pc lv (vJ y :: vJ x :: st) σ := by
  obtain ⟨l, G, A, p, e, R, s, m, args, below, meth, c, kc, ks, nL, Q⟩ := F
  obtain ⟨hx, hb, hml, hown, hts, hK, hD, hR, hkc, hks⟩ := ok
  intro H locs ls hP hS hl
  refine lv_land hx hb hd ?_
  rw [show (jJ x &&& jJ y) = jJ (lnd x y) from (jJ_ti _).symm]
  exact k H locs ls hP hS hl
theorem r_lor (ok : OkF F cc own rm) {x y : Int} (hd : decode cc pc = .ok (.lor, 1)) (k : AtS F (pc + 1) lv (vJ (lor_ x y) :: st) σ) : AtS F pc lv (vJ y :: vJ x :: st) σ := by
  obtain ⟨l, G, A, p, e, R, s, m, args, below, meth, c, kc, ks, nL, Q⟩ := F
  obtain ⟨hx, hb, hml, hown, hts, hK, hD, hR, hkc, hks⟩ := ok
  intro H locs ls hP hS hl
  refine lv_lor hx hb hd ?_
  rw [show (jJ x ||| jJ y) = jJ (lor_ x y) from (jJ_ti _).symm]
  exact k H locs ls hP hS hl
theorem r_lshr (ok : OkF F cc own rm) {x y : Int} (hd : decode cc pc = .ok (.lshr, 1)) (k : AtS F (pc + 1) lv (vJ (lsr x y) :: st) σ) : AtS F pc lv (vI y :: vJ x :: st) σ := by
  obtain ⟨l, G, A, p, e, R, s, m, args, below, meth, c, kc, ks, nL, Q⟩ := F
  obtain ⟨hx, hb, hml, hown, hts, hK, hD, hR, hkc, hks⟩ := ok
  intro H locs ls hP hS hl
  exact lv_lshr hx hb hd (jJ_ti _).symm (k H locs ls hP hS hl)
theorem r_lshl (ok : OkF F cc own rm) {x y : Int} (hd : decode cc pc = .ok (.lshl, 1)) (k : AtS F (pc + 1) lv (vJ (lsl x y) :: st) σ) : AtS F pc lv (vI y :: vJ x :: st) σ := by
  obtain ⟨l, G, A, p, e, R, s, m, args, below, meth, c, kc, ks, nL, Q⟩ := F
  obtain ⟨hx, hb, hml, hown, hts, hK, hD, hR, hkc, hks⟩ := ok
  intro H locs ls hP hS hl
  exact lv_lshl hx hb hd (jJ_ti _).symm (k H locs ls hP hS hl)
theorem r_lcmp_lt (ok : OkF F cc own rm) {x y : Int} {off : Int} (tgt : Nat) (hd : decode cc pc = .ok (.lcmp, 1)) (hd2 : decode cc (pc + 1) = .ok (.ifCond .lt off, 3)) (ht : ((pc + 1 : Nat) : Int) + off = (tgt : Int)) (hx1 : rnL x) (hy1 : rnL y) (kt : x < y → AtS F tgt lv st σ) (kf : y ≤ x → AtS F (pc + 1 + 3) lv st σ) : AtS F pc lv (vJ y :: vJ x :: st) σ := by
  obtain ⟨l, G, A, p, e, R, s, m, args, below, meth, c, kc, ks, nL, Q⟩ := F
  obtain ⟨hx, hb, hml, hown, hts, hK, hD, hR, hkc, hks⟩ := ok
  intro H locs ls hP hS hl
  refine W.lcmp hx hb hd ?_
  have e1 := jJ_lt hx1 hy1
  have e2 := jJ_lt hy1 hx1
  have e3 := jJ_eq hx1 hy1
  refine lv_if_lt (tgt := tgt) hx hb hd2 ht (fun h => kt ?_ H locs ls hP hS hl) (fun h => kf ?_ H locs ls hP hS hl)
  · unfold lg_cmp at h
    rcases Int.lt_trichotomy x y with q | q | q
    · first | exact q | (exfalso; rw [if_neg (by show ¬ jJ y < jJ x; rw [e2]; omega), if_neg (by rw [e3]; omega)] at h; exact absurd h (by decide))
    · exfalso; rw [if_neg (by show ¬ jJ y < jJ x; rw [e2]; omega), if_pos (e3.mpr q)] at h; exact absurd h (by decide)
    · first | exact q | (exfalso; rw [if_pos (show jJ x > jJ y from e2.mpr q)] at h; exact absurd h (by decide))
  · unfold lg_cmp at h
    rcases Int.lt_trichotomy x y with q | q | q
    · first | omega | (exfalso; rw [if_neg (by show ¬ jJ y < jJ x; rw [e2]; omega), if_neg (by rw [e3]; omega)] at h; exact h (by decide))
    · omega
    · first | omega | (exfalso; rw [if_pos (show jJ x > jJ y from e2.mpr q)] at h; exact h (by decide))
theorem r_lcmp_gt (ok : OkF F cc own rm) {x y : Int} {off : Int} (tgt : Nat) (hd : decode cc pc = .ok (.lcmp, 1)) (hd2 : decode cc (pc + 1) = .ok (.ifCond .gt off, 3)) (ht : ((pc + 1 : Nat) : Int) + off = (tgt : Int)) (hx1 : rnL x) (hy1 : rnL y) (kt : y < x → AtS F tgt lv st σ) (kf : x ≤ y → AtS F (pc + 1 + 3) lv st σ) : AtS F pc lv (vJ y :: vJ x :: st) σ := by
  obtain ⟨l, G, A, p, e, R, s, m, args, below, meth, c, kc, ks, nL, Q⟩ := F
  obtain ⟨hx, hb, hml, hown, hts, hK, hD, hR, hkc, hks⟩ := ok
  intro H locs ls hP hS hl
  refine W.lcmp hx hb hd ?_
  have e1 := jJ_lt hx1 hy1
  have e2 := jJ_lt hy1 hx1
  have e3 := jJ_eq hx1 hy1
  refine lv_if_gt (tgt := tgt) hx hb hd2 ht (fun h => kt ?_ H locs ls hP hS hl) (fun h => kf ?_ H locs ls hP hS hl)
  · unfold lg_cmp at h
    rcases Int.lt_trichotomy x y with q | q | q
    · first | exact q | (exfalso; rw [if_neg (by show ¬ jJ y < jJ x; rw [e2]; omega), if_neg (by rw [e3]; omega)] at h; exact absurd h (by decide))
    · exfalso; rw [if_neg (by show ¬ jJ y < jJ x; rw [e2]; omega), if_pos (e3.mpr q)] at h; exact absurd h (by decide)
    · first | exact q | (exfalso; rw [if_pos (show jJ x > jJ y from e2.mpr q)] at h; exact absurd h (by decide))
  · unfold lg_cmp at h
    rcases Int.lt_trichotomy x y with q | q | q
    · first | omega | (exfalso; rw [if_neg (by show ¬ jJ y < jJ x; rw [e2]; omega), if_neg (by rw [e3]; omega)] at h; exact h (by decide))
    · omega
    · first | omega | (exfalso; rw [if_pos (show jJ x > jJ y from e2.mpr q)] at h; exact h (by decide))
theorem r_dup (ok : OkF F cc own rm) {va : Value} (hd : decode cc pc = .ok (.dup, 1)) (hva : va.category = 1) (k : AtS F (pc + 1) lv (va :: va :: st) σ) : AtS F pc lv (va :: st) σ := by
  obtain ⟨l, G, A, p, e, R, s, m, args, below, meth, c, kc, ks, nL, Q⟩ := F
  obtain ⟨hx, hb, hml, hown, hts, hK, hD, hR, hkc, hks⟩ := ok
  intro H locs ls hP hS hl
  exact lv_dup hx hb hd hva (k H locs ls hP hS hl)
theorem r_dup2 (ok : OkF F cc own rm) {va vb : Value} (hd : decode cc pc = .ok (.dup2, 1)) (hva : va.category = 1) (hvb : vb.category = 1) (k : AtS F (pc + 1) lv (va :: vb :: va :: vb :: st) σ) : AtS F pc lv (va :: vb :: st) σ := by
  obtain ⟨l, G, A, p, e, R, s, m, args, below, meth, c, kc, ks, nL, Q⟩ := F
  obtain ⟨hx, hb, hml, hown, hts, hK, hD, hR, hkc, hks⟩ := ok
  intro H locs ls hP hS hl
  exact lv_dup2_11 hx hb hd hva hvb (k H locs ls hP hS hl)
theorem r_pop (ok : OkF F cc own rm) {va : Value} (hd : decode cc pc = .ok (.pop, 1)) (hva : va.category = 1) (k : AtS F (pc + 1) lv st σ) : AtS F pc lv (va :: st) σ := by
  obtain ⟨l, G, A, p, e, R, s, m, args, below, meth, c, kc, ks, nL, Q⟩ := F
  obtain ⟨hx, hb, hml, hown, hts, hK, hD, hR, hkc, hks⟩ := ok
  intro H locs ls hP hS hl
  exact lv_pop hx hb hd hva (k H locs ls hP hS hl)
theorem r_goto (ok : OkF F cc own rm) {off : Int} (tgt : Nat) (hd : decode cc pc = .ok (.goto off, 3)) (ht : (pc : Int) + off = (tgt : Int)) (k : AtS F tgt lv st σ) : AtS F pc lv st σ := by
  obtain ⟨l, G, A, p, e, R, s, m, args, below, meth, c, kc, ks, nL, Q⟩ := F
  obtain ⟨hx, hb, hml, hown, hts, hK, hD, hR, hkc, hks⟩ := ok
  intro H locs ls hP hS hl
  exact lv_goto hx hb hd ht (k H locs ls hP hS hl)
theorem r_icmp_eq (ok : OkF F cc own rm) {x y : Int} {off : Int} (tgt : Nat) (hd : decode cc pc = .ok (.if_icmp .eq off, 3)) (ht : (pc : Int) + off = (tgt : Int)) (hx1 : rng x) (hy1 : rng y) (kt : x = y → AtS F tgt lv st σ) (kf : ¬ x = y → AtS F (pc + 3) lv st σ) : AtS F pc lv (vI y :: vI x :: st) σ := by
  obtain ⟨l, G, A, p, e, R, s, m, args, below, meth, c, kc, ks, nL, Q⟩ := F
  obtain ⟨hx, hb, hml, hown, hts, hK, hD, hR, hkc, hks⟩ := ok
  intro H locs ls hP hS hl
  have e1 := iI_lt hx1 hy1
  have e2 := iI_lt hy1 hx1
  have e3 := iI_eq hx1 hy1
  have e4 := iI_le hx1 hy1
  have e5 := iI_le hy1 hx1
  exact lv_icmp_eq (tgt := tgt) hx hb hd ht (fun h => kt (e3.mp h) H locs ls hP hS hl) (fun h => kf (fun q => h (e3.mpr q)) H locs ls hP hS hl)
theorem r_if_eq (ok : OkF F cc own rm) {x : Int} {off : Int} (tgt : Nat) (hd : decode cc pc = .ok (.ifCond .eq off, 3)) (ht : (pc : Int) + off = (tgt : Int)) (hx1 : rng x) (kt : x = 0 → AtS F tgt lv st σ) (kf : ¬ x = 0 → AtS F (pc + 3) lv st σ) : AtS F pc lv (vI x :: st) σ := by
  obtain ⟨l, G, A, p, e, R, s, m, args, below, meth, c, kc, ks, nL, Q⟩ := F
  obtain ⟨hx, hb, hml, hown, hts, hK, hD, hR, hkc, hks⟩ := ok
  intro H locs ls hP hS hl
  have hy1 : rng 0 := rng0
  have e1 := iI_lt hx1 hy1
  have e2 := iI_lt hy1 hx1
  have e3 := iI_eq hx1 hy1
  have e4 := iI_le hx1 hy1
  have e5 := iI_le hy1 hx1
  exact lv_if_eq (tgt := tgt) hx hb hd ht (fun h => kt (e3.mp h) H locs ls hP hS hl) (fun h => kf (fun q => h (e3.mpr q)) H locs ls hP hS hl)
theorem r_icmp_ne (ok : OkF F cc own rm) {x y : Int} {off : Int} (tgt : Nat) (hd : decode cc pc = .ok (.if_icmp .ne off, 3)) (ht : (pc : Int) + off = (tgt : Int)) (hx1 : rng x) (hy1 : rng y) (kt : ¬ x = y → AtS F tgt lv st σ) (kf : x = y → AtS F (pc + 3) lv st σ) : AtS F pc lv (vI y :: vI x :: st) σ := by
  obtain ⟨l, G, A, p, e, R, s, m, args, below, meth, c, kc, ks, nL, Q⟩ := F
  obtain ⟨hx, hb, hml, hown, hts, hK, hD, hR, hkc, hks⟩ := ok
  intro H locs ls hP hS hl
  have e1 := iI_lt hx1 hy1
  have e2 := iI_lt hy1 hx1
  have e3 := iI_eq hx1 hy1
  have e4 := iI_le hx1 hy1
  have e5 := iI_le hy1 hx1
  exact lv_icmp_ne (tgt := tgt) hx hb hd ht (fun h => kt (fun q => h (e3.mpr q)) H locs ls hP hS hl) (fun h => kf (e3.mp h) H locs ls hP hS hl)
theorem r_if_ne (ok : OkF F cc own rm) {x : Int} {off : Int} (tgt : Nat) (hd : decode cc pc = .ok (.ifCond .ne off, 3)) (ht : (pc : Int) + off = (tgt : Int)) (hx1 : rng x) (kt : ¬ x = 0 → AtS F tgt lv st σ) (kf : x = 0 → AtS F (pc + 3) lv st σ) : AtS F pc lv (vI x :: st) σ := by
  obtain ⟨l, G, A, p, e, R, s, m, args, below, meth, c, kc, ks, nL, Q⟩ := F
  obtain ⟨hx, hb, hml, hown, hts, hK, hD, hR, hkc, hks⟩ := ok
  intro H locs ls hP hS hl
  have hy1 : rng 0 := rng0
  have e1 := iI_lt hx1 hy1
  have e2 := iI_lt hy1 hx1
  have e3 := iI_eq hx1 hy1
  have e4 := iI_le hx1 hy1
  have e5 := iI_le hy1 hx1
  exact lv_if_ne (tgt := tgt) hx hb hd ht (fun h => kt (fun q => h (e3.mpr q)) H locs ls hP hS hl) (fun h => kf (e3.mp h) H locs ls hP hS hl)
theorem r_icmp_lt (ok : OkF F cc own rm) {x y : Int} {off : Int} (tgt : Nat) (hd : decode cc pc = .ok (.if_icmp .lt off, 3)) (ht : (pc : Int) + off = (tgt : Int)) (hx1 : rng x) (hy1 : rng y) (kt : x < y → AtS F tgt lv st σ) (kf : y ≤ x → AtS F (pc + 3) lv st σ) : AtS F pc lv (vI y :: vI x :: st) σ := by
  obtain ⟨l, G, A, p, e, R, s, m, args, below, meth, c, kc, ks, nL, Q⟩ := F
  obtain ⟨hx, hb, hml, hown, hts, hK, hD, hR, hkc, hks⟩ := ok
  intro H locs ls hP hS hl
  have e1 := iI_lt hx1 hy1
  have e2 := iI_lt hy1 hx1
  have e3 := iI_eq hx1 hy1
  have e4 := iI_le hx1 hy1
  have e5 := iI_le hy1 hx1
  exact lv_icmp_lt (tgt := tgt) hx hb hd ht (fun h => kt (e1.mp h) H locs ls hP hS hl) (fun h => kf (Int.not_lt.mp (fun q => h (e1.mpr q))) H locs ls hP hS hl)
theorem r_if_lt (ok : OkF F cc own rm) {x : Int} {off : Int} (tgt : Nat) (hd : decode cc pc = .ok (.ifCond .lt off, 3)) (ht : (pc : Int) + off = (tgt : Int)) (hx1 : rng x) (kt : x < 0 → AtS F tgt lv st σ) (kf : 0 ≤ x → AtS F (pc + 3) lv st σ) : AtS F pc lv (vI x :: st) σ := by
  obtain ⟨l, G, A, p, e, R, s, m, args, below, meth, c, kc, ks, nL, Q⟩ := F
  obtain ⟨hx, hb, hml, hown, hts, hK, hD, hR, hkc, hks⟩ := ok
  intro H locs ls hP hS hl
  have hy1 : rng 0 := rng0
  have e1 := iI_lt hx1 hy1
  have e2 := iI_lt hy1 hx1
  have e3 := iI_eq hx1 hy1
  have e4 := iI_le hx1 hy1
  have e5 := iI_le hy1 hx1
  exact lv_if_lt (tgt := tgt) hx hb hd ht (fun h => kt (e1.mp h) H locs ls hP hS hl) (fun h => kf (Int.not_lt.mp (fun q => h (e1.mpr q))) H locs ls hP hS hl)
theorem r_icmp_ge (ok : OkF F cc own rm) {x y : Int} {off : Int} (tgt : Nat) (hd : decode cc pc = .ok (.if_icmp .ge off, 3)) (ht : (pc : Int) + off = (tgt : Int)) (hx1 : rng x) (hy1 : rng y) (kt : y ≤ x → AtS F tgt lv st σ) (kf : x < y → AtS F (pc + 3) lv st σ) : AtS F pc lv (vI y :: vI x :: st) σ := by
  obtain ⟨l, G, A, p, e, R, s, m, args, below, meth, c, kc, ks, nL, Q⟩ := F
  obtain ⟨hx, hb, hml, hown, hts, hK, hD, hR, hkc, hks⟩ := ok
  intro H locs ls hP hS hl
  have e1 := iI_lt hx1 hy1
  have e2 := iI_lt hy1 hx1
  have e3 := iI_eq hx1 hy1
  have e4 := iI_le hx1 hy1
  have e5 := iI_le hy1 hx1
  exact lv_icmp_ge (tgt := tgt) hx hb hd ht (fun h => kt (e5.mp h) H locs ls hP hS hl) (fun h => kf (Int.not_le.mp (fun q => h (e5.mpr q))) H locs ls hP hS hl)
theorem r_if_ge (ok : OkF F cc own rm) {x : Int} {off : Int} (tgt : Nat) (hd : decode cc pc = .ok (.ifCond .ge off, 3)) (ht : (pc : Int) + off = (tgt : Int)) (hx1 : rng x) (kt : 0 ≤ x → AtS F tgt lv st σ) (kf : x < 0 → AtS F (pc + 3) lv st σ) : AtS F pc lv (vI x :: st) σ := by
  obtain ⟨l, G, A, p, e, R, s, m, args, below, meth, c, kc, ks, nL, Q⟩ := F
  obtain ⟨hx, hb, hml, hown, hts, hK, hD, hR, hkc, hks⟩ := ok
  intro H locs ls hP hS hl
  have hy1 : rng 0 := rng0
  have e1 := iI_lt hx1 hy1
  have e2 := iI_lt hy1 hx1
  have e3 := iI_eq hx1 hy1
  have e4 := iI_le hx1 hy1
  have e5 := iI_le hy1 hx1
  exact lv_if_ge (tgt := tgt) hx hb hd ht (fun h => kt (e5.mp h) H locs ls hP hS hl) (fun h => kf (Int.not_le.mp (fun q => h (e5.mpr q))) H locs ls hP hS hl)
theorem r_icmp_gt (ok : OkF F cc own rm) {x y : Int} {off : Int} (tgt : Nat) (hd : decode cc pc = .ok (.if_icmp .gt off, 3)) (ht : (pc : Int) + off = (tgt : Int)) (hx1 : rng x) (hy1 : rng y) (kt : y < x → AtS F tgt lv st σ) (kf : x ≤ y → AtS F (pc + 3) lv st σ) : AtS F pc lv (vI y :: vI x :: st) σ := by
  obtain ⟨l, G, A, p, e, R, s, m, args, below, meth, c, kc, ks, nL, Q⟩ := F
  obtain ⟨hx, hb, hml, hown, hts, hK, hD, hR, hkc, hks⟩ := ok
  intro H locs ls hP hS hl
  have e1 := iI_lt hx1 hy1
  have e2 := iI_lt hy1 hx1
  have e3 := iI_eq hx1 hy1
  have e4 := iI_le hx1 hy1
  have e5 := iI_le hy1 hx1
  exact lv_icmp_gt (tgt := tgt) hx hb hd ht (fun h => kt (e2.mp h) H locs ls hP hS hl) (fun h => kf (Int.not_lt.mp (fun q => h (e2.mpr q))) H locs ls hP hS hl)
theorem r_if_gt (ok : OkF F cc own rm) {x : Int} {off : Int} (tgt : Nat) (hd : decode cc pc = .ok (.ifCond .gt off, 3)) (ht : (pc : Int) + off = (tgt : Int)) (hx1 : rng x) (kt : 0 < x → AtS F tgt lv st σ) (kf : x ≤ 0 → AtS F (pc + 3) lv st σ) : AtS F pc lv (vI x :: st) σ := by
  obtain ⟨l, G, A, p, e, R, s, m, args, below, meth, c, kc, ks, nL, Q⟩ := F
  obtain ⟨hx, hb, hml, hown, hts, hK, hD, hR, hkc, hks⟩ := ok
  intro H locs ls hP hS hl
  have hy1 : rng 0 := rng0
  have e1 := iI_lt hx1 hy1
  have e2 := iI_lt hy1 hx1
  have e3 := iI_eq hx1 hy1
  have e4 := iI_le hx1 hy1
  have e5 := iI_le hy1 hx1
  exact lv_if_gt (tgt := tgt) hx hb hd ht (fun h => kt (e2.mp h) H locs ls hP hS hl) (fun h => kf (Int.not_lt.mp (fun q => h (e2.mpr q))) H locs ls hP hS hl)
theorem r_icmp_le (ok : OkF F cc own rm) {x y : Int} {off : Int} (tgt : Nat) (hd : decode cc pc = .ok (.if_icmp .le off, 3)) (ht : (pc : Int) + off = (tgt : Int)) (hx1 : rng x) (hy1 : rng y) (kt : x ≤ y → AtS F tgt lv st σ) (kf : y < x → AtS F (pc + 3) lv st σ) : AtS F pc lv (vI y :: vI x :: st) σ := by
  obtain ⟨l, G, A, p, e, R, s, m, args, below, meth, c, kc, ks, nL, Q⟩ := F
  obtain ⟨hx, hb, hml, hown, hts, hK, hD, hR, hkc, hks⟩ := ok
  intro H locs ls hP hS hl
  have e1 := iI_lt hx1 hy1
  have e2 := iI_lt hy1 hx1
  have e3 := iI_eq hx1 hy1
  have e4 := iI_le hx1 hy1
  have e5 := iI_le hy1 hx1
  exact lv_icmp_le (tgt := tgt) hx hb hd ht (fun h => kt (e4.mp h) H locs ls hP hS hl) (fun h => kf (Int.not_le.mp (fun q => h (e4.mpr q))) H locs ls hP hS hl)
theorem r_if_le (ok : OkF F cc own rm) {x : Int} {off : Int} (tgt : Nat) (hd : decode cc pc = .ok (.ifCond .le off, 3)) (ht : (pc : Int) + off = (tgt : Int)) (hx1 : rng x) (kt : x ≤ 0 → AtS F tgt lv st σ) (kf : 0 < x → AtS F (pc + 3) lv st σ) : AtS F pc lv (vI x :: st) σ := by
  obtain ⟨l, G, A, p, e, R, s, m, args, below, meth, c, kc, ks, nL, Q⟩ := F
  obtain ⟨hx, hb, hml, hown, hts, hK, hD, hR, hkc, hks⟩ := ok
  intro H locs ls hP hS hl
  have hy1 : rng 0 := rng0
  have e1 := iI_lt hx1 hy1
  have e2 := iI_lt hy1 hx1
  have e3 := iI_eq hx1 hy1
  have e4 := iI_le hx1 hy1
  have e5 := iI_le hy1 hx1
  exact lv_if_le (tgt := tgt) hx hb hd ht (fun h => kt (e4.mp h) H locs ls hP hS hl) (fun h => kf (Int.not_le.mp (fun q => h (e4.mpr q))) H locs ls hP hS hl)
theorem r_tblOut (ok : OkF F cc own rm) {x : Int} {dflt lo hi : Int} {offs : Array Int} {len : Nat} (tgt : Nat) (hd : decode cc pc = .ok (.tableswitch dflt lo hi offs, len)) (hx1 : rng x) (h : x < lo ∨ hi < x) (ht : (pc : Int) + dflt = (tgt : Int)) (k : AtS F tgt lv st σ) : AtS F pc lv (vI x :: st) σ := by
  obtain ⟨l, G, A, p, e, R, s, m, args, below, meth, c, kc, ks, nL, Q⟩ := F
  obtain ⟨hx, hb, hml, hown, hts, hK, hD, hR, hkc, hks⟩ := ok
  intro H locs ls hP hS hl
  exact lv_tableOut hx hb hd (by rw [ti_iI hx1]; exact h) ht (k H locs ls hP hS hl)
theorem r_tblIn (ok : OkF F cc own rm) {x : Int} (j : Int) {dflt lo hi : Int} {offs : Array Int} {len : Nat} {off : Int} (tgt : Nat) (hd : decode cc pc = .ok (.tableswitch dflt lo hi offs, len)) (hx1 : rng x) (h : x = j) (hj : ¬ j < lo ∧ ¬ hi < j) (ho : offs[(j - lo).toNat]? = some off) (ht : (pc : Int) + off = (tgt : Int)) (k : AtS F tgt lv st σ) : AtS F pc lv (vI x :: st) σ := by
  obtain ⟨l, G, A, p, e, R, s, m, args, below, meth, c, kc, ks, nL, Q⟩ := F
  obtain ⟨hx, hb, hml, hown, hts, hK, hD, hR, hkc, hks⟩ := ok
  intro H locs ls hP hS hl
  exact lv_tableIn hx hb hd (by rw [ti_iI hx1, h]; exact hj.1) (by rw [ti_iI hx1, h]; exact hj.2) (by rw [ti_iI hx1, h]; exact ho) ht (k H locs ls hP hS hl)
theorem r_lk (ok : OkF F cc own rm) {x : Int} {dflt : Int} {ps : Array (Int × Int)} {len : Nat} {off : Int} (tgt : Nat) (hd : decode cc pc = .ok (.lookupswitch dflt ps, len)) (hx1 : rng x) (hp : (ps.toList.zip (ps.toList.drop 1)).all (fun (a, next) => a.1 < next.1) = true) (ho : Op.lookupswitch.offset ps.toList dflt x = off) (ht : (pc : Int) + off = (tgt : Int)) (k : AtS F tgt lv st σ) : AtS F pc lv (vI x :: st) σ := by
  obtain ⟨l, G, A, p, e, R, s, m, args, below, meth, c, kc, ks, nL, Q⟩ := F
  obtain ⟨hx, hb, hml, hown, hts, hK, hD, hR, hkc, hks⟩ := ok
  intro H locs ls hP hS hl
  exact lv_lookup hx hb hd hp (by rw [ti_iI hx1]; exact ho) ht (k H locs ls hP hS hl)
theorem r_max (ok : OkF F cc own rm) {x y : Int} {i : Nat} (hw : Cond.methodLink own i Lib.Math.max.name ∈ lw_ok) (hf : 1 ≤ rm.frames) (hlo : (st.map fun v => v.category).sum + 13 ≤ rm.locals) (hd : decode cc pc = .ok (.invokestatic i, 3)) (hx1 : rng x) (hy1 : rng y) (k : AtS F (pc + 3) lv (vI (max x y) :: st) σ) : AtS F pc lv (vI y :: vI x :: st) σ := by
  obtain ⟨l, G, A, p, e, R, s, m, args, below, meth, c, kc, ks, nL, Q⟩ := F
  obtain ⟨hx, hb, hml, hown, hts, hK, hD, hR, hkc, hks⟩ := ok
  intro H locs ls hP hS hl
  subst hR
  refine va_mmax hx hb (hml.trans hl.1.symm) hown (hts _ hw) (hts _ wd_static_max) (hts _ wd_init_Math) (hts _ wd_code_max) hf hlo hkc hks hd ?_
  have e : (if iI x < iI y then iI y else iI x) = iI (max x y) := by
    have e1 := iI_lt hx1 hy1
    split
    · rename_i h; have := e1.mp h; congr 1; omega
    · rename_i h; have : ¬ _ := fun q => h (e1.mpr q); congr 1; omega
  rw [e]
  exact k H locs ls hP hS hl
theorem r_min (ok : OkF F cc own rm) {x y : Int} {i : Nat} (hw : Cond.methodLink own i Lib.Math.min.name ∈ lw_ok) (hf : 1 ≤ rm.frames) (hlo : (st.map fun v => v.category).sum + 13 ≤ rm.locals) (hd : decode cc pc = .ok (.invokestatic i, 3)) (hx1 : rng x) (hy1 : rng y) (k : AtS F (pc + 3) lv (vI (min x y) :: st) σ) : AtS F pc lv (vI y :: vI x :: st) σ := by
  obtain ⟨l, G, A, p, e, R, s, m, args, below, meth, c, kc, ks, nL, Q⟩ := F
  obtain ⟨hx, hb, hml, hown, hts, hK, hD, hR, hkc, hks⟩ := ok
  intro H locs ls hP hS hl
  subst hR
  refine va_mmin hx hb (hml.trans hl.1.symm) hown (hts _ hw) (hts _ wd_static_min) (hts _ wd_init_Math) (hts _ wd_code_min) hf hlo hkc hks hd ?_
  have e : (if iI y < iI x then iI y else iI x) = iI (min x y) := by
    have e1 := iI_lt hy1 hx1
    split
    · rename_i h; have := e1.mp h; congr 1; omega
    · rename_i h; have : ¬ _ := fun q => h (e1.mpr q); congr 1; omega
  rw [e]
  exact k H locs ls hP hS hl
theorem r_iald (ok : OkF F cc own rm) (k : Nat) {i : Int} (hd : decode cc pc = .ok (.iaload, 1)) (hk : k < gN) (hkd : gK k = 0) (hi : 0 ≤ i ∧ i < (gL k : Int)) (kk : AtS F (pc + 1) lv (vI (σ.2 k i) :: st) σ) : AtS F pc lv (vI i :: .ref (F.2.1.1 (11 + k)) :: st) σ := by
  obtain ⟨l, G, A, p, e, R, s, m, args, below, meth, c, kc, ks, nL, Q⟩ := F
  obtain ⟨hx, hb, hml, hown, hts, hK, hD, hR, hkc, hks⟩ := ok
  intro H locs ls hP hS hl
  refine va_iald hx hb hK hP (11 + k) 0 (gw_arr G σ hk) (by rw [hkd]; rfl) (iI_in hi.1 hi.2 (gL_le k)) hd ?_
  rw [iI_cl hi.1 hi.2 (gL_le k)]
  exact kk H locs ls hP hS hl
theorem r_bald (ok : OkF F cc own rm) (k : Nat) {i : Int} (hd : decode cc pc = .ok (.baload, 1)) (hk : k < gN) (hkd : gK k = 1) (hi : 0 ≤ i ∧ i < (gL k : Int)) (kk : AtS F (pc + 1) lv (vI (σ.2 k i) :: st) σ) : AtS F pc lv (vI i :: .ref (F.2.1.1 (11 + k)) :: st) σ := by
  obtain ⟨l, G, A, p, e, R, s, m, args, below, meth, c, kc, ks, nL, Q⟩ := F
  obtain ⟨hx, hb, hml, hown, hts, hK, hD, hR, hkc, hks⟩ := ok
  intro H locs ls hP hS hl
  refine va_bald hx hb hK hP (11 + k) 1 (gw_arr G σ hk) (by rw [hkd]; rfl) (iI_in hi.1 hi.2 (gL_le k)) hd ?_
  rw [iI_cl hi.1 hi.2 (gL_le k)]
  exact kk H locs ls hP hS hl
theorem r_zald (ok : OkF F cc own rm) (k : Nat) {i : Int} (hd : decode cc pc = .ok (.baload, 1)) (hk : k < gN) (hkd : gK k = 2) (hi : 0 ≤ i ∧ i < (gL k : Int)) (kk : AtS F (pc + 1) lv (vI (σ.2 k i) :: st) σ) : AtS F pc lv (vI i :: .ref (F.2.1.1 (11 + k)) :: st) σ := by
  obtain ⟨l, G, A, p, e, R, s, m, args, below, meth, c, kc, ks, nL, Q⟩ := F
  obtain ⟨hx, hb, hml, hown, hts, hK, hD, hR, hkc, hks⟩ := ok
  intro H locs ls hP hS hl
  refine va_zald hx hb hK hP (11 + k) 2 (gw_arr G σ hk) (by rw [hkd]; rfl) (iI_in hi.1 hi.2 (gL_le k)) hd ?_
  rw [iI_cl hi.1 hi.2 (gL_le k)]
  exact kk H locs ls hP hS hl
theorem r_iast (ok : OkF F cc own rm) (k : Nat) {i v : Int} (hd : decode cc pc = .ok (.iastore, 1)) (hk : k < gN) (hkd : gK k = 0) (hi : 0 ≤ i ∧ i < (gL k : Int)) (kk : AtS F (pc + 1) lv st (sA σ k i v)) : AtS F pc lv (vI v :: vI i :: .ref (F.2.1.1 (11 + k)) :: st) σ := by
  obtain ⟨l, G, A, p, e, R, s, m, args, below, meth, c, kc, ks, nL, Q⟩ := F
  obtain ⟨hx, hb, hml, hown, hts, hK, hD, hR, hkc, hks⟩ := ok
  intro H locs ls hP hS hl
  refine va_iast hx hb hK hP (hD σ) hS (11 + k) 0 (gw_arr G σ hk) (by rw [hkd]; rfl) (iI_in hi.1 hi.2 (gL_le k)) hd (fun H2 locs2 hP2 hD2 hS2 => ?_)
  rw [gw_set G σ v hk hi.1 hi.2] at hP2
  exact kk H2 locs2 ls hP2 hS2 hl
theorem r_bast (ok : OkF F cc own rm) (k : Nat) {i v : Int} (hd : decode cc pc = .ok (.bastore, 1)) (hk : k < gN) (hkd : gK k = 1) (hi : 0 ≤ i ∧ i < (gL k : Int)) (hv : -128 ≤ v ∧ v ≤ 127) (kk : AtS F (pc + 1) lv st (sA σ k i v)) : AtS F pc lv (vI v :: vI i :: .ref (F.2.1.1 (11 + k)) :: st) σ := by
  obtain ⟨l, G, A, p, e, R, s, m, args, below, meth, c, kc, ks, nL, Q⟩ := F
  obtain ⟨hx, hb, hml, hown, hts, hK, hD, hR, hkc, hks⟩ := ok
  intro H locs ls hP hS hl
  refine va_bast hx hb hK hP (hD σ) hS (11 + k) 1 (gw_arr G σ hk) (by rw [hkd]; rfl) (iI_in hi.1 hi.2 (gL_le k)) hd (fun H2 locs2 hP2 hD2 hS2 => ?_)
  rw [nar_b hv] at hP2
  rw [gw_set G σ v hk hi.1 hi.2] at hP2
  exact kk H2 locs2 ls hP2 hS2 hl
theorem r_zast (ok : OkF F cc own rm) (k : Nat) {i v : Int} (hd : decode cc pc = .ok (.bastore, 1)) (hk : k < gN) (hkd : gK k = 2) (hi : 0 ≤ i ∧ i < (gL k : Int)) (hv : v = 0 ∨ v = 1) (kk : AtS F (pc + 1) lv st (sA σ k i v)) : AtS F pc lv (vI v :: vI i :: .ref (F.2.1.1 (11 + k)) :: st) σ := by
  obtain ⟨l, G, A, p, e, R, s, m, args, below, meth, c, kc, ks, nL, Q⟩ := F
  obtain ⟨hx, hb, hml, hown, hts, hK, hD, hR, hkc, hks⟩ := ok
  intro H locs ls hP hS hl
  refine va_zast hx hb hK hP (hD σ) hS (11 + k) 2 (gw_arr G σ hk) (by rw [hkd]; rfl) (iI_in hi.1 hi.2 (gL_le k)) hd (fun H2 locs2 hP2 hD2 hS2 => ?_)
  rw [nar_z hv] at hP2
  rw [gw_set G σ v hk hi.1 hi.2] at hP2
  exact kk H2 locs2 ls hP2 hS2 hl
theorem r_getf (ok : OkF F cc own rm) (o : Nat) {C : String} {TT : u_T} {N j index : Nat} {a : Nat} {fs : List Value} {v : Value} (hin : ∀ w ∈ u_ws C TT N, w ∈ lw_ok) (hc : classes[o]? = some (C, TT, N)) (he : (GW F.2.1 σ)[o]? = some (a, .inr (o, fs))) (hj : j < N) (hsame : (TT j).1 = C) (hw : Cond.fieldLink own index C (TT j).2.1 (TT j).2.2.1 ∈ lw_ok) (hv : fs[j]? = some v) (hd : decode cc pc = .ok (.getfield index, 3)) (k : AtS F (pc + 3) lv (v :: st) σ) : AtS F pc lv (.ref a :: st) σ := by
  obtain ⟨l, G, A, p, e, R, s, m, args, below, meth, c, kc, ks, nL, Q⟩ := F
  obtain ⟨hx, hb, hml, hown, hts, hK, hD, hR, hkc, hks⟩ := ok
  intro H locs ls hP hS hl
  exact va_get (ci := o) (C := C) (T := TT) (N := N) hx hb hts hin hown hK hP o he hc j hj (hts _ hw) (fun _ h9 => by rw [hsame] at h9; exact h9) hv hd (k H locs ls hP hS hl)
theorem r_putf (ok : OkF F cc own rm) (o : Nat) {C : String} {TT : u_T} {N j index : Nat} {a : Nat} {fs : List Value} {v : Value} {ty : FieldType} {ty0 : Nat → FieldType} {σ' : SS} (hin : ∀ w ∈ u_ws C TT N, w ∈ lw_ok) (hty : ∀ k, k < N → parseFieldDescriptor (TT k).2.2.1 = some (ty0 k)) (hnm : ∀ a, a < N → ∀ b, b < N → a ≠ b → (TT a).2.1 ≠ (TT b).2.1) (hc : classes[o]? = some (C, TT, N)) (he : (GW F.2.1 σ)[o]? = some (a, .inr (o, fs))) (hj : j < N) (hsame : (TT j).1 = C) (hw : Cond.fieldLink own index C (TT j).2.1 (TT j).2.2.1 ∈ lw_ok) (hfin : (TT j).2.2.2 = false) (hde : parseFieldDescriptor (TT j).2.2.1 = some ty) (hn : narrow ty v = v) (hfit : fits ty v = true) (hlt : j < fs.length) (hset : (GW F.2.1 σ).set o (a, .inr (o, fs.set j v)) = GW F.2.1 σ') (hd : decode cc pc = .ok (.putfield index, 3)) (k : AtS F (pc + 3) lv st σ') : AtS F pc lv (v :: .ref a :: st) σ := by
  obtain ⟨l, G, A, p, e, R, s, m, args, below, meth, c, kc, ks, nL, Q⟩ := F
  obtain ⟨hx, hb, hml, hown, hts, hK, hD, hR, hkc, hks⟩ := ok
  intro H locs ls hP hS hl
  refine va_put (ci := o) (C := C) (T := TT) (N := N) hx hb hts hin ty0 hty hnm hown hK hP (hD σ) hS o he hc j hj (hts _ hw) (fun _ h9 => by rw [hsame] at h9; exact h9) hfin hde hn hfit hlt hd (fun H2 locs2 hP2 _ hS2 => ?_)
  have hP2 : va_P G.2.1 classes (GW G σ') H2 := by
    rw [← show (GW G σ).set o (a, .inr (o, fs.set j v)) = GW G σ' from hset]; exact hP2
  exact k H2 locs2 ls hP2 hS2 hl
theorem r_callVi (ok : OkF F cc own rm) {y : MethodName} {bytes : ByteArray} {maxL index : Nat} {ret : Option FieldType} {rmc : Room} {As rest : List Value} {K : Int → SS → Prop} (o : Nat) {C : String} {TT : u_T} {N : Nat} {fs : List Value} (hc : classes[o]? = some (C, TT, N)) (hC : C = y.cls) (he : (GW F.2.1 σ)[o]? = some (F.2.1.1 o, .inr (o, fs))) (w1 : Cond.methodLink own index y ∈ lw_ok) (w2 : Cond.instanceMethod y ∈ lw_ok) (w3 : Cond.selects y.cls y y ∈ lw_ok) (w4 : Cond.initialized y.cls ∈ lw_ok) (w5 : Cond.code y bytes maxL ret ∈ lw_ok) (hR1 : rmc.frames + 1 ≤ rm.frames ∧ 8 + (maxL + 11) + rmc.locals ≤ rm.locals) (hrc : rmc.cells = 0 ∧ rmc.slots = 0) (hh : y.cls ≠ "java/lang/invoke/MethodHandle" ∧ y.cls ≠ "java/lang/invoke/VarHandle" ∧ (parseMethodDescriptor y.desc).map (fun d => d.parameters.length) = some As.length) (hcat : (rest.map fun v => v.category).sum ≤ 8) (hst : st = As.reverse ++ .ref (F.2.1.1 o) :: rest) (hd : decode cc pc = .ok (.invokevirtual index, 3)) (hM : Met F.1 y (Cond.code y bytes maxL ret :: lw_ok) rmc (va_Pc (.ref (F.2.1.1 o) :: As) (gB F.2.1 σ)) (va_Qi (fun (r : Int32) (s2 : SS) => ∃ x : Int, r = iI x ∧ K x s2) (fun s2 t => gB F.2.1 s2 t) F.2.2.1) 0 0 F.2.2.1) (k : ∀ (x : Int) (s2 : SS), K x s2 → AtS F (pc + 3) lv (vI x :: rest) s2) : AtS F pc lv st σ := by
  obtain ⟨l, G, A, p, e, R, s, m, args, below, meth, c, kc, ks, nL, Q⟩ := F
  obtain ⟨hx, hb, hml, hown, hts, hK, hD, hR, hkc, hks⟩ := ok
  intro H locs ls hP hS hl
  subst hR
  refine va_calli (va_runV (As := As) (rest := rest) (nL := nL) ⟨hx, hb, hml, hown, hts⟩ hM ⟨callB_of As.length hts (gd_in w5) rfl hrc.1 hrc.2 (hts _ w4) (hts _ w1) hh hR1, hts _ w2, hts _ w3⟩ ⟨fun a U g mk q => ⟨q.1, q.2.1, va_K.moved (u := U) (U := U.calling g mk a) (Vm.Alike.refl U.vm) q.2.2⟩, hC ▸ va_recv hK hP hc he, fun U hU hW => ⟨rfl, by rw [hU]; exact hP, va_K.moved hW.alike hK⟩⟩ rfl rfl hl.1 hst (lv_room hcat) hd ⟨hkc, hks⟩) hS (fun _ _ h => h) (fun _ h => h) (fun r u t H1 locs1 ht hvm hw hB hz1 hk1 hS2 => by
    obtain ⟨x, hx2, hq⟩ := hw
    rw [hx2]
    exact k x u hq H1 locs1 ls (ht ▸ hB.1) hS2 hl)
theorem r_callVv (ok : OkF F cc own rm) {y : MethodName} {bytes : ByteArray} {maxL index : Nat} {ret : Option FieldType} {rmc : Room} {As rest : List Value} {K : SS → Prop} (o : Nat) {C : String} {TT : u_T} {N : Nat} {fs : List Value} (hc : classes[o]? = some (C, TT, N)) (hC : C = y.cls) (he : (GW F.2.1 σ)[o]? = some (F.2.1.1 o, .inr (o, fs))) (w1 : Cond.methodLink own index y ∈ lw_ok) (w2 : Cond.instanceMethod y ∈ lw_ok) (w3 : Cond.selects y.cls y y ∈ lw_ok) (w4 : Cond.initialized y.cls ∈ lw_ok) (w5 : Cond.code y bytes maxL ret ∈ lw_ok) (hR1 : rmc.frames + 1 ≤ rm.frames ∧ 8 + (maxL + 11) + rmc.locals ≤ rm.locals) (hrc : rmc.cells = 0 ∧ rmc.slots = 0) (hh : y.cls ≠ "java/lang/invoke/MethodHandle" ∧ y.cls ≠ "java/lang/invoke/VarHandle" ∧ (parseMethodDescriptor y.desc).map (fun d => d.parameters.length) = some As.length) (hcat : (rest.map fun v => v.category).sum ≤ 8) (hst : st = As.reverse ++ .ref (F.2.1.1 o) :: rest) (hd : decode cc pc = .ok (.invokevirtual index, 3)) (hM : Met F.1 y (Cond.code y bytes maxL ret :: lw_ok) rmc (va_Pc (.ref (F.2.1.1 o) :: As) (gB F.2.1 σ)) (va_Qv (fun (s2 : SS) => K s2) (fun s2 t => gB F.2.1 s2 t) F.2.2.1) 0 0 F.2.2.1) (k : ∀ (s2 : SS), K s2 → AtS F (pc + 3) lv rest s2) : AtS F pc lv st σ := by
  obtain ⟨l, G, A, p, e, R, s, m, args, below, meth, c, kc, ks, nL, Q⟩ := F
  obtain ⟨hx, hb, hml, hown, hts, hK, hD, hR, hkc, hks⟩ := ok
  intro H locs ls hP hS hl
  subst hR
  refine va_callv (va_runV (As := As) (rest := rest) (nL := nL) ⟨hx, hb, hml, hown, hts⟩ hM ⟨callB_of As.length hts (gd_in w5) rfl hrc.1 hrc.2 (hts _ w4) (hts _ w1) hh hR1, hts _ w2, hts _ w3⟩ ⟨fun a U g mk q => ⟨q.1, q.2.1, va_K.moved (u := U) (U := U.calling g mk a) (Vm.Alike.refl U.vm) q.2.2⟩, hC ▸ va_recv hK hP hc he, fun U hU hW => ⟨rfl, by rw [hU]; exact hP, va_K.moved hW.alike hK⟩⟩ rfl rfl hl.1 hst (lv_room hcat) hd ⟨hkc, hks⟩) hS (fun _ _ h => h) (fun _ h => h) (fun u t H1 locs1 ht hvm hw hB hz1 hk1 hS2 => k u hw H1 locs1 ls (ht ▸ hB.1) hS2 hl)
theorem r_callVr (ok : OkF F cc own rm) {y : MethodName} {bytes : ByteArray} {maxL index : Nat} {ret : Option FieldType} {rmc : Room} {As rest : List Value} {o2 : Nat} {K : SS → Prop} (o : Nat) {C : String} {TT : u_T} {N : Nat} {fs : List Value} (hc : classes[o]? = some (C, TT, N)) (hC : C = y.cls) (he : (GW F.2.1 σ)[o]? = some (F.2.1.1 o, .inr (o, fs))) (w1 : Cond.methodLink own index y ∈ lw_ok) (w2 : Cond.instanceMethod y ∈ lw_ok) (w3 : Cond.selects y.cls y y ∈ lw_ok) (w4 : Cond.initialized y.cls ∈ lw_ok) (w5 : Cond.code y bytes maxL ret ∈ lw_ok) (hR1 : rmc.frames + 1 ≤ rm.frames ∧ 8 + (maxL + 11) + rmc.locals ≤ rm.locals) (hrc : rmc.cells = 0 ∧ rmc.slots = 0) (hh : y.cls ≠ "java/lang/invoke/MethodHandle" ∧ y.cls ≠ "java/lang/invoke/VarHandle" ∧ (parseMethodDescriptor y.desc).map (fun d => d.parameters.length) = some As.length) (hcat : (rest.map fun v => v.category).sum ≤ 8) (hst : st = As.reverse ++ .ref (F.2.1.1 o) :: rest) (hd : decode cc pc = .ok (.invokevirtual index, 3)) (hM : Met F.1 y (Cond.code y bytes maxL ret :: lw_ok) rmc (va_Pc (.ref (F.2.1.1 o) :: As) (gB F.2.1 σ)) (va_Qr (fun (s2 : SS) => K s2) (fun s2 a t => a = F.2.1.1 o2 ∧ gB F.2.1 s2 t) F.2.2.1) 0 0 F.2.2.1) (k : ∀ (s2 : SS), K s2 → AtS F (pc + 3) lv (.ref (F.2.1.1 o2) :: rest) s2) : AtS F pc lv st σ := by
  obtain ⟨l, G, A, p, e, R, s, m, args, below, meth, c, kc, ks, nL, Q⟩ := F
  obtain ⟨hx, hb, hml, hown, hts, hK, hD, hR, hkc, hks⟩ := ok
  intro H locs ls hP hS hl
  subst hR
  refine va_callr (va_runV (As := As) (rest := rest) (nL := nL) ⟨hx, hb, hml, hown, hts⟩ hM ⟨callB_of As.length hts (gd_in w5) rfl hrc.1 hrc.2 (hts _ w4) (hts _ w1) hh hR1, hts _ w2, hts _ w3⟩ ⟨fun a U g mk q => ⟨q.1, q.2.1, va_K.moved (u := U) (U := U.calling g mk a) (Vm.Alike.refl U.vm) q.2.2⟩, hC ▸ va_recv hK hP hc he, fun U hU hW => ⟨rfl, by rw [hU]; exact hP, va_K.moved hW.alike hK⟩⟩ rfl rfl hl.1 hst (lv_room hcat) hd ⟨hkc, hks⟩) hS (fun _ _ h => h) (fun _ h => h) (fun u a t H1 locs1 ht hvm hw hB hz1 hk1 hS2 => by
    obtain ⟨ha, hB⟩ := hB
    subst ha
    exact k u hw H1 locs1 ls (ht ▸ hB.1) hS2 hl)
theorem r_callSi (ok : OkF F cc own rm) {y : MethodName} {bytes : ByteArray} {maxL index : Nat} {ret : Option FieldType} {rmc : Room} {As rest : List Value} {K : Int → SS → Prop} (w1 : Cond.methodLink own index y ∈ lw_ok) (w2 : Cond.static y ∈ lw_ok) (w4 : Cond.initialized y.cls ∈ lw_ok) (w5 : Cond.code y bytes maxL ret ∈ lw_ok) (hR1 : rmc.frames + 1 ≤ rm.frames ∧ 8 + (maxL + 11) + rmc.locals ≤ rm.locals) (hrc : rmc.cells = 0 ∧ rmc.slots = 0) (hh : y.cls ≠ "java/lang/invoke/MethodHandle" ∧ y.cls ≠ "java/lang/invoke/VarHandle" ∧ (parseMethodDescriptor y.desc).map (fun d => d.parameters.length) = some As.length) (hcat : (rest.map fun v => v.category).sum ≤ 8) (hst : st = As.reverse ++ rest) (hd : decode cc pc = .ok (.invokestatic index, 3)) (hM : Met F.1 y (Cond.code y bytes maxL ret :: lw_ok) rmc (va_Pc As (gB F.2.1 σ)) (va_Qi (fun (r : Int32) (s2 : SS) => ∃ x : Int, r = iI x ∧ K x s2) (fun s2 t => gB F.2.1 s2 t) F.2.2.1) 0 0 F.2.2.1) (k : ∀ (x : Int) (s2 : SS), K x s2 → AtS F (pc + 3) lv (vI x :: rest) s2) : AtS F pc lv st σ := by
  obtain ⟨l, G, A, p, e, R, s, m, args, below, meth, c, kc, ks, nL, Q⟩ := F
  obtain ⟨hx, hb, hml, hown, hts, hK, hD, hR, hkc, hks⟩ := ok
  intro H locs ls hP hS hl
  subst hR
  refine va_calli (va_runS (As := As) (rest := rest) (nL := nL) ⟨hx, hb, hml, hown, hts⟩ hM ⟨callB_of As.length hts (gd_in w5) rfl hrc.1 hrc.2 (hts _ w4) (hts _ w1) hh hR1, hts _ w2⟩ ⟨fun a U g mk q => ⟨q.1, q.2.1, va_K.moved (u := U) (U := U.calling g mk a) (Vm.Alike.refl U.vm) q.2.2⟩, fun U hU hW => ⟨rfl, by rw [hU]; exact hP, va_K.moved hW.alike hK⟩⟩ rfl rfl hl.1 hst (lv_room hcat) hd ⟨hkc, hks⟩) hS (fun _ _ h => h) (fun _ h => h) (fun r u t H1 locs1 ht hvm hw hB hz1 hk1 hS2 => by
    obtain ⟨x, hx2, hq⟩ := hw
    rw [hx2]
    exact k x u hq H1 locs1 ls (ht ▸ hB.1) hS2 hl)
theorem r_callSv (ok : OkF F cc own rm) {y : MethodName} {bytes : ByteArray} {maxL index : Nat} {ret : Option FieldType} {rmc : Room} {As rest : List Value} {K : SS → Prop} (w1 : Cond.methodLink own index y ∈ lw_ok) (w2 : Cond.static y ∈ lw_ok) (w4 : Cond.initialized y.cls ∈ lw_ok) (w5 : Cond.code y bytes maxL ret ∈ lw_ok) (hR1 : rmc.frames + 1 ≤ rm.frames ∧ 8 + (maxL + 11) + rmc.locals ≤ rm.locals) (hrc : rmc.cells = 0 ∧ rmc.slots = 0) (hh : y.cls ≠ "java/lang/invoke/MethodHandle" ∧ y.cls ≠ "java/lang/invoke/VarHandle" ∧ (parseMethodDescriptor y.desc).map (fun d => d.parameters.length) = some As.length) (hcat : (rest.map fun v => v.category).sum ≤ 8) (hst : st = As.reverse ++ rest) (hd : decode cc pc = .ok (.invokestatic index, 3)) (hM : Met F.1 y (Cond.code y bytes maxL ret :: lw_ok) rmc (va_Pc As (gB F.2.1 σ)) (va_Qv (fun (s2 : SS) => K s2) (fun s2 t => gB F.2.1 s2 t) F.2.2.1) 0 0 F.2.2.1) (k : ∀ (s2 : SS), K s2 → AtS F (pc + 3) lv rest s2) : AtS F pc lv st σ := by
  obtain ⟨l, G, A, p, e, R, s, m, args, below, meth, c, kc, ks, nL, Q⟩ := F
  obtain ⟨hx, hb, hml, hown, hts, hK, hD, hR, hkc, hks⟩ := ok
  intro H locs ls hP hS hl
  subst hR
  refine va_callv (va_runS (As := As) (rest := rest) (nL := nL) ⟨hx, hb, hml, hown, hts⟩ hM ⟨callB_of As.length hts (gd_in w5) rfl hrc.1 hrc.2 (hts _ w4) (hts _ w1) hh hR1, hts _ w2⟩ ⟨fun a U g mk q => ⟨q.1, q.2.1, va_K.moved (u := U) (U := U.calling g mk a) (Vm.Alike.refl U.vm) q.2.2⟩, fun U hU hW => ⟨rfl, by rw [hU]; exact hP, va_K.moved hW.alike hK⟩⟩ rfl rfl hl.1 hst (lv_room hcat) hd ⟨hkc, hks⟩) hS (fun _ _ h => h) (fun _ h => h) (fun u t H1 locs1 ht hvm hw hB hz1 hk1 hS2 => k u hw H1 locs1 ls (ht ▸ hB.1) hS2 hl)
theorem r_callSr (ok : OkF F cc own rm) {y : MethodName} {bytes : ByteArray} {maxL index : Nat} {ret : Option FieldType} {rmc : Room} {As rest : List Value} {o2 : Nat} {K : SS → Prop} (w1 : Cond.methodLink own index y ∈ lw_ok) (w2 : Cond.static y ∈ lw_ok) (w4 : Cond.initialized y.cls ∈ lw_ok) (w5 : Cond.code y bytes maxL ret ∈ lw_ok) (hR1 : rmc.frames + 1 ≤ rm.frames ∧ 8 + (maxL + 11) + rmc.locals ≤ rm.locals) (hrc : rmc.cells = 0 ∧ rmc.slots = 0) (hh : y.cls ≠ "java/lang/invoke/MethodHandle" ∧ y.cls ≠ "java/lang/invoke/VarHandle" ∧ (parseMethodDescriptor y.desc).map (fun d => d.parameters.length) = some As.length) (hcat : (rest.map fun v => v.category).sum ≤ 8) (hst : st = As.reverse ++ rest) (hd : decode cc pc = .ok (.invokestatic index, 3)) (hM : Met F.1 y (Cond.code y bytes maxL ret :: lw_ok) rmc (va_Pc As (gB F.2.1 σ)) (va_Qr (fun (s2 : SS) => K s2) (fun s2 a t => a = F.2.1.1 o2 ∧ gB F.2.1 s2 t) F.2.2.1) 0 0 F.2.2.1) (k : ∀ (s2 : SS), K s2 → AtS F (pc + 3) lv (.ref (F.2.1.1 o2) :: rest) s2) : AtS F pc lv st σ := by
  obtain ⟨l, G, A, p, e, R, s, m, args, below, meth, c, kc, ks, nL, Q⟩ := F
  obtain ⟨hx, hb, hml, hown, hts, hK, hD, hR, hkc, hks⟩ := ok
  intro H locs ls hP hS hl
  subst hR
  refine va_callr (va_runS (As := As) (rest := rest) (nL := nL) ⟨hx, hb, hml, hown, hts⟩ hM ⟨callB_of As.length hts (gd_in w5) rfl hrc.1 hrc.2 (hts _ w4) (hts _ w1) hh hR1, hts _ w2⟩ ⟨fun a U g mk q => ⟨q.1, q.2.1, va_K.moved (u := U) (U := U.calling g mk a) (Vm.Alike.refl U.vm) q.2.2⟩, fun U hU hW => ⟨rfl, by rw [hU]; exact hP, va_K.moved hW.alike hK⟩⟩ rfl rfl hl.1 hst (lv_room hcat) hd ⟨hkc, hks⟩) hS (fun _ _ h => h) (fun _ h => h) (fun u a t H1 locs1 ht hvm hw hB hz1 hk1 hS2 => by
    obtain ⟨ha, hB⟩ := hB
    subst ha
    exact k u hw H1 locs1 ls (ht ▸ hB.1) hS2 hl)
/-- at a return: the post holds, the frame is left -/
def RetI (F : FT) (K : Int → SS → Prop) : Prop := ∀ (pc : Nat) (lv : List (Nat × Value)) (x : Int) (σ : SS) (cc : ByteArray), F.2.2.2.2.2.2.2.2.2.2.2.1.code = cc → decode cc pc = .ok (.ireturn, 1) → K x σ → AtS F pc lv [vI x] σ
def RetZ (F : FT) (K : Int → SS → Prop) : Prop := ∀ (pc : Nat) (lv : List (Nat × Value)) (x : Int) (σ : SS) (cc : ByteArray), F.2.2.2.2.2.2.2.2.2.2.2.1.code = cc → decode cc pc = .ok (.ireturn, 1) → (x = 0 ∨ x = 1) → K x σ → AtS F pc lv [vI x] σ
def RetV (F : FT) (K : SS → Prop) : Prop := ∀ (pc : Nat) (lv : List (Nat × Value)) (σ : SS) (cc : ByteArray), F.2.2.2.2.2.2.2.2.2.2.2.1.code = cc → decode cc pc = .ok (.return_, 1) → K σ → AtS F pc lv [] σ
def RetR (F : FT) (o2 : Nat) (K : SS → Prop) : Prop := ∀ (pc : Nat) (lv : List (Nat × Value)) (σ : SS) (cc : ByteArray), F.2.2.2.2.2.2.2.2.2.2.2.1.code = cc → decode cc pc = .ok (.areturn, 1) → K σ → AtS F pc lv [.ref (F.2.1.1 o2)] σ
theorem ok_code (ok : OkF F cc own rm) : F.2.2.2.2.2.2.2.2.2.2.2.1.code = cc := by
  obtain ⟨l, G, A, p, e, R, s, m, args, below, meth, c, kc, ks, nL, Q⟩ := F
  exact ok.2.1
end ROWS
theorem met_i {l : Launch} {G : GE} {A : Nat → Prop} {y : MethodName} {bytes : ByteArray} {maxL : Nat} {rm : Room} {vs : List Value} {σ : SS} {K : Int → SS → Prop} {lv : List (Nat × Value)} (hD : ∀ σ, va_D A (GW G σ)) (hy : plainName y.cls = true) (hrm : rm.cells = 0 ∧ rm.slots = 0) (hle : (lg_sl vs).length ≤ maxL) (hlv : lv_args 0 vs = lv)
    (body : ∀ F : FT, F.1 = l → F.2.1 = G → F.2.2.1 = A → F.2.2.2.2.2.2.2.2.2.2.2.2.2.2.1 = maxL → OkF F bytes y.cls rm → RetI F K → AtS F 0 lv [] σ) : Met l y (Cond.code y bytes maxL (some .int) :: lw_ok) rm (va_Pc vs (gB G σ)) (va_Qi (fun (r : Int32) (s2 : SS) => ∃ x : Int, r = iI x ∧ K x s2) (fun s2 t => gB G s2 t) A) 0 0 A := by
  refine Met.ofW (cc := bytes) (maxL := maxL) (ret := some .int) hy rfl ?_
  intro p e s m args below meth c s₁ B hml hv
  obtain ⟨rfl, hP0, hK⟩ := hv
  have hx := B.exec
  have hb := B.bytes
  have hr := B.returns
  have hts := atoms_spec (ws := Cond.code y bytes maxL (some .int) :: lw_ok) B.pre
  have hown : s.vm.findClass y.cls = some m.cls := findClass_of_methodNamed B.named
  have hlocks := B.notSynchronized
  have hl0 := lv_entry vs (n := maxL) hle
  rw [hlv] at hl0
  rw [lg_entry_eq]
  refine body (l, G, A, p, e, rm, s, m, vs.toArray, below, meth, c, 0, 0, maxL, MQ below (va_Qi (fun (r : Int32) (s2 : SS) => ∃ x : Int, r = iI x ∧ K x s2) (fun s2 t => gB G s2 t) A) vs.toArray s 0 0 A) rfl rfl rfl rfl ⟨hx, hb, hml, hown, fun w hw => hts w (List.mem_cons_of_mem _ hw), hK, hD, rfl, by omega, by omega⟩ ?_ _ _ _ hP0 va_S.rf hl0
  intro pc2 lv2 x σ2 cc2 hcc hd2 hq H locs ls hP hS hl
  have hcc : c.code = cc2 := hcc
  rw [← hcc, hb] at hd2
  refine W.iret hx hb hr (fun t ht hW => ⟨⟨iI x, σ2, rfl, ⟨x, rfl, hq⟩, by rw [ht]; exact hP, va_K.moved hW.alike hK⟩, hS.F ht⟩) hS.2.2 hd2
theorem met_z {l : Launch} {G : GE} {A : Nat → Prop} {y : MethodName} {bytes : ByteArray} {maxL : Nat} {rm : Room} {vs : List Value} {σ : SS} {K : Int → SS → Prop} {lv : List (Nat × Value)} (hD : ∀ σ, va_D A (GW G σ)) (hy : plainName y.cls = true) (hrm : rm.cells = 0 ∧ rm.slots = 0) (hle : (lg_sl vs).length ≤ maxL) (hlv : lv_args 0 vs = lv)
    (body : ∀ F : FT, F.1 = l → F.2.1 = G → F.2.2.1 = A → F.2.2.2.2.2.2.2.2.2.2.2.2.2.2.1 = maxL → OkF F bytes y.cls rm → RetZ F K → AtS F 0 lv [] σ) : Met l y (Cond.code y bytes maxL (some .boolean) :: lw_ok) rm (va_Pc vs (gB G σ)) (va_Qi (fun (r : Int32) (s2 : SS) => ∃ x : Int, r = iI x ∧ K x s2) (fun s2 t => gB G s2 t) A) 0 0 A := by
  refine Met.ofW (cc := bytes) (maxL := maxL) (ret := some .boolean) hy rfl ?_
  intro p e s m args below meth c s₁ B hml hv
  obtain ⟨rfl, hP0, hK⟩ := hv
  have hx := B.exec
  have hb := B.bytes
  have hr := B.returns
  have hts := atoms_spec (ws := Cond.code y bytes maxL (some .boolean) :: lw_ok) B.pre
  have hown : s.vm.findClass y.cls = some m.cls := findClass_of_methodNamed B.named
  have hlocks := B.notSynchronized
  have hl0 := lv_entry vs (n := maxL) hle
  rw [hlv] at hl0
  rw [lg_entry_eq]
  refine body (l, G, A, p, e, rm, s, m, vs.toArray, below, meth, c, 0, 0, maxL, MQ below (va_Qi (fun (r : Int32) (s2 : SS) => ∃ x : Int, r = iI x ∧ K x s2) (fun s2 t => gB G s2 t) A) vs.toArray s 0 0 A) rfl rfl rfl rfl ⟨hx, hb, hml, hown, fun w hw => hts w (List.mem_cons_of_mem _ hw), hK, hD, rfl, by omega, by omega⟩ ?_ _ _ _ hP0 va_S.rf hl0
  intro pc2 lv2 x σ2 cc2 hcc hd2 hz hq H locs ls hP hS hl
  have hcc : c.code = cc2 := hcc
  rw [← hcc, hb] at hd2
  refine W.zret hx hb hr (by rcases hz with rfl | rfl <;> rfl) (fun t ht hW => ⟨⟨iI x, σ2, rfl, ⟨x, rfl, hq⟩, by rw [ht]; exact hP, va_K.moved hW.alike hK⟩, hS.F ht⟩) hS.2.2 hd2
theorem met_v {l : Launch} {G : GE} {A : Nat → Prop} {y : MethodName} {bytes : ByteArray} {maxL : Nat} {rm : Room} {vs : List Value} {σ : SS} {K : SS → Prop} {lv : List (Nat × Value)} (hD : ∀ σ, va_D A (GW G σ)) (hy : plainName y.cls = true) (hrm : rm.cells = 0 ∧ rm.slots = 0) (hle : (lg_sl vs).length ≤ maxL) (hlv : lv_args 0 vs = lv)
    (body : ∀ F : FT, F.1 = l → F.2.1 = G → F.2.2.1 = A → F.2.2.2.2.2.2.2.2.2.2.2.2.2.2.1 = maxL → OkF F bytes y.cls rm → RetV F K → AtS F 0 lv [] σ) : Met l y (Cond.code y bytes maxL (none) :: lw_ok) rm (va_Pc vs (gB G σ)) (va_Qv (fun (s2 : SS) => K s2) (fun s2 t => gB G s2 t) A) 0 0 A := by
  refine Met.ofW (cc := bytes) (maxL := maxL) (ret := none) hy rfl ?_
  intro p e s m args below meth c s₁ B hml hv
  obtain ⟨rfl, hP0, hK⟩ := hv
  have hx := B.exec
  have hb := B.bytes
  have hr := B.returns
  have hts := atoms_spec (ws := Cond.code y bytes maxL (none) :: lw_ok) B.pre
  have hown : s.vm.findClass y.cls = some m.cls := findClass_of_methodNamed B.named
  have hlocks := B.notSynchronized
  have hl0 := lv_entry vs (n := maxL) hle
  rw [hlv] at hl0
  rw [lg_entry_eq]
  refine body (l, G, A, p, e, rm, s, m, vs.toArray, below, meth, c, 0, 0, maxL, MQ below (va_Qv (fun (s2 : SS) => K s2) (fun s2 t => gB G s2 t) A) vs.toArray s 0 0 A) rfl rfl rfl rfl ⟨hx, hb, hml, hown, fun w hw => hts w (List.mem_cons_of_mem _ hw), hK, hD, rfl, by omega, by omega⟩ ?_ _ _ _ hP0 va_S.rf hl0
  intro pc2 lv2 σ2 cc2 hcc hd2 hq H locs ls hP hS hl
  have hcc : c.code = cc2 := hcc
  rw [← hcc, hb] at hd2
  refine W.vret hx hb hr (fun t ht hW => ⟨⟨σ2, rfl, hq, by rw [ht]; exact hP, va_K.moved hW.alike hK⟩, hS.F ht⟩) hS.2.2 hd2
theorem met_r {l : Launch} {G : GE} {A : Nat → Prop} {y : MethodName} {bytes : ByteArray} {maxL : Nat} {rm : Room} {vs : List Value} {σ : SS} {o2 : Nat} {cn : String} {K : SS → Prop} {lv : List (Nat × Value)} (hD : ∀ σ, va_D A (GW G σ)) (hy : plainName y.cls = true) (hrm : rm.cells = 0 ∧ rm.slots = 0) (hle : (lg_sl vs).length ≤ maxL) (hlv : lv_args 0 vs = lv)
    (body : ∀ F : FT, F.1 = l → F.2.1 = G → F.2.2.1 = A → F.2.2.2.2.2.2.2.2.2.2.2.2.2.2.1 = maxL → OkF F bytes y.cls rm → RetR F o2 K → AtS F 0 lv [] σ) : Met l y (Cond.code y bytes maxL (some (.object cn)) :: lw_ok) rm (va_Pc vs (gB G σ)) (va_Qr (fun (s2 : SS) => K s2) (fun s2 a t => a = G.1 o2 ∧ gB G s2 t) A) 0 0 A := by
  refine Met.ofW (cc := bytes) (maxL := maxL) (ret := some (.object cn)) hy rfl ?_
  intro p e s m args below meth c s₁ B hml hv
  obtain ⟨rfl, hP0, hK⟩ := hv
  have hx := B.exec
  have hb := B.bytes
  have hr := B.returns
  have hts := atoms_spec (ws := Cond.code y bytes maxL (some (.object cn)) :: lw_ok) B.pre
  have hown : s.vm.findClass y.cls = some m.cls := findClass_of_methodNamed B.named
  have hlocks := B.notSynchronized
  have hl0 := lv_entry vs (n := maxL) hle
  rw [hlv] at hl0
  rw [lg_entry_eq]
  refine body (l, G, A, p, e, rm, s, m, vs.toArray, below, meth, c, 0, 0, maxL, MQ below (va_Qr (fun (s2 : SS) => K s2) (fun s2 a t => a = G.1 o2 ∧ gB G s2 t) A) vs.toArray s 0 0 A) rfl rfl rfl rfl ⟨hx, hb, hml, hown, fun w hw => hts w (List.mem_cons_of_mem _ hw), hK, hD, rfl, by omega, by omega⟩ ?_ _ _ _ hP0 va_S.rf hl0
  intro pc2 lv2 σ2 cc2 hcc hd2 hq H locs ls hP hS hl
  have hcc : c.code = cc2 := hcc
  rw [← hcc, hb] at hd2
  refine W.aret hx hb hr (Or.inl ⟨_, rfl⟩) (Or.inr ⟨_, rfl⟩) (fun t ht hW => ⟨⟨σ2, G.1 o2, rfl, hq, rfl, by rw [ht]; exact hP, va_K.moved hW.alike hK⟩, hS.F ht⟩) hS.2.2 hd2
end
