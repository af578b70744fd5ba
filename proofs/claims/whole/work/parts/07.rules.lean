section RULES
variable {g : GT} {M : MT} {rc rs pc : Nat} {lv : List (Nat × Value)} {st : List Value} {S : ST} {P : PT} {I : IT} {Q : QT}
def lins (q : Nat × Value) : List (Nat × Value) → List (Nat × Value)
  | [] => [q]
  | r :: t => if q.1 < r.1 then q :: r :: t else r :: lins q t
theorem lins_mem {q z : Nat × Value} : ∀ {l : List (Nat × Value)}, z ∈ lins q l → z = q ∨ z ∈ l
  | [], h => Or.inl (List.mem_singleton.mp h)
  | r :: t, h => by
    unfold lins at h
    split at h
    · exact List.mem_cons.mp h
    · rcases List.mem_cons.mp h with h | h
      · exact Or.inr (List.mem_cons.mpr (Or.inl h))
      · exact (lins_mem h).imp id (List.mem_cons_of_mem _)
def lset (lv : List (Nat × Value)) (i : Nat) (v : Value) : List (Nat × Value) := lins (i, v) (lv.filter (fun q => !(q.1 == i) && !(q.1 + 1 == i && q.2.category == 2)))
def lset2 (lv : List (Nat × Value)) (i : Nat) (v : Value) : List (Nat × Value) := lins (i, v) (lv.filter (fun q => !(q.1 == i) && (!(q.1 == i + 1) && !(q.1 + 1 == i && q.2.category == 2))))
theorem lset_has {ls : Array Slot} {n i : Nat} {v : Value} (h : lv_has ls n ((i, v) :: lv.filter (fun q => !(q.1 == i) && !(q.1 + 1 == i && q.2.category == 2)))) : lv_has ls n (lset lv i v) :=
  ⟨h.1, h.2.1, fun q hq => h.2.2 q (List.mem_cons.mpr (lins_mem hq))⟩
theorem lset2_has {ls : Array Slot} {n i : Nat} {v : Value} (h : lv_has ls n ((i, v) :: lv.filter (fun q => !(q.1 == i) && (!(q.1 == i + 1) && !(q.1 + 1 == i && q.2.category == 2))))) : lv_has ls n (lset2 lv i v) :=
  ⟨h.1, h.2.1, fun q hq => h.2.2 q (List.mem_cons.mpr (lins_mem hq))⟩
theorem B.lvs (lv' : List (Nat × Value)) (ks : List Nat) (hk : lv_pick lv ks = lv') (K : B g M rc rs pc lv' st S P I Q) : B g M rc rs pc lv st S P I Q := by
  intro p e R s m args below meth c Z hC hR H locs cells slots ls h1 h2 h3 h4 hl
  exact K p e R s m args below meth c Z hC hR H locs cells slots ls h1 h2 h3 h4 (lv_sub hl ks hk)
theorem B.iload_n {n : Fin 4} {i : Nat} {x : Int32} (k : Nat) (hd : decode (mC M) pc = .ok (.iload_n n, 1)) (hi : (n : Nat) = i) (hk : lv[k]? = some (i, .int x)) (K : B g M rc rs (pc + 1) lv (.int x :: st) S P I Q) : B g M rc rs pc lv st S P I Q := by
  intro p e R s m args below meth c Z hC hR H locs cells slots ls h1 h2 h3 h4 hl
  exact lv_iload_n hC.1 hC.2.1 hd hi (lv_at hl k hk) (K p e R s m args below meth c Z hC hR H locs cells slots ls h1 h2 h3 h4 hl)
theorem B.aload_n {n : Fin 4} {i : Nat} {x : Nat} (k : Nat) (hd : decode (mC M) pc = .ok (.aload_n n, 1)) (hi : (n : Nat) = i) (hk : lv[k]? = some (i, .ref x)) (K : B g M rc rs (pc + 1) lv (.ref x :: st) S P I Q) : B g M rc rs pc lv st S P I Q := by
  intro p e R s m args below meth c Z hC hR H locs cells slots ls h1 h2 h3 h4 hl
  exact lv_aload_n hC.1 hC.2.1 hd hi (lv_at hl k hk) (K p e R s m args below meth c Z hC hR H locs cells slots ls h1 h2 h3 h4 hl)
theorem B.lload_n {n : Fin 4} {i : Nat} {x : Int64} (k : Nat) (hd : decode (mC M) pc = .ok (.lload_n n, 1)) (hi : (n : Nat) = i) (hk : lv[k]? = some (i, .long x)) (K : B g M rc rs (pc + 1) lv (.long x :: st) S P I Q) : B g M rc rs pc lv st S P I Q := by
  intro p e R s m args below meth c Z hC hR H locs cells slots ls h1 h2 h3 h4 hl
  exact lv_lload_n hC.1 hC.2.1 hd hi (lv_at hl k hk) (K p e R s m args below meth c Z hC hR H locs cells slots ls h1 h2 h3 h4 hl)
theorem B.iload {i : Nat} {x : Int32} (k : Nat) (hd : decode (mC M) pc = .ok (.iload i, 2)) (hk : lv[k]? = some (i, .int x)) (K : B g M rc rs (pc + 2) lv (.int x :: st) S P I Q) : B g M rc rs pc lv st S P I Q := by
  intro p e R s m args below meth c Z hC hR H locs cells slots ls h1 h2 h3 h4 hl
  exact lv_iload hC.1 hC.2.1 hd (lv_at hl k hk) (K p e R s m args below meth c Z hC hR H locs cells slots ls h1 h2 h3 h4 hl)
theorem B.aload {i : Nat} {x : Nat} (k : Nat) (hd : decode (mC M) pc = .ok (.aload i, 2)) (hk : lv[k]? = some (i, .ref x)) (K : B g M rc rs (pc + 2) lv (.ref x :: st) S P I Q) : B g M rc rs pc lv st S P I Q := by
  intro p e R s m args below meth c Z hC hR H locs cells slots ls h1 h2 h3 h4 hl
  exact lv_aload hC.1 hC.2.1 hd (lv_at hl k hk) (K p e R s m args below meth c Z hC hR H locs cells slots ls h1 h2 h3 h4 hl)
theorem B.istore_n {n : Fin 4} {i : Nat} {x : Int32} {lv' : List (Nat × Value)} (hd : decode (mC M) pc = .ok (.istore_n n, 1)) (hi : (n : Nat) = i) (hn : i < mX M) (hl' : lset lv i (.int x) = lv') (K : B g M rc rs (pc + 1) lv' st S P I Q) : B g M rc rs pc lv (.int x :: st) S P I Q := by
  subst hl'
  intro p e R s m args below meth c Z hC hR H locs cells slots ls h1 h2 h3 h4 hl
  exact lv_istore_n hC.1 hC.2.1 hd hi hl hn rfl (fun ls hl => K p e R s m args below meth c Z hC hR H locs cells slots ls h1 h2 h3 h4 (lset_has hl))
theorem B.astore_n {n : Fin 4} {i : Nat} {x : Nat} {lv' : List (Nat × Value)} (hd : decode (mC M) pc = .ok (.astore_n n, 1)) (hi : (n : Nat) = i) (hn : i < mX M) (hl' : lset lv i (.ref x) = lv') (K : B g M rc rs (pc + 1) lv' st S P I Q) : B g M rc rs pc lv (.ref x :: st) S P I Q := by
  subst hl'
  intro p e R s m args below meth c Z hC hR H locs cells slots ls h1 h2 h3 h4 hl
  exact lv_astore_n hC.1 hC.2.1 hd hi hl hn rfl (fun ls hl => K p e R s m args below meth c Z hC hR H locs cells slots ls h1 h2 h3 h4 (lset_has hl))
theorem B.lstore_n {n : Fin 4} {i : Nat} {x : Int64} {lv' : List (Nat × Value)} (hd : decode (mC M) pc = .ok (.lstore_n n, 1)) (hi : (n : Nat) = i) (hn : i + 1 < mX M) (hl' : lset2 lv i (.long x) = lv') (K : B g M rc rs (pc + 1) lv' st S P I Q) : B g M rc rs pc lv (.long x :: st) S P I Q := by
  subst hl'
  intro p e R s m args below meth c Z hC hR H locs cells slots ls h1 h2 h3 h4 hl
  exact lv_lstore_n hC.1 hC.2.1 hd hi hl hn rfl (fun ls hl => K p e R s m args below meth c Z hC hR H locs cells slots ls h1 h2 h3 h4 (lset2_has hl))
theorem B.istore {i : Nat} {x : Int32} {lv' : List (Nat × Value)} (hd : decode (mC M) pc = .ok (.istore i, 2)) (hn : i < mX M) (hl' : lset lv i (.int x) = lv') (K : B g M rc rs (pc + 2) lv' st S P I Q) : B g M rc rs pc lv (.int x :: st) S P I Q := by
  subst hl'
  intro p e R s m args below meth c Z hC hR H locs cells slots ls h1 h2 h3 h4 hl
  exact lv_istore hC.1 hC.2.1 hd hl hn rfl (fun ls hl => K p e R s m args below meth c Z hC hR H locs cells slots ls h1 h2 h3 h4 (lset_has hl))
theorem B.astore {i : Nat} {x : Nat} {lv' : List (Nat × Value)} (hd : decode (mC M) pc = .ok (.astore i, 2)) (hn : i < mX M) (hl' : lset lv i (.ref x) = lv') (K : B g M rc rs (pc + 2) lv' st S P I Q) : B g M rc rs pc lv (.ref x :: st) S P I Q := by
  subst hl'
  intro p e R s m args below meth c Z hC hR H locs cells slots ls h1 h2 h3 h4 hl
  exact lv_astore hC.1 hC.2.1 hd hl hn rfl (fun ls hl => K p e R s m args below meth c Z hC hR H locs cells slots ls h1 h2 h3 h4 (lset_has hl))
theorem B.iinc {i : Nat} {n : Int} {x : Int32} {lv' : List (Nat × Value)} (k : Nat) (v : Int32) (hd : decode (mC M) pc = .ok (.iinc i n, 3)) (hk : lv[k]? = some (i, .int x)) (hv : x + Int32.ofInt n = v) (hn : i < mX M) (hl' : lset lv i (.int v) = lv') (K : B g M rc rs (pc + 3) lv' st S P I Q) : B g M rc rs pc lv st S P I Q := by
  subst hl'
  intro p e R s m args below meth c Z hC hR H locs cells slots ls h1 h2 h3 h4 hl
  exact lv_iinc hC.1 hC.2.1 hd hl hk hv hn rfl (fun ls hl => K p e R s m args below meth c Z hC hR H locs cells slots ls h1 h2 h3 h4 (lset_has hl))
theorem B.iconst {n : Int} (v : Int32) (hd : decode (mC M) pc = .ok (.iconst n, 1)) (hv : Int32.ofInt n = v) (K : B g M rc rs (pc + 1) lv (.int v :: st) S P I Q) : B g M rc rs pc lv st S P I Q := by
  intro p e R s m args below meth c Z hC hR H locs cells slots ls h1 h2 h3 h4 hl
  exact lv_iconst hC.1 hC.2.1 hd hv (K p e R s m args below meth c Z hC hR H locs cells slots ls h1 h2 h3 h4 hl)
theorem B.bipush {n : Int} (v : Int32) (hd : decode (mC M) pc = .ok (.bipush n, 2)) (hv : (Int8.ofInt n).toInt32 = v) (K : B g M rc rs (pc + 2) lv (.int v :: st) S P I Q) : B g M rc rs pc lv st S P I Q := by
  intro p e R s m args below meth c Z hC hR H locs cells slots ls h1 h2 h3 h4 hl
  exact lv_bipush hC.1 hC.2.1 hd hv (K p e R s m args below meth c Z hC hR H locs cells slots ls h1 h2 h3 h4 hl)
theorem B.sipush {n : Int} (v : Int32) (hd : decode (mC M) pc = .ok (.sipush n, 3)) (hv : (Int16.ofInt n).toInt32 = v) (K : B g M rc rs (pc + 3) lv (.int v :: st) S P I Q) : B g M rc rs pc lv st S P I Q := by
  intro p e R s m args below meth c Z hC hR H locs cells slots ls h1 h2 h3 h4 hl
  exact lv_sipush hC.1 hC.2.1 hd hv (K p e R s m args below meth c Z hC hR H locs cells slots ls h1 h2 h3 h4 hl)
theorem B.iadd {x y : Int32} (hd : decode (mC M) pc = .ok (.iadd, 1)) (K : B g M rc rs (pc + 1) lv (.int (x + y) :: st) S P I Q) : B g M rc rs pc lv (.int y :: .int x :: st) S P I Q := by
  intro p e R s m args below meth c Z hC hR H locs cells slots ls h1 h2 h3 h4 hl
  exact lv_iadd hC.1 hC.2.1 hd (K p e R s m args below meth c Z hC hR H locs cells slots ls h1 h2 h3 h4 hl)
theorem B.isub {x y : Int32} (hd : decode (mC M) pc = .ok (.isub, 1)) (K : B g M rc rs (pc + 1) lv (.int (x - y) :: st) S P I Q) : B g M rc rs pc lv (.int y :: .int x :: st) S P I Q := by
  intro p e R s m args below meth c Z hC hR H locs cells slots ls h1 h2 h3 h4 hl
  exact lv_isub hC.1 hC.2.1 hd (K p e R s m args below meth c Z hC hR H locs cells slots ls h1 h2 h3 h4 hl)
theorem B.imul {x y : Int32} (hd : decode (mC M) pc = .ok (.imul, 1)) (K : B g M rc rs (pc + 1) lv (.int (x * y) :: st) S P I Q) : B g M rc rs pc lv (.int y :: .int x :: st) S P I Q := by
  intro p e R s m args below meth c Z hC hR H locs cells slots ls h1 h2 h3 h4 hl
  exact lv_imul hC.1 hC.2.1 hd (K p e R s m args below meth c Z hC hR H locs cells slots ls h1 h2 h3 h4 hl)
theorem B.iand {x y : Int32} (hd : decode (mC M) pc = .ok (.iand, 1)) (K : B g M rc rs (pc + 1) lv (.int (x &&& y) :: st) S P I Q) : B g M rc rs pc lv (.int y :: .int x :: st) S P I Q := by
  intro p e R s m args below meth c Z hC hR H locs cells slots ls h1 h2 h3 h4 hl
  exact lv_iand hC.1 hC.2.1 hd (K p e R s m args below meth c Z hC hR H locs cells slots ls h1 h2 h3 h4 hl)
theorem B.ishl {x y : Int32} (hd : decode (mC M) pc = .ok (.ishl, 1)) (K : B g M rc rs (pc + 1) lv (.int (x <<< (y &&& 31)) :: st) S P I Q) : B g M rc rs pc lv (.int y :: .int x :: st) S P I Q := by
  intro p e R s m args below meth c Z hC hR H locs cells slots ls h1 h2 h3 h4 hl
  exact lv_ishl hC.1 hC.2.1 hd (K p e R s m args below meth c Z hC hR H locs cells slots ls h1 h2 h3 h4 hl)
theorem B.ishr {x y : Int32} (hd : decode (mC M) pc = .ok (.ishr, 1)) (K : B g M rc rs (pc + 1) lv (.int (x >>> (y &&& 31)) :: st) S P I Q) : B g M rc rs pc lv (.int y :: .int x :: st) S P I Q := by
  intro p e R s m args below meth c Z hC hR H locs cells slots ls h1 h2 h3 h4 hl
  exact lv_ishr hC.1 hC.2.1 hd (K p e R s m args below meth c Z hC hR H locs cells slots ls h1 h2 h3 h4 hl)
theorem B.ladd {x y : Int64} (hd : decode (mC M) pc = .ok (.ladd, 1)) (K : B g M rc rs (pc + 1) lv (.long (x + y) :: st) S P I Q) : B g M rc rs pc lv (.long y :: .long x :: st) S P I Q := by
  intro p e R s m args below meth c Z hC hR H locs cells slots ls h1 h2 h3 h4 hl
  exact lv_ladd hC.1 hC.2.1 hd (K p e R s m args below meth c Z hC hR H locs cells slots ls h1 h2 h3 h4 hl)
theorem B.lsub {x y : Int64} (hd : decode (mC M) pc = .ok (.lsub, 1)) (K : B g M rc rs (pc + 1) lv (.long (x - y) :: st) S P I Q) : B g M rc rs pc lv (.long y :: .long x :: st) S P I Q := by
  intro p e R s m args below meth c Z hC hR H locs cells slots ls h1 h2 h3 h4 hl
  exact lv_lsub hC.1 hC.2.1 hd (K p e R s m args below meth c Z hC hR H locs cells slots ls h1 h2 h3 h4 hl)
theorem B.lmul {x y : Int64} (hd : decode (mC M) pc = .ok (.lmul, 1)) (K : B g M rc rs (pc + 1) lv (.long (x * y) :: st) S P I Q) : B g M rc rs pc lv (.long y :: .long x :: st) S P I Q := by
  intro p e R s m args below meth c Z hC hR H locs cells slots ls h1 h2 h3 h4 hl
  exact lv_lmul hC.1 hC.2.1 hd (K p e R s m args below meth c Z hC hR H locs cells slots ls h1 h2 h3 h4 hl)
theorem B.idiv {x y : Int32} (hd : decode (mC M) pc = .ok (.idiv, 1)) (hne : ¬ y = 0) (K : B g M rc rs (pc + 1) lv (.int (x / y) :: st) S P I Q) : B g M rc rs pc lv (.int y :: .int x :: st) S P I Q := by
  intro p e R s m args below meth c Z hC hR H locs cells slots ls h1 h2 h3 h4 hl
  exact lv_idiv hC.1 hC.2.1 hd hne (K p e R s m args below meth c Z hC hR H locs cells slots ls h1 h2 h3 h4 hl)
theorem B.irem {x y : Int32} (hd : decode (mC M) pc = .ok (.irem, 1)) (hne : ¬ y = 0) (K : B g M rc rs (pc + 1) lv (.int (x - x / y * y) :: st) S P I Q) : B g M rc rs pc lv (.int y :: .int x :: st) S P I Q := by
  intro p e R s m args below meth c Z hC hR H locs cells slots ls h1 h2 h3 h4 hl
  exact lv_irem hC.1 hC.2.1 hd hne (K p e R s m args below meth c Z hC hR H locs cells slots ls h1 h2 h3 h4 hl)
theorem B.ineg {x : Int32} (hd : decode (mC M) pc = .ok (.ineg, 1)) (K : B g M rc rs (pc + 1) lv (.int (-x) :: st) S P I Q) : B g M rc rs pc lv (.int x :: st) S P I Q := by
  intro p e R s m args below meth c Z hC hR H locs cells slots ls h1 h2 h3 h4 hl
  exact lv_ineg hC.1 hC.2.1 hd (K p e R s m args below meth c Z hC hR H locs cells slots ls h1 h2 h3 h4 hl)
theorem B.iushr {x y : Int32} (hd : decode (mC M) pc = .ok (.iushr, 1)) (K : B g M rc rs (pc + 1) lv (.int ((x.toUInt32 >>> (y.toUInt32 &&& Int32.toUInt32 31)).toInt32) :: st) S P I Q) : B g M rc rs pc lv (.int y :: .int x :: st) S P I Q := by
  intro p e R s m args below meth c Z hC hR H locs cells slots ls h1 h2 h3 h4 hl
  exact lv_iushr hC.1 hC.2.1 hd rfl (K p e R s m args below meth c Z hC hR H locs cells slots ls h1 h2 h3 h4 hl)
theorem B.i2l {x : Int32} (hd : decode (mC M) pc = .ok (.i2l, 1)) (K : B g M rc rs (pc + 1) lv (.long x.toInt64 :: st) S P I Q) : B g M rc rs pc lv (.int x :: st) S P I Q := by
  intro p e R s m args below meth c Z hC hR H locs cells slots ls h1 h2 h3 h4 hl
  exact lv_i2l hC.1 hC.2.1 hd rfl (K p e R s m args below meth c Z hC hR H locs cells slots ls h1 h2 h3 h4 hl)
theorem B.i2b {x : Int32} (hd : decode (mC M) pc = .ok (.i2b, 1)) (K : B g M rc rs (pc + 1) lv (.int x.toInt8.toInt32 :: st) S P I Q) : B g M rc rs pc lv (.int x :: st) S P I Q := by
  intro p e R s m args below meth c Z hC hR H locs cells slots ls h1 h2 h3 h4 hl
  exact lv_i2b hC.1 hC.2.1 hd rfl (K p e R s m args below meth c Z hC hR H locs cells slots ls h1 h2 h3 h4 hl)
theorem B.lcmp {x y : Int64} (hd : decode (mC M) pc = .ok (.lcmp, 1)) (K : B g M rc rs (pc + 1) lv (.int (lg_cmp x y) :: st) S P I Q) : B g M rc rs pc lv (.long y :: .long x :: st) S P I Q := by
  intro p e R s m args below meth c Z hC hR H locs cells slots ls h1 h2 h3 h4 hl
  exact W.lcmp hC.1 hC.2.1 hd (K p e R s m args below meth c Z hC hR H locs cells slots ls h1 h2 h3 h4 hl)
theorem B.lconst {n : Fin 2} (v : Int64) (hd : decode (mC M) pc = .ok (.lconst n, 1)) (hv : Int64.ofNat n = v) (K : B g M rc rs (pc + 1) lv (.long v :: st) S P I Q) : B g M rc rs pc lv st S P I Q := by
  intro p e R s m args below meth c Z hC hR H locs cells slots ls h1 h2 h3 h4 hl
  exact lv_lconst hC.1 hC.2.1 hd hv (K p e R s m args below meth c Z hC hR H locs cells slots ls h1 h2 h3 h4 hl)
theorem B.ldc {ix : Nat} (v : Int32) (hd : decode (mC M) pc = .ok (.ldc ix, 2)) (hw : Cond.constant (mY M).cls ix v ∈ gws) (K : B g M rc rs (pc + 2) lv (.int v :: st) S P I Q) : B g M rc rs pc lv st S P I Q := by
  intro p e R s m args below meth c Z hC hR H locs cells slots ls h1 h2 h3 h4 hl
  exact lv_ldc hC.1 hC.2.1 hC.2.2.2.2.1 (hC.2.2.2.2.2.1 _ hw) hd (K p e R s m args below meth c Z hC hR H locs cells slots ls h1 h2 h3 h4 hl)
theorem B.ldc2 {ix : Nat} (v : Int64) (hd : decode (mC M) pc = .ok (.ldc2_w ix, 3)) (hw : Cond.constantLong (mY M).cls ix v ∈ gws) (K : B g M rc rs (pc + 3) lv (.long v :: st) S P I Q) : B g M rc rs pc lv st S P I Q := by
  intro p e R s m args below meth c Z hC hR H locs cells slots ls h1 h2 h3 h4 hl
  exact W.ldc2 hC.1 hC.2.1 hC.2.2.2.2.1 (hC.2.2.2.2.2.1 _ hw) rfl hd (K p e R s m args below meth c Z hC hR H locs cells slots ls h1 h2 h3 h4 hl)
theorem B.dup {va : Value} (hd : decode (mC M) pc = .ok (.dup, 1)) (hva : va.category = 1) (K : B g M rc rs (pc + 1) lv (va :: va :: st) S P I Q) : B g M rc rs pc lv (va :: st) S P I Q := by
  intro p e R s m args below meth c Z hC hR H locs cells slots ls h1 h2 h3 h4 hl
  exact lv_dup hC.1 hC.2.1 hd hva (K p e R s m args below meth c Z hC hR H locs cells slots ls h1 h2 h3 h4 hl)
theorem B.dup2 {va vb : Value} (hd : decode (mC M) pc = .ok (.dup2, 1)) (hva : va.category = 1) (hvb : vb.category = 1) (K : B g M rc rs (pc + 1) lv (va :: vb :: va :: vb :: st) S P I Q) : B g M rc rs pc lv (va :: vb :: st) S P I Q := by
  intro p e R s m args below meth c Z hC hR H locs cells slots ls h1 h2 h3 h4 hl
  exact lv_dup2_11 hC.1 hC.2.1 hd hva hvb (K p e R s m args below meth c Z hC hR H locs cells slots ls h1 h2 h3 h4 hl)
theorem B.if_eq {x : Int32} {off : Int} (tgt : Nat) (hd : decode (mC M) pc = .ok (.ifCond .eq off, 3)) (ht : (pc : Int) + off = (tgt : Int)) (KT : x = 0 → B g M rc rs tgt lv st S P I Q) (KF : ¬ (x = 0) → B g M rc rs (pc + 3) lv st S P I Q) : B g M rc rs pc lv (.int x :: st) S P I Q := by
  intro p e R s m args below meth c Z hC hR H locs cells slots ls h1 h2 h3 h4 hl
  exact lv_if_eq hC.1 hC.2.1 hd ht (fun q => KT q p e R s m args below meth c Z hC hR H locs cells slots ls h1 h2 h3 h4 hl) (fun q => KF q p e R s m args below meth c Z hC hR H locs cells slots ls h1 h2 h3 h4 hl)
theorem B.icmp_eq {x y : Int32} {off : Int} (tgt : Nat) (hd : decode (mC M) pc = .ok (.if_icmp .eq off, 3)) (ht : (pc : Int) + off = (tgt : Int)) (KT : x = y → B g M rc rs tgt lv st S P I Q) (KF : ¬ (x = y) → B g M rc rs (pc + 3) lv st S P I Q) : B g M rc rs pc lv (.int y :: .int x :: st) S P I Q := by
  intro p e R s m args below meth c Z hC hR H locs cells slots ls h1 h2 h3 h4 hl
  exact lv_icmp_eq hC.1 hC.2.1 hd ht (fun q => KT q p e R s m args below meth c Z hC hR H locs cells slots ls h1 h2 h3 h4 hl) (fun q => KF q p e R s m args below meth c Z hC hR H locs cells slots ls h1 h2 h3 h4 hl)
theorem B.if_ne {x : Int32} {off : Int} (tgt : Nat) (hd : decode (mC M) pc = .ok (.ifCond .ne off, 3)) (ht : (pc : Int) + off = (tgt : Int)) (KT : ¬ x = 0 → B g M rc rs tgt lv st S P I Q) (KF : x = 0 → B g M rc rs (pc + 3) lv st S P I Q) : B g M rc rs pc lv (.int x :: st) S P I Q := by
  intro p e R s m args below meth c Z hC hR H locs cells slots ls h1 h2 h3 h4 hl
  exact lv_if_ne hC.1 hC.2.1 hd ht (fun q => KT q p e R s m args below meth c Z hC hR H locs cells slots ls h1 h2 h3 h4 hl) (fun q => KF q p e R s m args below meth c Z hC hR H locs cells slots ls h1 h2 h3 h4 hl)
theorem B.icmp_ne {x y : Int32} {off : Int} (tgt : Nat) (hd : decode (mC M) pc = .ok (.if_icmp .ne off, 3)) (ht : (pc : Int) + off = (tgt : Int)) (KT : ¬ x = y → B g M rc rs tgt lv st S P I Q) (KF : x = y → B g M rc rs (pc + 3) lv st S P I Q) : B g M rc rs pc lv (.int y :: .int x :: st) S P I Q := by
  intro p e R s m args below meth c Z hC hR H locs cells slots ls h1 h2 h3 h4 hl
  exact lv_icmp_ne hC.1 hC.2.1 hd ht (fun q => KT q p e R s m args below meth c Z hC hR H locs cells slots ls h1 h2 h3 h4 hl) (fun q => KF q p e R s m args below meth c Z hC hR H locs cells slots ls h1 h2 h3 h4 hl)
theorem B.if_lt {x : Int32} {off : Int} (tgt : Nat) (hd : decode (mC M) pc = .ok (.ifCond .lt off, 3)) (ht : (pc : Int) + off = (tgt : Int)) (KT : x < 0 → B g M rc rs tgt lv st S P I Q) (KF : ¬ (x < 0) → B g M rc rs (pc + 3) lv st S P I Q) : B g M rc rs pc lv (.int x :: st) S P I Q := by
  intro p e R s m args below meth c Z hC hR H locs cells slots ls h1 h2 h3 h4 hl
  exact lv_if_lt hC.1 hC.2.1 hd ht (fun q => KT q p e R s m args below meth c Z hC hR H locs cells slots ls h1 h2 h3 h4 hl) (fun q => KF q p e R s m args below meth c Z hC hR H locs cells slots ls h1 h2 h3 h4 hl)
theorem B.icmp_lt {x y : Int32} {off : Int} (tgt : Nat) (hd : decode (mC M) pc = .ok (.if_icmp .lt off, 3)) (ht : (pc : Int) + off = (tgt : Int)) (KT : x < y → B g M rc rs tgt lv st S P I Q) (KF : ¬ (x < y) → B g M rc rs (pc + 3) lv st S P I Q) : B g M rc rs pc lv (.int y :: .int x :: st) S P I Q := by
  intro p e R s m args below meth c Z hC hR H locs cells slots ls h1 h2 h3 h4 hl
  exact lv_icmp_lt hC.1 hC.2.1 hd ht (fun q => KT q p e R s m args below meth c Z hC hR H locs cells slots ls h1 h2 h3 h4 hl) (fun q => KF q p e R s m args below meth c Z hC hR H locs cells slots ls h1 h2 h3 h4 hl)
theorem B.if_ge {x : Int32} {off : Int} (tgt : Nat) (hd : decode (mC M) pc = .ok (.ifCond .ge off, 3)) (ht : (pc : Int) + off = (tgt : Int)) (KT : 0 ≤ x → B g M rc rs tgt lv st S P I Q) (KF : ¬ (0 ≤ x) → B g M rc rs (pc + 3) lv st S P I Q) : B g M rc rs pc lv (.int x :: st) S P I Q := by
  intro p e R s m args below meth c Z hC hR H locs cells slots ls h1 h2 h3 h4 hl
  exact lv_if_ge hC.1 hC.2.1 hd ht (fun q => KT q p e R s m args below meth c Z hC hR H locs cells slots ls h1 h2 h3 h4 hl) (fun q => KF q p e R s m args below meth c Z hC hR H locs cells slots ls h1 h2 h3 h4 hl)
theorem B.icmp_ge {x y : Int32} {off : Int} (tgt : Nat) (hd : decode (mC M) pc = .ok (.if_icmp .ge off, 3)) (ht : (pc : Int) + off = (tgt : Int)) (KT : y ≤ x → B g M rc rs tgt lv st S P I Q) (KF : ¬ (y ≤ x) → B g M rc rs (pc + 3) lv st S P I Q) : B g M rc rs pc lv (.int y :: .int x :: st) S P I Q := by
  intro p e R s m args below meth c Z hC hR H locs cells slots ls h1 h2 h3 h4 hl
  exact lv_icmp_ge hC.1 hC.2.1 hd ht (fun q => KT q p e R s m args below meth c Z hC hR H locs cells slots ls h1 h2 h3 h4 hl) (fun q => KF q p e R s m args below meth c Z hC hR H locs cells slots ls h1 h2 h3 h4 hl)
theorem B.if_gt {x : Int32} {off : Int} (tgt : Nat) (hd : decode (mC M) pc = .ok (.ifCond .gt off, 3)) (ht : (pc : Int) + off = (tgt : Int)) (KT : 0 < x → B g M rc rs tgt lv st S P I Q) (KF : ¬ (0 < x) → B g M rc rs (pc + 3) lv st S P I Q) : B g M rc rs pc lv (.int x :: st) S P I Q := by
  intro p e R s m args below meth c Z hC hR H locs cells slots ls h1 h2 h3 h4 hl
  exact lv_if_gt hC.1 hC.2.1 hd ht (fun q => KT q p e R s m args below meth c Z hC hR H locs cells slots ls h1 h2 h3 h4 hl) (fun q => KF q p e R s m args below meth c Z hC hR H locs cells slots ls h1 h2 h3 h4 hl)
theorem B.icmp_gt {x y : Int32} {off : Int} (tgt : Nat) (hd : decode (mC M) pc = .ok (.if_icmp .gt off, 3)) (ht : (pc : Int) + off = (tgt : Int)) (KT : y < x → B g M rc rs tgt lv st S P I Q) (KF : ¬ (y < x) → B g M rc rs (pc + 3) lv st S P I Q) : B g M rc rs pc lv (.int y :: .int x :: st) S P I Q := by
  intro p e R s m args below meth c Z hC hR H locs cells slots ls h1 h2 h3 h4 hl
  exact lv_icmp_gt hC.1 hC.2.1 hd ht (fun q => KT q p e R s m args below meth c Z hC hR H locs cells slots ls h1 h2 h3 h4 hl) (fun q => KF q p e R s m args below meth c Z hC hR H locs cells slots ls h1 h2 h3 h4 hl)
theorem B.if_le {x : Int32} {off : Int} (tgt : Nat) (hd : decode (mC M) pc = .ok (.ifCond .le off, 3)) (ht : (pc : Int) + off = (tgt : Int)) (KT : x ≤ 0 → B g M rc rs tgt lv st S P I Q) (KF : ¬ (x ≤ 0) → B g M rc rs (pc + 3) lv st S P I Q) : B g M rc rs pc lv (.int x :: st) S P I Q := by
  intro p e R s m args below meth c Z hC hR H locs cells slots ls h1 h2 h3 h4 hl
  exact lv_if_le hC.1 hC.2.1 hd ht (fun q => KT q p e R s m args below meth c Z hC hR H locs cells slots ls h1 h2 h3 h4 hl) (fun q => KF q p e R s m args below meth c Z hC hR H locs cells slots ls h1 h2 h3 h4 hl)
theorem B.icmp_le {x y : Int32} {off : Int} (tgt : Nat) (hd : decode (mC M) pc = .ok (.if_icmp .le off, 3)) (ht : (pc : Int) + off = (tgt : Int)) (KT : x ≤ y → B g M rc rs tgt lv st S P I Q) (KF : ¬ (x ≤ y) → B g M rc rs (pc + 3) lv st S P I Q) : B g M rc rs pc lv (.int y :: .int x :: st) S P I Q := by
  intro p e R s m args below meth c Z hC hR H locs cells slots ls h1 h2 h3 h4 hl
  exact lv_icmp_le hC.1 hC.2.1 hd ht (fun q => KT q p e R s m args below meth c Z hC hR H locs cells slots ls h1 h2 h3 h4 hl) (fun q => KF q p e R s m args below meth c Z hC hR H locs cells slots ls h1 h2 h3 h4 hl)
theorem B.goto_ {off : Int} (tgt : Nat) (hd : decode (mC M) pc = .ok (.goto off, 3)) (ht : (pc : Int) + off = (tgt : Int)) (K : B g M rc rs tgt lv st S P I Q) : B g M rc rs pc lv st S P I Q := by
  intro p e R s m args below meth c Z hC hR H locs cells slots ls h1 h2 h3 h4 hl
  exact lv_goto hC.1 hC.2.1 hd ht (K p e R s m args below meth c Z hC hR H locs cells slots ls h1 h2 h3 h4 hl)
theorem B.ifnonnull {x : Nat} {off : Int} (tgt : Nat) (hd : decode (mC M) pc = .ok (.ifnonnull off, 3)) (ht : (pc : Int) + off = (tgt : Int)) (KT : ∀ y : Nat, x = y + 1 → B g M rc rs tgt lv st S P I Q) (KF : x = 0 → B g M rc rs (pc + 3) lv st S P I Q) : B g M rc rs pc lv (rv x :: st) S P I Q := by
  intro p e R s m args below meth c Z hC hR H locs cells slots ls h1 h2 h3 h4 hl
  cases x with
  | zero => exact lv_ifnonnullN hC.1 hC.2.1 hd (KF rfl p e R s m args below meth c Z hC hR H locs cells slots ls h1 h2 h3 h4 hl)
  | succ y => exact lv_ifnonnull hC.1 hC.2.1 hd ht (KT y rfl p e R s m args below meth c Z hC hR H locs cells slots ls h1 h2 h3 h4 hl)
theorem B.tableIn {dflt lo hi : Int} {offs : Array Int} {len : Nat} {x : Int32} {off : Int} (tgt : Nat) (hd : decode (mC M) pc = .ok (.tableswitch dflt lo hi offs, len)) (q1 : ¬ x.toInt < lo) (q2 : ¬ hi < x.toInt) (ho : offs[(x.toInt - lo).toNat]? = some off) (ht : (pc : Int) + off = (tgt : Int)) (K : B g M rc rs tgt lv st S P I Q) : B g M rc rs pc lv (.int x :: st) S P I Q := by
  intro p e R s m args below meth c Z hC hR H locs cells slots ls h1 h2 h3 h4 hl
  exact lv_tableIn hC.1 hC.2.1 hd q1 q2 ho ht (K p e R s m args below meth c Z hC hR H locs cells slots ls h1 h2 h3 h4 hl)
theorem B.tableOut {dflt lo hi : Int} {offs : Array Int} {len : Nat} {x : Int32} (tgt : Nat) (hd : decode (mC M) pc = .ok (.tableswitch dflt lo hi offs, len)) (q1 : x.toInt < lo ∨ hi < x.toInt) (ht : (pc : Int) + dflt = (tgt : Int)) (K : B g M rc rs tgt lv st S P I Q) : B g M rc rs pc lv (.int x :: st) S P I Q := by
  intro p e R s m args below meth c Z hC hR H locs cells slots ls h1 h2 h3 h4 hl
  exact lv_tableOut hC.1 hC.2.1 hd q1 ht (K p e R s m args below meth c Z hC hR H locs cells slots ls h1 h2 h3 h4 hl)
theorem B.lookup {dflt : Int} {ps : Array (Int × Int)} {len : Nat} {x : Int32} {off : Int} (tgt : Nat) (hd : decode (mC M) pc = .ok (.lookupswitch dflt ps, len)) (hp : (ps.toList.zip (ps.toList.drop 1)).all (fun (a, next) => a.1 < next.1) = true) (ho : Op.lookupswitch.offset ps.toList dflt x.toInt = off) (ht : (pc : Int) + off = (tgt : Int)) (K : B g M rc rs tgt lv st S P I Q) : B g M rc rs pc lv (.int x :: st) S P I Q := by
  intro p e R s m args below meth c Z hC hR H locs cells slots ls h1 h2 h3 h4 hl
  exact lv_lookup hC.1 hC.2.1 hd hp ho ht (K p e R s m args below meth c Z hC hR H locs cells slots ls h1 h2 h3 h4 hl)
theorem B.ireturn {v : Int32} {ty : FieldType} (hd : decode (mC M) pc = .ok (.ireturn, 1)) (hr : mR M = some ty) (hn : narrow ty (.int v) = .int v) (K : Q (some (.int v)) S P I) : B g M rc rs pc lv [.int v] S P I Q := by
  intro p e R s m args below meth c Z hC hR H locs cells slots ls h1 h2 h3 h4 hl
  exact hR H locs cells slots _ S P I pc ls _ h3 h4 (by omega) (by omega) K hd (Or.inl ⟨rfl, v, ty, rfl, hr, hn⟩)
theorem B.return_ (hd : decode (mC M) pc = .ok (.return_, 1)) (hr : mR M = none) (K : Q none S P I) : B g M rc rs pc lv [] S P I Q := by
  intro p e R s m args below meth c Z hC hR H locs cells slots ls h1 h2 h3 h4 hl
  exact hR H locs cells slots _ S P I pc ls _ h3 h4 (by omega) (by omega) K hd (Or.inr (Or.inl ⟨rfl, rfl, hr⟩))
theorem B.lreturn {v : Int64} (hd : decode (mC M) pc = .ok (.lreturn, 1)) (hr : mR M = some .long) (K : Q (some (.long v)) S P I) : B g M rc rs pc lv [.long v] S P I Q := by
  intro p e R s m args below meth c Z hC hR H locs cells slots ls h1 h2 h3 h4 hl
  exact hR H locs cells slots _ S P I pc ls _ h3 h4 (by omega) (by omega) K hd (Or.inr (Or.inr ⟨rfl, v, rfl, hr⟩))
end RULES
