/-! the law's own walk: the memory beside the script (at sb, sl ints sx); J: a word on the heap that the next call needs -/
def KC (H H' : Heap) : Prop := ∀ (a : Nat) (c : Cell), H[a]? = some c → ∃ c' : Cell, H'[a]? = some c' ∧ c'.cls = c.cls ∧ c'.vm = c.vm
def OC (g : GT) (H : Heap) (b ci : Nat) : Prop := ∃ c : Cell, H[b]? = some c ∧ c.vm.isStatics = false ∧ c.cls = g.2.1.1 ci
def JT : Heap → Prop := fun _ => True
theorem OC.keep {g : GT} {H H' : Heap} {b ci : Nat} (h : OC g H b ci) (hk : KC H H') : OC g H' b ci := by
  obtain ⟨c, h1, h2, h3⟩ := h
  obtain ⟨c', k1, k2, k3⟩ := hk b c h1
  exact ⟨c', k1, by rw [k3]; exact h2, k2.trans h3⟩
theorem KC.of {st t : State} {o : Outcome} {L : List Loc} {k n : Nat} (h : FrameEnd st o t L k n) : KC st.heap t.heap := by
  intro a c hc
  obtain ⟨c', h1, h2, -, -⟩ := h.2.2.2.2.2.2.2 a c hc
  refine ⟨c', h1, ?_, ?_⟩
  · rw [h2]
  · rw [h2]
section TM
variable {g : GT} {M : MT} {mc ms : Nat} {as : List Value} {S : ST} {P : PT} {I : IT} {Q Q' : QT}
theorem T.mono (h : T g M mc ms as S P I Q) (k : ∀ r S P I, Q r S P I → Q' r S P I) : T g M mc ms as S P I Q' := by
  intro p e ha hc hk s m args below hf happ hp hk'
  obtain ⟨n, o, h1, h2, h3, ⟨r, S', P', I', q1, q2, q3⟩, h5⟩ := h p e ha hc hk s m args below hf happ hp hk'
  exact ⟨n, o, h1, h2, h3, ⟨r, S', P', I', q1, q2, k _ _ _ _ q3⟩, h5⟩
theorem T.keep (h : T g M mc ms as S P I Q) : Met g.1 (mY M) (wsM M) (rmM M mc ms) (va_Pc as (fun U => Rep g S P I U.heap ∧ Kn g U)) (fun _ st o t => (∃ (r : Option Value) (S' : ST) (P' : PT) (I' : IT), o = .returned r ∧ Rep g S' P' I' t.heap ∧ Q r S' P' I') ∧ KC st.heap t.heap) mc ms (fun q => gB g ≤ q) := by
  intro p e ha hc hk s m args below hf happ hp hk'
  obtain ⟨n, o, h1, h2, h3, h4, L, hF, hL⟩ := h p e ha hc hk s m args below hf happ hp hk'
  exact ⟨n, o, h1, h2, h3, ⟨h4, KC.of hF⟩, L, hF, hL⟩
theorem Rep.oc {H : Heap} {b ci : Nat} {r : vw_C} (h : Rep g S P I H) (ht : sT S b = ci + 1) (hr : vwCl[ci]? = some r) : OC g H b ci := by
  obtain ⟨b1, b2, hat⟩ := h.2.2.2 b (by rw [ht]; omega)
  obtain ⟨cell, q1, q2, q3, q4⟩ := hat.1 ci r ht hr
  exact ⟨cell, q1, by rw [q3]; rfl, q2⟩
end TM
/-- the law's body from a pc on -/
def BL (g : GT) (M : MT) (sb sl : Nat) (sx : Nat → Int32) (J : Heap → Prop) (rc rs pc : Nat) (lv : List (Nat × Value)) (st : List Value) (S : ST) (P : PT) (I : IT) (Q : QT) : Prop :=
  ∀ (p : Program) (e : Env) (R : Room) (s : State) (m : MethodId) (args : Array Value) (below : List Frame) (meth : Method) (c : Code) (Z : State → Prop), Cx g M p R s m args meth c → va_X sb sl sx s (gH g) → RO g M p e R s m args below meth c Q Z →
  ∀ (H : Heap) (locs : List Loc) (cells slots : Nat) (ls : Array Slot), cells + rc ≤ R.cells → slots + rs ≤ R.slots → (Rep g S P I H ∧ J H) → (∀ q ∈ locs, gB g ≤ q.base) → lv_has ls (mX M) lv → W p g.1 e R s m args below meth c H locs cells slots Z (F0 m pc ls st)
section LAWR
variable {g : GT} {M : MT} {sb sl : Nat} {sx : Nat → Int32} {J J' : Heap → Prop} {rc rs pc : Nat} {lv : List (Nat × Value)} {st : List Value} {S : ST} {P : PT} {I : IT} {Q : QT} {M' : MT} {mc ms : Nat}
theorem BL.iload_n {n : Fin 4} {i : Nat} {x : Int32} (k : Nat) (hd : decode (mC M) pc = .ok (.iload_n n, 1)) (hi : (n : Nat) = i) (hk : lv[k]? = some (i, .int x)) (K : BL g M sb sl sx J rc rs (pc + 1) lv (.int x :: st) S P I Q) : BL g M sb sl sx J rc rs pc lv st S P I Q := by
  intro p e R s m args below meth c Z hC hX hR H locs cells slots ls h1 h2 h3 h4 hl
  exact lv_iload_n hC.1 hC.2.1 hd hi (lv_at hl k hk) (K p e R s m args below meth c Z hC hX hR H locs cells slots ls h1 h2 h3 h4 hl)
theorem BL.aload_n {n : Fin 4} {i : Nat} {x : Nat} (k : Nat) (hd : decode (mC M) pc = .ok (.aload_n n, 1)) (hi : (n : Nat) = i) (hk : lv[k]? = some (i, .ref x)) (K : BL g M sb sl sx J rc rs (pc + 1) lv (.ref x :: st) S P I Q) : BL g M sb sl sx J rc rs pc lv st S P I Q := by
  intro p e R s m args below meth c Z hC hX hR H locs cells slots ls h1 h2 h3 h4 hl
  exact lv_aload_n hC.1 hC.2.1 hd hi (lv_at hl k hk) (K p e R s m args below meth c Z hC hX hR H locs cells slots ls h1 h2 h3 h4 hl)
theorem BL.istore_n {n : Fin 4} {i : Nat} {x : Int32} {lv' : List (Nat × Value)} (hd : decode (mC M) pc = .ok (.istore_n n, 1)) (hi : (n : Nat) = i) (hn : i < mX M) (hl' : lset lv i (.int x) = lv') (K : BL g M sb sl sx J rc rs (pc + 1) lv' st S P I Q) : BL g M sb sl sx J rc rs pc lv (.int x :: st) S P I Q := by
  subst hl'
  intro p e R s m args below meth c Z hC hX hR H locs cells slots ls h1 h2 h3 h4 hl
  exact lv_istore_n hC.1 hC.2.1 hd hi hl hn rfl (fun ls hl => K p e R s m args below meth c Z hC hX hR H locs cells slots ls h1 h2 h3 h4 (lset_has hl))
theorem BL.astore_n {n : Fin 4} {i : Nat} {x : Nat} {lv' : List (Nat × Value)} (hd : decode (mC M) pc = .ok (.astore_n n, 1)) (hi : (n : Nat) = i) (hn : i < mX M) (hl' : lset lv i (.ref x) = lv') (K : BL g M sb sl sx J rc rs (pc + 1) lv' st S P I Q) : BL g M sb sl sx J rc rs pc lv (.ref x :: st) S P I Q := by
  subst hl'
  intro p e R s m args below meth c Z hC hX hR H locs cells slots ls h1 h2 h3 h4 hl
  exact lv_astore_n hC.1 hC.2.1 hd hi hl hn rfl (fun ls hl => K p e R s m args below meth c Z hC hX hR H locs cells slots ls h1 h2 h3 h4 (lset_has hl))
theorem BL.iinc {i : Nat} {n : Int} {x : Int32} {lv' : List (Nat × Value)} (k : Nat) (v : Int32) (hd : decode (mC M) pc = .ok (.iinc i n, 3)) (hk : lv[k]? = some (i, .int x)) (hv : x + Int32.ofInt n = v) (hn : i < mX M) (hl' : lset lv i (.int v) = lv') (K : BL g M sb sl sx J rc rs (pc + 3) lv' st S P I Q) : BL g M sb sl sx J rc rs pc lv st S P I Q := by
  subst hl'
  intro p e R s m args below meth c Z hC hX hR H locs cells slots ls h1 h2 h3 h4 hl
  exact lv_iinc hC.1 hC.2.1 hd hl hk hv hn rfl (fun ls hl => K p e R s m args below meth c Z hC hX hR H locs cells slots ls h1 h2 h3 h4 (lset_has hl))
theorem BL.iconst {n : Int} (v : Int32) (hd : decode (mC M) pc = .ok (.iconst n, 1)) (hv : Int32.ofInt n = v) (K : BL g M sb sl sx J rc rs (pc + 1) lv (.int v :: st) S P I Q) : BL g M sb sl sx J rc rs pc lv st S P I Q := by
  intro p e R s m args below meth c Z hC hX hR H locs cells slots ls h1 h2 h3 h4 hl
  exact lv_iconst hC.1 hC.2.1 hd hv (K p e R s m args below meth c Z hC hX hR H locs cells slots ls h1 h2 h3 h4 hl)
theorem BL.bipush {n : Int} (v : Int32) (hd : decode (mC M) pc = .ok (.bipush n, 2)) (hv : (Int8.ofInt n).toInt32 = v) (K : BL g M sb sl sx J rc rs (pc + 2) lv (.int v :: st) S P I Q) : BL g M sb sl sx J rc rs pc lv st S P I Q := by
  intro p e R s m args below meth c Z hC hX hR H locs cells slots ls h1 h2 h3 h4 hl
  exact lv_bipush hC.1 hC.2.1 hd hv (K p e R s m args below meth c Z hC hX hR H locs cells slots ls h1 h2 h3 h4 hl)
theorem BL.iadd {x y : Int32} (hd : decode (mC M) pc = .ok (.iadd, 1)) (K : BL g M sb sl sx J rc rs (pc + 1) lv (.int (x + y) :: st) S P I Q) : BL g M sb sl sx J rc rs pc lv (.int y :: .int x :: st) S P I Q := by
  intro p e R s m args below meth c Z hC hX hR H locs cells slots ls h1 h2 h3 h4 hl
  exact lv_iadd hC.1 hC.2.1 hd (K p e R s m args below meth c Z hC hX hR H locs cells slots ls h1 h2 h3 h4 hl)
theorem BL.isub {x y : Int32} (hd : decode (mC M) pc = .ok (.isub, 1)) (K : BL g M sb sl sx J rc rs (pc + 1) lv (.int (x - y) :: st) S P I Q) : BL g M sb sl sx J rc rs pc lv (.int y :: .int x :: st) S P I Q := by
  intro p e R s m args below meth c Z hC hX hR H locs cells slots ls h1 h2 h3 h4 hl
  exact lv_isub hC.1 hC.2.1 hd (K p e R s m args below meth c Z hC hX hR H locs cells slots ls h1 h2 h3 h4 hl)
theorem BL.iand {x y : Int32} (hd : decode (mC M) pc = .ok (.iand, 1)) (K : BL g M sb sl sx J rc rs (pc + 1) lv (.int (x &&& y) :: st) S P I Q) : BL g M sb sl sx J rc rs pc lv (.int y :: .int x :: st) S P I Q := by
  intro p e R s m args below meth c Z hC hX hR H locs cells slots ls h1 h2 h3 h4 hl
  exact lv_iand hC.1 hC.2.1 hd (K p e R s m args below meth c Z hC hX hR H locs cells slots ls h1 h2 h3 h4 hl)
theorem BL.dup {va : Value} (hd : decode (mC M) pc = .ok (.dup, 1)) (hva : va.category = 1) (K : BL g M sb sl sx J rc rs (pc + 1) lv (va :: va :: st) S P I Q) : BL g M sb sl sx J rc rs pc lv (va :: st) S P I Q := by
  intro p e R s m args below meth c Z hC hX hR H locs cells slots ls h1 h2 h3 h4 hl
  exact lv_dup hC.1 hC.2.1 hd hva (K p e R s m args below meth c Z hC hX hR H locs cells slots ls h1 h2 h3 h4 hl)
theorem BL.icmp_eq {x y : Int32} {off : Int} (tgt : Nat) (hd : decode (mC M) pc = .ok (.if_icmp .eq off, 3)) (ht : (pc : Int) + off = (tgt : Int)) (KT : x = y → BL g M sb sl sx J rc rs tgt lv st S P I Q) (KF : ¬ (x = y) → BL g M sb sl sx J rc rs (pc + 3) lv st S P I Q) : BL g M sb sl sx J rc rs pc lv (.int y :: .int x :: st) S P I Q := by
  intro p e R s m args below meth c Z hC hX hR H locs cells slots ls h1 h2 h3 h4 hl
  exact lv_icmp_eq hC.1 hC.2.1 hd ht (fun q => KT q p e R s m args below meth c Z hC hX hR H locs cells slots ls h1 h2 h3 h4 hl) (fun q => KF q p e R s m args below meth c Z hC hX hR H locs cells slots ls h1 h2 h3 h4 hl)
theorem BL.icmp_gt {x y : Int32} {off : Int} (tgt : Nat) (hd : decode (mC M) pc = .ok (.if_icmp .gt off, 3)) (ht : (pc : Int) + off = (tgt : Int)) (KT : y < x → BL g M sb sl sx J rc rs tgt lv st S P I Q) (KF : ¬ (y < x) → BL g M sb sl sx J rc rs (pc + 3) lv st S P I Q) : BL g M sb sl sx J rc rs pc lv (.int y :: .int x :: st) S P I Q := by
  intro p e R s m args below meth c Z hC hX hR H locs cells slots ls h1 h2 h3 h4 hl
  exact lv_icmp_gt hC.1 hC.2.1 hd ht (fun q => KT q p e R s m args below meth c Z hC hX hR H locs cells slots ls h1 h2 h3 h4 hl) (fun q => KF q p e R s m args below meth c Z hC hX hR H locs cells slots ls h1 h2 h3 h4 hl)
theorem BL.goto_ {off : Int} (tgt : Nat) (hd : decode (mC M) pc = .ok (.goto off, 3)) (ht : (pc : Int) + off = (tgt : Int)) (K : BL g M sb sl sx J rc rs tgt lv st S P I Q) : BL g M sb sl sx J rc rs pc lv st S P I Q := by
  intro p e R s m args below meth c Z hC hX hR H locs cells slots ls h1 h2 h3 h4 hl
  exact lv_goto hC.1 hC.2.1 hd ht (K p e R s m args below meth c Z hC hX hR H locs cells slots ls h1 h2 h3 h4 hl)
theorem BL.tableIn {dflt lo hi : Int} {offs : Array Int} {len : Nat} {x : Int32} {off : Int} (tgt : Nat) (hd : decode (mC M) pc = .ok (.tableswitch dflt lo hi offs, len)) (q1 : ¬ x.toInt < lo) (q2 : ¬ hi < x.toInt) (ho : offs[(x.toInt - lo).toNat]? = some off) (ht : (pc : Int) + off = (tgt : Int)) (K : BL g M sb sl sx J rc rs tgt lv st S P I Q) : BL g M sb sl sx J rc rs pc lv (.int x :: st) S P I Q := by
  intro p e R s m args below meth c Z hC hX hR H locs cells slots ls h1 h2 h3 h4 hl
  exact lv_tableIn hC.1 hC.2.1 hd q1 q2 ho ht (K p e R s m args below meth c Z hC hX hR H locs cells slots ls h1 h2 h3 h4 hl)
theorem BL.tableOut {dflt lo hi : Int} {offs : Array Int} {len : Nat} {x : Int32} (tgt : Nat) (hd : decode (mC M) pc = .ok (.tableswitch dflt lo hi offs, len)) (q1 : x.toInt < lo ∨ hi < x.toInt) (ht : (pc : Int) + dflt = (tgt : Int)) (K : BL g M sb sl sx J rc rs tgt lv st S P I Q) : BL g M sb sl sx J rc rs pc lv (.int x :: st) S P I Q := by
  intro p e R s m args below meth c Z hC hX hR H locs cells slots ls h1 h2 h3 h4 hl
  exact lv_tableOut hC.1 hC.2.1 hd q1 ht (K p e R s m args below meth c Z hC hX hR H locs cells slots ls h1 h2 h3 h4 hl)
theorem BL.ireturn {v : Int32} {ty : FieldType} (hd : decode (mC M) pc = .ok (.ireturn, 1)) (hr : mR M = some ty) (hn : narrow ty (.int v) = .int v) (K : Q (some (.int v)) S P I) : BL g M sb sl sx J rc rs pc lv [.int v] S P I Q := by
  intro p e R s m args below meth c Z hC hX hR H locs cells slots ls h1 h2 h3 h4 hl
  exact hR H locs cells slots _ S P I pc ls _ h3.1 h4 (by omega) (by omega) K hd (Or.inl ⟨rfl, v, ty, rfl, hr, hn⟩)
theorem BL.newobj {x : Nat} (ci : Nat) (r : vw_C) (hr0 : vwCl[ci]? = some r) (hw1 : Cond.classLink (mY M).cls x r.1 ∈ gws) (hw2 : Cond.instantiable r.1 r.2.2 ∈ gws) (hw3 : Cond.initialized r.1 ∈ gws) (hd : decode (mC M) pc = .ok (.new x, 3)) (K : BL g M sb sl sx JT rc rs (pc + 3) lv (.ref (sN S) :: st) (sA S (ci + 1) 0) (zP P (sN S)) (zI I (sN S)) Q) : BL g M sb sl sx JT (rc + 1) (rs + r.2.2) pc lv st S P I Q := by
  intro p e R s m args below meth c Z hC hX hR H locs cells slots ls h1 h2 h3 h4 hl
  have hKn := hC.2.2.2.2.2.2.1.1.1 ci r hr0
  have hts := hC.2.2.2.2.2.1
  refine W.newcK hC.1 hC.2.1 hC.2.2.2.2.1 (hts _ hw1) (hts _ hw2) (hts _ hw3) rfl hd (by omega) (by omega) (cC := g.2.1.1 ci) hKn.2.1 (h := sN S) h3.1.1 fun H' kC e1 e2 e3 e4 => ?_
  obtain ⟨-, ty0, hty0, hdf⟩ := all_nm hr0
  refine K p e R s m args below meth c Z hC hX hR H' locs (cells + 1) (slots + r.2.2) ls (by omega) (by omega) ⟨h3.1.new e3 e4 ⟨fun ci2 r2 t2 hr => ?_, fun j t2 => ?_⟩, trivial⟩ h4 hl
  · have : ci2 = ci := by rw [sA_t, if_pos rfl] at t2; omega
    subst this
    cases hr0.symm.trans hr
    refine (u_born ty0 hts (all_in hr0) hKn e1 e2 hty0).to (fun k hk => ?_)
    rw [hdf k hk]
    simp [f_v, zP, zI, rv]
  · have hci : ci < 10 := (List.getElem?_eq_some_iff.mp hr0).1
    rw [sA_t, if_pos rfl] at t2; omega
theorem BL.less {rc' rs' : Nat} (h : BL g M sb sl sx J rc' rs' pc lv st S P I Q) (h1 : rc' ≤ rc) (h2 : rs' ≤ rs) : BL g M sb sl sx J rc rs pc lv st S P I Q :=
  fun p e R s m args below meth c Z hC hX hR H locs cells slots ls g1 g2 g3 g4 g5 => h p e R s m args below meth c Z hC hX hR H locs cells slots ls (by omega) (by omega) g3 g4 g5
theorem BL.sld {i : Int32} {j : Nat} (hd : decode (mC M) pc = .ok (.iaload, 1)) (hb : sb < gB g) (hi : ix i j sl) (K : BL g M sb sl sx J rc rs (pc + 1) lv (.int (sx j) :: st) S P I Q) : BL g M sb sl sx J rc rs pc lv (.int i :: .ref sb :: st) S P I Q := by
  intro p e R s m args below meth c Z hC hX hR H locs cells slots ls h1 h2 h3 h4 hl
  obtain ⟨scr, q1, q2, q3, q4, q5⟩ := id hX
  refine W.iald (v := .int (sx j)) hC.1 hC.2.1 (by rw [h3.1.2.2.1 sb hb]; exact q1) q2 q3 (by rw [q4]; exact hi.vp) (by rw [hi.2.1]; exact q5 _ hi.2.2) rfl rfl hd ?_
  exact K p e R s m args below meth c Z hC hX hR H locs cells slots ls h1 h2 h3 h4 hl
theorem BL.slen (hd : decode (mC M) pc = .ok (.arraylength, 1)) (hb : sb < gB g) (K : BL g M sb sl sx J rc rs (pc + 1) lv (.int (nI sl) :: st) S P I Q) : BL g M sb sl sx J rc rs pc lv (.ref sb :: st) S P I Q := by
  intro p e R s m args below meth c Z hC hX hR H locs cells slots ls h1 h2 h3 h4 hl
  obtain ⟨scr, q1, q2, q3, q4, q5⟩ := id hX
  refine W.alen (n := Int32.ofNat sl) hC.1 hC.2.1 (by rw [h3.1.2.2.1 sb hb]; exact q1) q2 (by rw [q4] <;> rfl) rfl rfl hd ?_
  exact K p e R s m args below meth c Z hC hX hR H locs cells slots ls h1 h2 h3 h4 hl
theorem BL.run_on {p : Program} {e : Env} {R : Room} {s : State} {m : MethodId} {args : Array Value} {below : List Frame} {meth : Method} {c : Code} {Z : State → Prop} {H : Heap} {locs : List Loc} {cells slots : Nat} {ls : Array Slot} {st0 : List Value}
    (hC : Cx g M p R s m args meth c) (hX : va_X sb sl sx s (gH g)) (hR : RO g M p e R s m args below meth c Q Z) (h1 : cells + (rc + mc) ≤ R.cells) (h2 : slots + (rs + ms) ≤ R.slots) (h4 : ∀ q ∈ locs, gB g ≤ q.base) (hl : lv_has ls (mX M) lv) (hJ : ∀ H', KC H H' → J' H')
    (hr : va_Run p g.1 e R s m args below meth c H locs cells slots mc ms (F0 m pc ls st0) st (fun st₀ o t => (∃ (r : Option Value) (S' : ST) (P' : PT) (I' : IT), o = .returned r ∧ Rep g S' P' I' t.heap ∧ BL g M sb sl sx J' rc rs (pc + 3) lv (r.toList ++ st) S' P' I' Q) ∧ KC st₀.heap t.heap) (fun q => gB g ≤ q)) : W p g.1 e R s m args below meth c H locs cells slots Z (F0 m pc ls st0) := by
  intro T0 hT X
  obtain ⟨v, st₀, t, T', L, h0, X', hL, e1, e2, ⟨⟨r, S', P', I', hv, hRep, hB⟩, hk⟩, go⟩ := hr T0 hT X
  cases hv
  obtain ⟨t2, a1, b1⟩ := hB p e R s m args below meth c Z hC hX hR T'.heap (locs ++ L) (cells + mc) (slots + ms) ls (by omega) (by omega) ⟨by rw [e1]; exact hRep, by rw [e1]; exact hJ _ (by rw [← h0]; exact hk)⟩ (fun q hq => by
    rcases List.mem_append.mp hq with h | h
    · exact h4 q h
    · exact hL q h) hl T' rfl X'
  exact ⟨t2, go t2 a1, b1⟩
theorem BL.callV {x n ci b : Nat} {st0 : List Value} (As : List Value) (hd : decode (mC M) pc = .ok (.invokevirtual x, 3)) (hM : MV M' n ci) (hlk : Cond.methodLink (mY M).cls x (mY M') ∈ gws) (hRM : RM M M') (hn : As.length = n) (hs : st0 = As.reverse ++ .ref b :: st) (hc8 : (st.map fun v => v.category).sum ≤ 8) (hb : ∀ H, Rep g S P I H → J H → OC g H b ci) (hJ : ∀ H H', Rep g S P I H → J H → KC H H' → J' H')
    (K : T g M' mc ms (.ref b :: As) S P I (fun r S' P' I' => BL g M sb sl sx J' rc rs (pc + 3) lv (r.toList ++ st) S' P' I' Q)) : BL g M sb sl sx J (rc + mc) (rs + ms) pc lv st0 S P I Q := by
  intro p e R s m args below meth c Z hC hX hR H locs cells slots ls h1 h2 h3 h4 hl
  obtain ⟨r, hr, hrc⟩ := hM.2.2.2
  obtain ⟨cell, q1, q2, q3⟩ := hb H h3.1 h3.2
  have hts := hC.2.2.2.2.2.1
  have hfc := (hC.2.2.2.2.2.2.1.1.1 ci r hr).2.1
  subst hs
  exact BL.run_on hC hX hR h1 h2 h4 hl (fun H' hk => hJ H H' h3.1 h3.2 hk) (va_runV (C := (mY M').cls) (Ts := gws) (cc := mC M) (nL := mX M) ⟨hC.1, hC.2.1, hC.2.2.1, hC.2.2.2.2.1, hts⟩ (T.keep K) ⟨cg_b hC hM.1 hRM hlk, hts _ hM.2.1, hts _ hM.2.2.1⟩ ⟨pre_blind, ⟨cell, q1, q2, by rw [q3, ← hrc]; exact hfc⟩, fun U hU hW => ⟨rfl, by rw [hU]; exact h3.1, Kn.warm hW hC.2.2.2.2.2.2.1⟩⟩ rfl hn hl.1 rfl (lv_room hc8) hd ⟨by omega, by omega⟩)
theorem BL.callI {x n b : Nat} {st0 : List Value} (As : List Value) (hd : decode (mC M) pc = .ok (.invokespecial x, 3)) (hM : MI M' n) (hlk : Cond.methodLink (mY M).cls x (mY M') ∈ gws) (hRM : RM M M') (hn : As.length = n) (hs : st0 = As.reverse ++ .ref b :: st) (hc8 : (st.map fun v => v.category).sum ≤ 8)
    (K : T g M' mc ms (.ref b :: As) S P I (fun r S' P' I' => BL g M sb sl sx JT rc rs (pc + 3) lv (r.toList ++ st) S' P' I' Q)) : BL g M sb sl sx J (rc + mc) (rs + ms) pc lv st0 S P I Q := by
  intro p e R s m args below meth c Z hC hX hR H locs cells slots ls h1 h2 h3 h4 hl
  have hts := hC.2.2.2.2.2.1
  subst hs
  have hcb := cg_b (mc := mc) (ms := ms) hC hM.1 hRM hlk
  rw [hM.2.2.2] at hcb
  exact BL.run_on hC hX hR h1 h2 h4 hl (fun H' hk => trivial) (va_runI (Ts := gws) (cc := mC M) (nL := mX M) ⟨hC.1, hC.2.1, hC.2.2.1, hC.2.2.2.2.1, hts⟩ (T.keep K) ⟨hcb, hM.2.2.1, hts _ hM.2.1⟩ ⟨pre_blind, fun U hU hW => ⟨rfl, by rw [hU]; exact h3.1, Kn.warm hW hC.2.2.2.2.2.2.1⟩⟩ rfl hn hl.1 rfl (lv_room hc8) hd ⟨by omega, by omega⟩)
theorem cat8 (r : Option Value) : (r.toList.map fun v => v.category).sum ≤ 8 := by
  cases r with
  | none => exact Nat.zero_le 8
  | some v => cases v <;> exact Nat.le_of_ble_eq_true rfl
end LAWR
