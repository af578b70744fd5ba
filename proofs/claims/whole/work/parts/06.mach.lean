/-! the layer of memories: a machine's heap as two tables of numbers and places, by address and slot -/
abbrev GT : Type := Launch × va_G × (Nat → ClassId) × Nat × Heap × (Nat → Nat) × (Nat → Nat)
abbrev ST : Type := Nat × (Nat → Nat) × (Nat → Nat)
abbrev PT : Type := Nat → Nat → Nat
abbrev IT : Type := Nat → Nat → Int32
abbrev QT : Type := Option Value → ST → PT → IT → Prop
abbrev gB (g : GT) : Nat := g.2.2.2.1
abbrev gH (g : GT) : Heap := g.2.2.2.2.1
abbrev gK (g : GT) : Nat → Nat := g.2.2.2.2.2.1
abbrev gV (g : GT) : Nat → Nat := g.2.2.2.2.2.2
abbrev sN (S : ST) : Nat := S.1
abbrev sT (S : ST) : Nat → Nat := S.2.1
abbrev sL (S : ST) : Nat → Nat := S.2.2
def rv (n : Nat) : Value := match n with
  | 0 => .null
  | n + 1 => .ref n
def f_v (T : u_T) (P : PT) (I : IT) (a k : Nat) : Value := if is_r (T k).2.2.1 then rv (P a k) else .int (I a k)
def e_v (P : PT) (I : IT) (a j k : Nat) : Value := if j < 3 then .int (I a k) else rv (P a k)
def a_ty (j : Nat) : FieldType := match j with
  | 0 => .int
  | 1 => .byte
  | 2 => .boolean
  | 3 => .object RX1
  | 4 => .object RX3
  | _ => .object RX7
def rp_at (g : GT) (S : ST) (P : PT) (I : IT) (H : Heap) (a : Nat) : Prop :=
  (∀ (ci : Nat) (r : vw_C), sT S a = ci + 1 → vwCl[ci]? = some r → t_OB a (g.2.1.1 ci) r.2.2 (g.2.1.2 ci) H (f_v r.2.1 P I a)) ∧
  (∀ j : Nat, sT S a = 40 + j → H[a]? = some (arrV (g.2.2.1 j) (sL S a) (e_v P I a j)))
def Rep (g : GT) (S : ST) (P : PT) (I : IT) (H : Heap) : Prop :=
  H.size = sN S ∧ gB g ≤ sN S ∧ (∀ q : Nat, q < gB g → H[q]? = (gH g)[q]?) ∧ ∀ a : Nat, sT S a ≠ 0 → gB g ≤ a ∧ a < sN S ∧ rp_at g S P I H a
def nst : List (Nat × String × Nat × MethodName × String) := [(88, RX7, 11, yX5_init, "KilnVillage"), (105, RX7, 20, yX0_init, "KilnVillage"), (186, RX7, 70, yX1_init, "KilnVillage"), (228, RX7, 71, yX3_init, "KilnVillage"), (333, RX4, 11, yX0_init, "KilnVillage"), (595, RX2, 47, yX8_within, "KilnVillage"), (604, RX7, 94, yX8_within, "KilnVillage")]
def t_ix : List Nat := [67, 73, 75, 77, 79, 84, 86, 88, 90, 92, 94, 96]
def t_tx : List String := ["if", "and", "not", "bear", "part", "chamber", "spot", "shape", "glaze", "house", "wet", "ripe"]
def t_ln : List Nat := [2, 3, 3, 4, 4, 7, 4, 5, 5, 5, 3, 4]
def t_by : List (List Int32) := [[105, 102], [97, 110, 100], [110, 111, 116], [98, 101, 97, 114], [112, 97, 114, 116], [99, 104, 97, 109, 98, 101, 114], [115, 112, 111, 116], [115, 104, 97, 112, 101], [103, 108, 97, 122, 101], [104, 111, 117, 115, 101], [119, 101, 116], [114, 105, 112, 101]]
def Kn (g : GT) (s : State) : Prop := va_K g.2.1 vwCl [] s ∧ (∀ j : Nat, j < 6 → ArrOfT s (g.2.2.1 j) (a_ty j) ∧ va_RA s (g.2.2.1 j) (a_ty j)) ∧ (∀ q ∈ nst, va_Nw (.methodLinkNest q.2.1 q.2.2.1 q.2.2.2.1 q.2.2.2.2) s) ∧ (∀ C ∈ [RX1, RX3, RX7], va_AO C s) ∧ (∀ i : Nat, i < 12 → vk_R RX6 (t_ix.getD i 0) (t_tx.getD i "") (gK g i) s) ∧ vk_S 12 t_ln t_by (gK g) (gV g) (fun q => gB g ≤ q) s (gH g) ∧ va_Z "java/lang/String" "COMPACT_STRINGS" "Z" (.int 1) (fun q => gB g ≤ q) s (gH g) ∧ va_Zq "jdk/internal/util/Preconditions" "SIOOBE_FORMATTER" "Ljava/util/function/BiFunction;" (fun q => gB g ≤ q) s (gH g)
theorem Kn.same {g : GT} {u U : State} (hvm : U.vm = u.vm) (h : Kn g u) : Kn g U := by
  have ha : u.vm.Alike U.vm := by rw [hvm]; exact Vm.Alike.refl _
  exact ⟨va_K.moved ha h.1, fun j hj => ⟨arrOfT_moved ha (h.2.1 j hj).1, (h.2.1 j hj).2.moved ha⟩, fun q hq => va_Nw.same rfl hvm.symm (h.2.2.1 q hq), fun C hC => (h.2.2.2.1 C hC).moved ha, fun i hi => (h.2.2.2.2.1 i hi).same hvm, vk_S.moved ha h.2.2.2.2.2.1, va_Z.moved ha h.2.2.2.2.2.2.1, va_Zq.moved ha h.2.2.2.2.2.2.2⟩
theorem Kn.warm {g : GT} {u U : State} (hW : u.WarmedH U.vm) (h : Kn g u) : Kn g U := by
  have ha : u.vm.Alike U.vm := hW.alike
  exact ⟨va_K.moved ha h.1, fun j hj => ⟨arrOfT_moved ha (h.2.1 j hj).1, (h.2.1 j hj).2.moved ha⟩, fun q hq => va_Nw.warmM hW (h.2.2.1 q hq), fun C hC => (h.2.2.2.1 C hC).moved ha, fun i hi => (h.2.2.2.2.1 i hi).warm hW, vk_S.moved ha h.2.2.2.2.2.1, va_Z.moved ha h.2.2.2.2.2.2.1, va_Zq.moved ha h.2.2.2.2.2.2.2⟩
def wsM (M : MT) : List Cond := Cond.code (mY M) (mC M) (mX M) (mR M) :: gws
def rmM (M : MT) (mc ms : Nat) : Room := { frames := mF M, cells := mc, slots := ms, locals := mL M }
/-- a method's triple -/
def T (g : GT) (M : MT) (mc ms : Nat) (as : List Value) (S : ST) (P : PT) (I : IT) (Q : QT) : Prop :=
  Met g.1 (mY M) (wsM M) (rmM M mc ms) (va_Pc as (fun U => Rep g S P I U.heap ∧ Kn g U)) (fun _ _ o t => ∃ (r : Option Value) (S' : ST) (P' : PT) (I' : IT), o = .returned r ∧ Rep g S' P' I' t.heap ∧ Q r S' P' I') mc ms (fun q => gB g ≤ q)
def Cx (g : GT) (M : MT) (p : Program) (R : Room) (s : State) (m : MethodId) (args : Array Value) (meth : Method) (c : Code) : Prop :=
  p.tables.exec = Jvm.exec ∧ c.code = mC M ∧ c.maxLocals = mX M ∧ meth.locks = false ∧ s.vm.findClass (mY M).cls = some m.cls ∧ (∀ w ∈ gws, w.before args s = true) ∧ Kn g s ∧ mF M ≤ R.frames ∧ mL M ≤ R.locals ∧ meth.name = (mY M).name
def rsh (M : MT) (op : Instr) (r : Option Value) : Prop :=
  (op = .ireturn ∧ ∃ (v : Int32) (ty : FieldType), r = some (.int v) ∧ mR M = some ty ∧ narrow ty (.int v) = .int v) ∨ (op = .return_ ∧ r = none ∧ mR M = none) ∨ (op = .lreturn ∧ ∃ v : Int64, r = some (.long v) ∧ mR M = some .long)
def RO (g : GT) (M : MT) (p : Program) (e : Env) (R : Room) (s : State) (m : MethodId) (args : Array Value) (below : List Frame) (meth : Method) (c : Code) (Q : QT) (Z : State → Prop) : Prop :=
  ∀ (H : Heap) (locs : List Loc) (cells slots : Nat) (r : Option Value) (S : ST) (P : PT) (I : IT) (pc : Nat) (ls : Array Slot) (op : Instr), Rep g S P I H → (∀ q ∈ locs, gB g ≤ q.base) → cells ≤ R.cells → slots ≤ R.slots → Q r S P I → decode (mC M) pc = .ok (op, 1) → rsh M op r →
    W p g.1 e R s m args below meth c H locs cells slots Z (F0 m pc ls r.toList)
/-- a body from a pc on -/
def B (g : GT) (M : MT) (rc rs pc : Nat) (lv : List (Nat × Value)) (st : List Value) (S : ST) (P : PT) (I : IT) (Q : QT) : Prop :=
  ∀ (p : Program) (e : Env) (R : Room) (s : State) (m : MethodId) (args : Array Value) (below : List Frame) (meth : Method) (c : Code) (Z : State → Prop), Cx g M p R s m args meth c → RO g M p e R s m args below meth c Q Z →
  ∀ (H : Heap) (locs : List Loc) (cells slots : Nat) (ls : Array Slot), cells + rc ≤ R.cells → slots + rs ≤ R.slots → Rep g S P I H → (∀ q ∈ locs, gB g ≤ q.base) → lv_has ls (mX M) lv → W p g.1 e R s m args below meth c H locs cells slots Z (F0 m pc ls st)
theorem RO.mono {g : GT} {M : MT} {p : Program} {e : Env} {R : Room} {s : State} {m : MethodId} {args : Array Value} {below : List Frame} {meth : Method} {c : Code} {Q Q' : QT} {Z : State → Prop} (h : RO g M p e R s m args below meth c Q Z) (k : ∀ r S P I, Q' r S P I → Q r S P I) : RO g M p e R s m args below meth c Q' Z :=
  fun H locs cells slots r S P I pc ls op h1 h2 h3 h4 h5 h6 h7 => h H locs cells slots r S P I pc ls op h1 h2 h3 h4 (k _ _ _ _ h5) h6 h7
theorem B.mono {g : GT} {M : MT} {rc rs pc : Nat} {lv : List (Nat × Value)} {st : List Value} {S : ST} {P : PT} {I : IT} {Q Q' : QT} (h : B g M rc rs pc lv st S P I Q) (k : ∀ r S P I, Q r S P I → Q' r S P I) : B g M rc rs pc lv st S P I Q' :=
  fun p e R s m args below meth c Z hC hR => h p e R s m args below meth c Z hC (hR.mono k)
theorem B.less {g : GT} {M : MT} {rc rs rc' rs' pc : Nat} {lv : List (Nat × Value)} {st : List Value} {S : ST} {P : PT} {I : IT} {Q : QT} (h : B g M rc' rs' pc lv st S P I Q) (h1 : rc' ≤ rc) (h2 : rs' ≤ rs) : B g M rc rs pc lv st S P I Q :=
  fun p e R s m args below meth c Z hC hR H locs cells slots ls g1 g2 g3 g4 g5 => h p e R s m args below meth c Z hC hR H locs cells slots ls (by omega) (by omega) g3 g4 g5
theorem T_of {g : GT} {M : MT} {mc ms : Nat} {as : List Value} {S : ST} {P : PT} {I : IT} {Q : QT} (hy : plainName (mY M).cls = true) (hlen : (lg_sl as).length ≤ mX M) (K : B g M mc ms 0 (lv_args 0 as) [] S P I Q) : T g M mc ms as S P I Q := by
  refine Met.ofW (cc := mC M) (maxL := mX M) (ret := mR M) hy rfl ?_
  intro p e s m args below meth c s₁ Bd hml hv
  obtain ⟨rfl, hRp, hKn⟩ := hv
  have hts := atoms_spec (ws := wsM M) Bd.pre
  have hl := lv_entry as (n := mX M) hlen
  rw [lg_entry_eq]
  refine K p e _ s m _ below meth c _ ⟨Bd.exec, Bd.bytes, hml, Bd.notSynchronized, findClass_of_methodNamed Bd.named, fun w hw => hts w (List.mem_cons_of_mem _ hw), hKn, Nat.le_refl _, Nat.le_refl _, (name_of_methodNamed Bd.named Bd.method).1⟩ ?_ _ _ _ _ _ (by show 0 + mc ≤ mc; omega) (by show 0 + ms ≤ ms; omega) hRp (fun q h => by cases h) hl
  intro H locs cells slots r S2 P2 I2 pc ls op h1 h2 h3 h4 h5 h6 h7
  refine W.widen (k := mc) (n := ms) h3 h4 ?_
  have hr := Bd.returns
  have hlocks := Bd.notSynchronized
  rcases h7 with ⟨rfl, v, ty, rfl, e2, e3⟩ | ⟨rfl, rfl, e2⟩ | ⟨rfl, v, rfl, e2⟩
  · exact W.zret Bd.exec Bd.bytes (hr.trans e2) e3 (fun t ht hW => ⟨_, S2, P2, I2, rfl, by rw [ht]; exact h1, h5⟩) h2 h6
  · exact W.vret Bd.exec Bd.bytes (hr.trans e2) (fun t ht hW => ⟨_, S2, P2, I2, rfl, by rw [ht]; exact h1, h5⟩) h2 h6
  · exact W.lret Bd.exec Bd.bytes (hr.trans e2) (fun t ht hW => ⟨_, S2, P2, I2, rfl, by rw [ht]; exact h1, h5⟩) h2 h6
