/-! methods and links as data -/
abbrev MT : Type := MethodName × ByteArray × Nat × Option FieldType × Nat × Nat
abbrev mY (M : MT) : MethodName := M.1
abbrev mC (M : MT) : ByteArray := M.2.1
abbrev mX (M : MT) : Nat := M.2.2.1
abbrev mR (M : MT) : Option FieldType := M.2.2.2.1
abbrev mF (M : MT) : Nat := M.2.2.2.2.1
abbrev mL (M : MT) : Nat := M.2.2.2.2.2
def gws : List Cond := lw_tbl.filter goodWord
def is_r (d : String) : Bool := !(d == "I" || d == "Z")
theorem gws_good {w : Cond} (h : w ∈ gws) : (w.onTables && w.keeps) = true ∨ ∃ ty, w = .arrayClass ty := good_of_word (List.mem_filter.mp h).2
def FL (own : String) (x ci k : Nat) (rf : Bool) : Prop := ∃ r : vw_C, vwCl[ci]? = some r ∧ k < r.2.2 ∧ Cond.fieldLink own x r.1 (r.2.1 k).2.1 (r.2.1 k).2.2.1 ∈ gws ∧ (r.2.1 k).1 = r.1 ∧ is_r (r.2.1 k).2.2.1 = rf
def FW (own : String) (x ci k : Nat) (rf fin : Bool) (ty : FieldType) : Prop := ∃ r : vw_C, vwCl[ci]? = some r ∧ k < r.2.2 ∧ Cond.fieldLink own x r.1 (r.2.1 k).2.1 (r.2.1 k).2.2.1 ∈ gws ∧ (r.2.1 k).1 = r.1 ∧ is_r (r.2.1 k).2.2.1 = rf ∧ (r.2.1 k).2.2.2 = fin ∧ parseFieldDescriptor (r.2.1 k).2.2.1 = some ty ∧ (fin = true → own = r.1)
def MG (M : MT) (n : Nat) : Prop := Cond.code (mY M) (mC M) (mX M) (mR M) ∈ gws ∧ Cond.initialized (mY M).cls ∈ gws ∧ ((mY M).cls ≠ "java/lang/invoke/MethodHandle" ∧ (mY M).cls ≠ "java/lang/invoke/VarHandle") ∧ (parseMethodDescriptor (mY M).desc).map (fun d => d.parameters.length) = some n
def MV (M : MT) (n ci : Nat) : Prop := MG M n ∧ Cond.instanceMethod (mY M) ∈ gws ∧ Cond.selects (mY M).cls (mY M) (mY M) ∈ gws ∧ ∃ r : vw_C, vwCl[ci]? = some r ∧ r.1 = (mY M).cls
def MS (M : MT) (n : Nat) : Prop := MG M n ∧ Cond.static (mY M) ∈ gws
def MI (M : MT) (n : Nat) : Prop := MG M n ∧ Cond.instanceMethod (mY M) ∈ gws ∧ (mY M).name = "<init>" ∧ mR M = none
def RM (M M' : MT) : Prop := mF M' + 1 ≤ mF M ∧ 8 + (mX M' + 11) + mL M' ≤ mL M
theorem gw_at (i : Nat) {w : Cond} (h : lw_tbl[i]? = some w) (hg : goodWord w = true) : w ∈ gws := List.mem_filter.mpr ⟨List.mem_of_getElem? h, hg⟩
