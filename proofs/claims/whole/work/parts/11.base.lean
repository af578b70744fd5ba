theorem nar_z {v : Int32} (h : v = 0 ∨ v = 1) : narrow .boolean (.int v) = .int v := by rcases h with rfl | rfl <;> rfl
theorem toInt_lit {x : Int32} {c : Nat} (hc : c < 2 ^ 31) (h : x.toInt = c) : x = nI c := by
  apply Int32.toInt_inj.mp
  rw [h, nI_toInt hc]
theorem tsw_out {x : Int32} {lo hi : Nat} (hlo : lo ≤ hi) (hh : hi < 2 ^ 31) (h : ∀ c : Nat, lo ≤ c → c ≤ hi → ¬ x = nI c) : x.toInt < (lo : Int) ∨ (hi : Int) < x.toInt := by
  rcases Int.lt_or_le x.toInt lo with q | q
  · exact Or.inl q
  · rcases Int.lt_or_le hi x.toInt with q2 | q2
    · exact Or.inr q2
    · exfalso
      refine h x.toInt.toNat (by omega) (by omega) (toInt_lit (by omega) (by omega))
theorem lsw_out {x : Int32} {d a b : Int} (h0 : ¬ x = 0) (h1 : ¬ x = 1) : Op.lookupswitch.offset [(0, a), (1, b)] d x.toInt = d := by
  have e0 : ¬ x.toInt = 0 := fun q => h0 (Int32.toInt_inj.mp q)
  have e1 : ¬ x.toInt = 1 := fun q => h1 (Int32.toInt_inj.mp q)
  simp [Op.lookupswitch.offset, e0, e1, Ne.symm e0, Ne.symm e1]
/-- a number between two -/
def wi (x a b : Int32) : Int32 := if a ≤ x ∧ x ≤ b then 1 else 0
theorem wi_01 (x a b : Int32) : wi x a b = 0 ∨ wi x a b = 1 := by unfold wi; split <;> simp
theorem wi_0 {x a b : Int32} : wi x a b = 0 ↔ ¬ (a ≤ x ∧ x ≤ b) := by unfold wi; split <;> simp_all
theorem wi_n0 {x a b : Int32} : ¬ wi x a b = 0 ↔ (a ≤ x ∧ x ≤ b) := by rw [wi_0]; exact Decidable.not_not
def imax (x y : Int32) : Int32 := if x < y then y else x
def imin (x y : Int32) : Int32 := if y < x then y else x
def iabs (x : Int32) : Int32 := if 0 ≤ x then x else 0 - x
section MATH
variable {g : GT} {M : MT} {rc rs pc : Nat} {lv : List (Nat × Value)} {st : List Value} {S : ST} {P : PT} {I : IT} {Q : QT}
theorem mm_i : Cond.initialized "java/lang/Math" ∈ gws := by decide +kernel
theorem mm_1 : Cond.static Lib.Math.max.name ∈ gws := by decide +kernel
theorem mm_2 : Cond.code Lib.Math.max.name Lib.Math.max.code 2 (some .int) ∈ gws := by decide +kernel
theorem mm_3 : Cond.static Lib.Math.min.name ∈ gws := by decide +kernel
theorem mm_4 : Cond.code Lib.Math.min.name Lib.Math.min.code 2 (some .int) ∈ gws := by decide +kernel
theorem mm_5 : Cond.static Lib.Math.abs.name ∈ gws := by decide +kernel
theorem mm_6 : Cond.code Lib.Math.abs.name Lib.Math.abs.code 1 (some .int) ∈ gws := by decide +kernel
theorem B.mmax {k : Nat} {x y : Int32} (hd : decode (mC M) pc = .ok (.invokestatic k, 3)) (hlk : Cond.methodLink (mY M).cls k Lib.Math.max.name ∈ gws) (hF : 1 ≤ mF M) (hL : 21 ≤ mL M) (hc8 : (st.map fun v => v.category).sum ≤ 8) (K : B g M rc rs (pc + 3) lv (.int (imax x y) :: st) S P I Q) : B g M rc rs pc lv (.int y :: .int x :: st) S P I Q := by
  intro p e R s m args below meth c Z hC hR H locs cells slots ls h1 h2 h3 h4 hl
  have hts := hC.2.2.2.2.2.1
  have q1 := hC.2.2.2.2.2.2.2.1
  have q2 := hC.2.2.2.2.2.2.2.2.1
  exact va_mmax hC.1 hC.2.1 (by rw [hC.2.2.1]; exact hl.1.symm) hC.2.2.2.2.1 (hts _ hlk) (hts _ mm_1) (hts _ mm_i) (hts _ mm_2) (by omega) (by omega) (by omega) (by omega) hd (K p e R s m args below meth c Z hC hR H locs cells slots ls h1 h2 h3 h4 hl)
theorem B.mmin {k : Nat} {x y : Int32} (hd : decode (mC M) pc = .ok (.invokestatic k, 3)) (hlk : Cond.methodLink (mY M).cls k Lib.Math.min.name ∈ gws) (hF : 1 ≤ mF M) (hL : 21 ≤ mL M) (hc8 : (st.map fun v => v.category).sum ≤ 8) (K : B g M rc rs (pc + 3) lv (.int (imin x y) :: st) S P I Q) : B g M rc rs pc lv (.int y :: .int x :: st) S P I Q := by
  intro p e R s m args below meth c Z hC hR H locs cells slots ls h1 h2 h3 h4 hl
  have hts := hC.2.2.2.2.2.1
  have q1 := hC.2.2.2.2.2.2.2.1
  have q2 := hC.2.2.2.2.2.2.2.2.1
  exact va_mmin hC.1 hC.2.1 (by rw [hC.2.2.1]; exact hl.1.symm) hC.2.2.2.2.1 (hts _ hlk) (hts _ mm_3) (hts _ mm_i) (hts _ mm_4) (by omega) (by omega) (by omega) (by omega) hd (K p e R s m args below meth c Z hC hR H locs cells slots ls h1 h2 h3 h4 hl)
theorem B.mabs {k : Nat} {x : Int32} (hd : decode (mC M) pc = .ok (.invokestatic k, 3)) (hlk : Cond.methodLink (mY M).cls k Lib.Math.abs.name ∈ gws) (hF : 1 ≤ mF M) (hL : 21 ≤ mL M) (hc8 : (st.map fun v => v.category).sum ≤ 8) (K : B g M rc rs (pc + 3) lv (.int (iabs x) :: st) S P I Q) : B g M rc rs pc lv (.int x :: st) S P I Q := by
  intro p e R s m args below meth c Z hC hR H locs cells slots ls h1 h2 h3 h4 hl
  have hts := hC.2.2.2.2.2.1
  have q1 := hC.2.2.2.2.2.2.2.1
  have q2 := hC.2.2.2.2.2.2.2.2.1
  exact va_mabs hC.1 hC.2.1 (by rw [hC.2.2.1]; exact hl.1.symm) hC.2.2.2.2.1 (hts _ hlk) (hts _ mm_5) (hts _ mm_i) (hts _ mm_6) (by omega) (by omega) (by omega) (by omega) hd (K p e R s m args below meth c Z hC hR H locs cells slots ls h1 h2 h3 h4 hl)
end MATH
