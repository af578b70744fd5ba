theorem nar_z {v : Int32} (h : v = 0 ∨ v = 1) : narrow .boolean (.int v) = .int v := by rcases h with rfl | rfl <;> rfl
theorem toInt_lit {x : Int32} {c : Nat} (hc : c < 2 ^ 31) (h : x.toInt = c) : x = nI c := by
  apply Int32.toInt_inj.mp
  rw [h, nI_toInt hc]
theorem tsw_out {x : Int32} {lo hi : Nat} (hlo : lo ≤ hi) (hh : hi < 2 ^ 31) (h : ∀ c : Nat, lo ≤ c → c ≤ hi → ¬ x = nI c) : x.toInt < (lo : Int) ∨ (hi : Int) < x.toInt := by
  rcases Int.lt_or_le x.toInt lo with q | q
  · exact Or.inl q
  · rcases Int.lt_or_le hi x.toInt with q2 | q2
    · exact Or.inr q2
    · exfalso
      refine h x.toInt.toNat (by omega) (by omega) (toInt_lit (by omega) (by omega))
theorem lsw_out {x : Int32} {d a b : Int} (h0 : ¬ x = 0) (h1 : ¬ x = 1) : Op.lookupswitch.offset [(0, a), (1, b)] d x.toInt = d := by
  have e0 : ¬ x.toInt = 0 := fun q => h0 (Int32.toInt_inj.mp q)
  have e1 : ¬ x.toInt = 1 := fun q => h1 (Int32.toInt_inj.mp q)
  simp [Op.lookupswitch.offset, e0, e1, Ne.symm e0, Ne.symm e1]
/-- a number between two -/
def wi (x a b : Int32) : Int32 := if a ≤ x ∧ x ≤ b then 1 else 0
theorem wi_01 (x a b : Int32) : wi x a b = 0 ∨ wi x a b = 1 := by unfold wi; split <;> simp
theorem wi_0 {x a b : Int32} : wi x a b = 0 ↔ ¬ (a ≤ x ∧ x ≤ b) := by unfold wi; split <;> simp_all
theorem wi_n0 {x a b : Int32} : ¬ wi x a b = 0 ↔ (a ≤ x ∧ x ≤ b) := by rw [wi_0]; exact Decidable.not_not
def imax (x y : Int32) : Int32 := if x < y then y else x
def imin (x y : Int32) : Int32 := if y < x then y else x
def iabs (x : Int32) : Int32 := if 0 ≤ x then x else 0 - x
section MATH
variable {g : GT} {M : MT} {rc rs pc : Nat} {lv : List (Nat × Value)} {st : List Value} {S : ST} {P : PT} {I : IT} {Q : QT}
theorem mm_i : Cond.initialized "java/lang/Math" ∈ gws := by decide +kernel
theorem mm_1 : Cond.static Lib.Math.max.name ∈ gws := by decide +kernel
theorem mm_2 : Cond.code Lib.Math.max.name Lib.Math.max.code 2 (some .int) ∈ gws := by decide +kernel
theorem mm_3 : Cond.static Lib.Math.min.name ∈ gws := by decide +kernel
theorem mm_4 : Cond.code Lib.Math.min.name Lib.Math.min.code 2 (some .int) ∈ gws := by decide +kernel
theorem mm_5 : Cond.static Lib.Math.abs.name ∈ gws := by decide +kernel
theorem mm_6 : Cond.code Lib.Math.abs.name Lib.Math.abs.code 1 (some .int) ∈ gws := by decide +kernel
theorem B.mmax {k : Nat} {x y : Int32} (hd : decode (mC M) pc = .ok (.invokestatic k, 3)) (hlk : Cond.methodLink (mY M).cls k Lib.Math.max.name ∈ gws) (hF : 1 ≤ mF M) (hL : 21 ≤ mL M) (hc8 : (st.map fun v => v.category).sum ≤ 8) (K : B g M rc rs (pc + 3) lv (.int (imax x y) :: st) S P I Q) : B g M rc rs pc lv (.int y :: .int x :: st) S P I Q := by
  intro p e R s m args below meth c Z hC hR H locs cells slots ls h1 h2 h3 h4 hl
  have hts := hC.2.2.2.2.2.1
  have q1 := hC.2.2.2.2.2.2.2.1
  have q2 := hC.2.2.2.2.2.2.2.2.1
  exact va_mmax hC.1 hC.2.1 (by rw [hC.2.2.1]; exact hl.1.symm) hC.2.2.2.2.1 (hts _ hlk) (hts _ mm_1) (hts _ mm_i) (hts _ mm_2) (by omega) (by omega) (by omega) (by omega) hd (K p e R s m args below meth c Z hC hR H locs cells slots ls h1 h2 h3 h4 hl)
theorem B.mmin {k : Nat} {x y : Int32} (hd : decode (mC M) pc = .ok (.invokestatic k, 3)) (hlk : Cond.methodLink (mY M).cls k Lib.Math.min.name ∈ gws) (hF : 1 ≤ mF M) (hL : 21 ≤ mL M) (hc8 : (st.map fun v => v.category).sum ≤ 8) (K : B g M rc rs (pc + 3) lv (.int (imin x y) :: st) S P I Q) : B g M rc rs pc lv (.int y :: .int x :: st) S P I Q := by
  intro p e R s m args below meth c Z hC hR H locs cells slots ls h1 h2 h3 h4 hl
  have hts := hC.2.2.2.2.2.1
  have q1 := hC.2.2.2.2.2.2.2.1
  have q2 := hC.2.2.2.2.2.2.2.2.1
  exact va_mmin hC.1 hC.2.1 (by rw [hC.2.2.1]; exact hl.1.symm) hC.2.2.2.2.1 (hts _ hlk) (hts _ mm_3) (hts _ mm_i) (hts _ mm_4) (by omega) (by omega) (by omega) (by omega) hd (K p e R s m args below meth c Z hC hR H locs cells slots ls h1 h2 h3 h4 hl)
theorem B.mabs {k : Nat} {x : Int32} (hd : decode (mC M) pc = .ok (.invokestatic k, 3)) (hlk : Cond.methodLink (mY M).cls k Lib.Math.abs.name ∈ gws) (hF : 1 ≤ mF M) (hL : 21 ≤ mL M) (hc8 : (st.map fun v => v.category).sum ≤ 8) (K : B g M rc rs (pc + 3) lv (.int (iabs x) :: st) S P I Q) : B g M rc rs pc lv (.int x :: st) S P I Q := by
  intro p e R s m args below meth c Z hC hR H locs cells slots ls h1 h2 h3 h4 hl
  have hts := hC.2.2.2.2.2.1
  have q1 := hC.2.2.2.2.2.2.2.1
  have q2 := hC.2.2.2.2.2.2.2.2.1
  exact va_mabs hC.1 hC.2.1 (by rw [hC.2.2.1]; exact hl.1.symm) hC.2.2.2.2.1 (hts _ hlk) (hts _ mm_5) (hts _ mm_i) (hts _ mm_6) (by omega) (by omega) (by omega) (by omega) hd (K p e R s m args below meth c Z hC hR H locs cells slots ls h1 h2 h3 h4 hl)
end MATH
section STR
variable {g : GT} {M : MT} {rc rs pc : Nat} {lv : List (Nat × Value)} {st : List Value} {S : ST} {P : PT} {I : IT} {Q : QT} {M' : MT} {mc ms : Nat}
theorem Rep.old {H : Heap} (h : Rep g S P I H) {q : Nat} (hq : ¬ gB g ≤ q) : H[q]? = (gH g)[q]? := h.2.2.1 q (Nat.not_le.mp hq)
theorem B.ldcS {x : Nat} (i : Nat) (hd : decode (mC M) pc = .ok (.ldc x, 2)) (hi : i < 12) (hx : (mY M).cls = RX6 ∧ t_ix.getD i 0 = x) (K : B g M rc rs (pc + 2) lv (.ref (gK g i) :: st) S P I Q) : B g M rc rs pc lv st S P I Q := by
  intro p e R s m args below meth c Z hC hR H locs cells slots ls h1 h2 h3 h4 hl
  have hv := hC.2.2.2.2.2.2.1.2.2.2.2.1 i hi
  rw [hx.2, ← hx.1] at hv
  exact va_ldcS hC.1 hC.2.1 hC.2.2.2.2.1 hv hd (K p e R s m args below meth c Z hC hR H locs cells slots ls h1 h2 h3 h4 hl)
theorem B.getSv {x i : Nat} (hd : decode (mC M) pc = .ok (.getfield x, 3)) (hi : i < 12) (hw : Cond.fieldLink (mY M).cls x "java/lang/String" "value" "[B" ∈ gws) (K : B g M rc rs (pc + 3) lv (.ref (gV g i) :: st) S P I Q) : B g M rc rs pc lv (.ref (gK g i) :: st) S P I Q := by
  intro p e R s m args below meth c Z hC hR H locs cells slots ls h1 h2 h3 h4 hl
  obtain ⟨cf, k, fi, f, cell, q1, q2, q3, q4, q5, q6⟩ := (hC.2.2.2.2.2.2.1.2.2.2.2.2.1.1 i hi).2.2.1
  exact W.getf hC.1 hC.2.1 hC.2.2.2.2.1 (hC.2.2.2.2.2.1 _ hw) q1 q2 (by rw [h3.old q6]; exact q3) q4 q5 rfl rfl hd (K p e R s m args below meth c Z hC hR H locs cells slots ls h1 h2 h3 h4 hl)
theorem B.getSc {x i : Nat} (hd : decode (mC M) pc = .ok (.getfield x, 3)) (hi : i < 12) (hw : Cond.fieldLink (mY M).cls x "java/lang/String" "coder" "B" ∈ gws) (K : B g M rc rs (pc + 3) lv (.int 0 :: st) S P I Q) : B g M rc rs pc lv (.ref (gK g i) :: st) S P I Q := by
  intro p e R s m args below meth c Z hC hR H locs cells slots ls h1 h2 h3 h4 hl
  obtain ⟨cf, k, fi, f, cell, q1, q2, q3, q4, q5, q6⟩ := (hC.2.2.2.2.2.2.1.2.2.2.2.2.1.1 i hi).2.1
  exact W.getf hC.1 hC.2.1 hC.2.2.2.2.1 (hC.2.2.2.2.2.1 _ hw) q1 q2 (by rw [h3.old q6]; exact q3) q4 q5 rfl rfl hd (K p e R s m args below meth c Z hC hR H locs cells slots ls h1 h2 h3 h4 hl)
theorem B.getsC {x : Nat} (hd : decode (mC M) pc = .ok (.getstatic x, 3)) (hw : Cond.fieldLink (mY M).cls x "java/lang/String" "COMPACT_STRINGS" "Z" ∈ gws) (K : B g M rc rs (pc + 3) lv (.int 1 :: st) S P I Q) : B g M rc rs pc lv st S P I Q := by
  intro p e R s m args below meth c Z hC hR H locs cells slots ls h1 h2 h3 h4 hl
  obtain ⟨cf, kf, fi, f, a, cell, q1, q2, q3, q4, q5, q6, q7, q8⟩ := hC.2.2.2.2.2.2.1.2.2.2.2.2.2.1
  exact W.gets hC.1 hC.2.1 hC.2.2.2.2.1 (hC.2.2.2.2.2.1 _ hw) q1 q2 q3 q4 (by rw [h3.old q8]; exact q5) (fun e => by rw [e] at q6; cases q6) q7 rfl hd (K p e R s m args below meth c Z hC hR H locs cells slots ls h1 h2 h3 h4 hl)
theorem B.getsF {x : Nat} (hd : decode (mC M) pc = .ok (.getstatic x, 3)) (hw : Cond.fieldLink (mY M).cls x "jdk/internal/util/Preconditions" "SIOOBE_FORMATTER" "Ljava/util/function/BiFunction;" ∈ gws) (K : ∀ t : Nat, B g M rc rs (pc + 3) lv (rv t :: st) S P I Q) : B g M rc rs pc lv st S P I Q := by
  intro p e R s m args below meth c Z hC hR H locs cells slots ls h1 h2 h3 h4 hl
  rcases hC.2.2.2.2.2.2.1.2.2.2.2.2.2.2 with hz | ⟨t, hz⟩
  · obtain ⟨cf, kf, fi, f, a, cell, q1, q2, q3, q4, q5, q6, q7, q8⟩ := hz
    exact W.gets hC.1 hC.2.1 hC.2.2.2.2.1 (hC.2.2.2.2.2.1 _ hw) q1 q2 q3 q4 (by rw [h3.old q8]; exact q5) (fun e => by rw [e] at q6; cases q6) q7 rfl hd (K 0 p e R s m args below meth c Z hC hR H locs cells slots ls h1 h2 h3 h4 hl)
  · obtain ⟨cf, kf, fi, f, a, cell, q1, q2, q3, q4, q5, q6, q7, q8⟩ := hz
    exact W.gets hC.1 hC.2.1 hC.2.2.2.2.1 (hC.2.2.2.2.2.1 _ hw) q1 q2 q3 q4 (by rw [h3.old q8]; exact q5) (fun e => by rw [e] at q6; cases q6) q7 rfl hd (K (t + 1) p e R s m args below meth c Z hC hR H locs cells slots ls h1 h2 h3 h4 hl)
theorem B.alenS {i : Nat} (hd : decode (mC M) pc = .ok (.arraylength, 1)) (hi : i < 12) (K : B g M rc rs (pc + 1) lv (.int (nI (t_ln.getD i 0)) :: st) S P I Q) : B g M rc rs pc lv (.ref (gV g i) :: st) S P I Q := by
  intro p e R s m args below meth c Z hC hR H locs cells slots ls h1 h2 h3 h4 hl
  obtain ⟨cell, q1, q2, q3, q4, q5, q6, q7⟩ := (hC.2.2.2.2.2.2.1.2.2.2.2.2.1.1 i hi).2.2.2
  exact W.alen hC.1 hC.2.1 (by rw [h3.old q7]; exact q1) q2 q5 rfl rfl hd (K p e R s m args below meth c Z hC hR H locs cells slots ls h1 h2 h3 h4 hl)
theorem B.baloadS {i j : Nat} {x : Int32} (hd : decode (mC M) pc = .ok (.baload, 1)) (hi : i < 12) (hx : ix x j (t_ln.getD i 0)) (K : B g M rc rs (pc + 1) lv (.int ((t_by.getD i []).getD j 0) :: st) S P I Q) : B g M rc rs pc lv (.int x :: .ref (gV g i) :: st) S P I Q := by
  intro p e R s m args below meth c Z hC hR H locs cells slots ls h1 h2 h3 h4 hl
  obtain ⟨cell, q1, q2, q3, q4, q5, q6, q7⟩ := (hC.2.2.2.2.2.2.1.2.2.2.2.2.1.1 i hi).2.2.2
  exact W.bald hC.1 hC.2.1 (by rw [h3.old q7]; exact q1) q2 q3 (by rintro (z | z); exact hx.1 z; rw [hx.2.1] at z; have := hx.2.2; omega) (by rw [hx.2.1]; exact q6 j hx.2.2) rfl rfl hd (K p e R s m args below meth c Z hC hR H locs cells slots ls h1 h2 h3 h4 hl)
theorem B.i2c {x : Int32} (hd : decode (mC M) pc = .ok (.i2c, 1)) (K : B g M rc rs (pc + 1) lv (.int (x.toUInt32 % 65536).toInt32 :: st) S P I Q) : B g M rc rs pc lv (.int x :: st) S P I Q := by
  intro p e R s m args below meth c Z hC hR H locs cells slots ls h1 h2 h3 h4 hl
  exact lv_i2c hC.1 hC.2.1 hd rfl (K p e R s m args below meth c Z hC hR H locs cells slots ls h1 h2 h3 h4 hl)
theorem B.pop {va : Value} (hd : decode (mC M) pc = .ok (.pop, 1)) (hva : va.category = 1) (K : B g M rc rs (pc + 1) lv st S P I Q) : B g M rc rs pc lv (va :: st) S P I Q := by
  intro p e R s m args below meth c Z hC hR H locs cells slots ls h1 h2 h3 h4 hl
  exact lv_pop hC.1 hC.2.1 hd hva (K p e R s m args below meth c Z hC hR H locs cells slots ls h1 h2 h3 h4 hl)
def MVs (M : MT) (n : Nat) : Prop := MG M n ∧ Cond.instanceMethod (mY M) ∈ gws ∧ Cond.selects (mY M).cls (mY M) (mY M) ∈ gws ∧ (mY M).cls = "java/lang/String"
theorem B.callStr {x n i : Nat} {st0 : List Value} (As : List Value) (hi : i < 12) (hd : decode (mC M) pc = .ok (.invokevirtual x, 3)) (hM : MVs M' n) (hlk : Cond.methodLink (mY M).cls x (mY M') ∈ gws) (hRM : RM M M') (hn : As.length = n) (hs : st0 = As.reverse ++ .ref (gK g i) :: st) (hc8 : (st.map fun v => v.category).sum ≤ 8)
    (K : T g M' mc ms (.ref (gK g i) :: As) S P I (fun r S' P' I' => B g M rc rs (pc + 3) lv (r.toList ++ st) S' P' I' Q)) : B g M (rc + mc) (rs + ms) pc lv st0 S P I Q := by
  intro p e R s m args below meth c Z hC hR H locs cells slots ls h1 h2 h3 h4 hl
  obtain ⟨cell, q1, q2, q3, q4⟩ := (hC.2.2.2.2.2.2.1.2.2.2.2.2.1.1 i hi).1
  have hts := hC.2.2.2.2.2.1
  subst hs
  exact run_on hC hR h1 h2 h4 hl (va_runV (C := (mY M').cls) (Ts := gws) (cc := mC M) (nL := mX M) ⟨hC.1, hC.2.1, hC.2.2.1, hC.2.2.2.2.1, hts⟩ K ⟨cg_b hC hM.1 hRM hlk, hts _ hM.2.1, hts _ hM.2.2.1⟩ ⟨pre_blind, ⟨cell, by rw [h3.old q4]; exact q1, q2, by rw [hM.2.2.2]; exact q3⟩, fun U hU hW => ⟨rfl, by rw [hU]; exact h3, Kn.warm hW hC.2.2.2.2.2.2.1⟩⟩ rfl hn hl.1 rfl (lv_room hc8) hd ⟨by omega, by omega⟩)
end STR
