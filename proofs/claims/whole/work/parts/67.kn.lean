/-! what the Statement gives of the start, as the layer's words -/
theorem gws_tbl {w : Cond} (h : w ∈ gws) : w ∈ lw_tbl := (List.mem_filter.mp h).1
theorem all_inst {ci : Nat} {r : vw_C} (h : vwCl[ci]? = some r) : Cond.instantiable r.1 r.2.2 ∈ gws := by
  match ci, h with
  | 0, h => cases h; exact nw_0.1
  | 1, h => cases h; exact nw_1.1
  | 2, h => cases h; exact nw_2.1
  | 3, h => cases h; exact nw_3.1
  | 4, h => cases h; exact nw_4.1
  | 5, h => cases h; exact nw_5.1
  | 6, h => cases h; exact nw_6.1
  | 7, h => cases h; exact nw_7.1
  | 8, h => cases h; exact nw_8.1
  | 9, h => cases h; exact nw_9.1
  | k + 10, h => simp at h
section KNOF
variable {s : State} {args : Array Value}
theorem kn_cls (hts : ∀ w ∈ lw_tbl, w.before args s = true) : ∃ D : va_G, va_K D vwCl [] s := by
  have h : ∀ ci : Nat, ∃ q : ClassId × (Nat → Nat), ∀ r : vw_C, vwCl[ci]? = some r → u_Kn s r.1 r.2.1 r.2.2 q.1 q.2 := by
    intro ci
    cases hr : vwCl[ci]? with
    | none => exact ⟨((0 : Nat), fun _ => 0), fun r h => by cases h⟩
    | some r =>
      obtain ⟨cC, iS, hk⟩ := u_known (n := r.2.2) (fun w hw => hts w (gws_tbl hw)) (all_in hr) (hts _ (gws_tbl (all_inst hr)))
      exact ⟨(cC, iS), fun r' h => by cases h; exact hk⟩
  obtain ⟨f, hf⟩ := Classical.axiomOfChoice h
  exact ⟨(fun c => (f c).1, fun c => (f c).2), fun c q hq => hf c q hq, fun k q hq => by simp at hq⟩
theorem ao_1 : Cond.arrayOver (.object RX1) ∈ lw_tbl := by decide +kernel
theorem ao_3 : Cond.arrayOver (.object RX3) ∈ lw_tbl := by decide +kernel
theorem ao_7 : Cond.arrayOver (.object RX7) ∈ lw_tbl := by decide +kernel
theorem kn_ao {C : String} (h : (Cond.arrayOver (.object C)).before args s = true) : ∃ c : ClassId, ArrOfT s c (.object C) ∧ va_RA s c (.object C) := by
  obtain ⟨comp, c, k, h1, h2, h3, h4, h5⟩ := Cond.arrayOver_spec h
  exact ⟨c, fun n z => ⟨fun k h => (by cases h), k, h3, comp, h4⟩, k, comp, h3, h4, h1, h5⟩
theorem kn_arr (hts : ∀ w ∈ lw_tbl, w.before args s = true) : ∃ cA : Nat → ClassId, ∀ j : Nat, j < 6 → ArrOfT s (cA j) (a_ty j) ∧ va_RA s (cA j) (a_ty j) := by
  have h : ∀ j : Nat, ∃ c : ClassId, j < 6 → ArrOfT s c (a_ty j) ∧ va_RA s c (a_ty j) := by
    intro j
    match j with
    | 0 =>
      obtain ⟨c, k, comp, f1, f2, f3⟩ := Cond.arrayClass_spec (hts _ (gws_tbl ac_int))
      exact ⟨c, fun _ => ⟨fun n z => ⟨fun k h => (by cases h), k, f2, comp, f3⟩, f1⟩⟩
    | 1 =>
      obtain ⟨c, k, comp, f1, f2, f3⟩ := Cond.arrayClass_spec (hts _ (gws_tbl ac_byte))
      exact ⟨c, fun _ => ⟨fun n z => ⟨fun k h => (by cases h), k, f2, comp, f3⟩, f1⟩⟩
    | 2 =>
      obtain ⟨c, k, comp, f1, f2, f3⟩ := Cond.arrayClass_spec (hts _ (gws_tbl ac_boolean))
      exact ⟨c, fun _ => ⟨fun n z => ⟨fun k h => (by cases h), k, f2, comp, f3⟩, f1⟩⟩
    | 3 =>
      obtain ⟨c, h⟩ := kn_ao (hts _ ao_1)
      exact ⟨c, fun _ => h⟩
    | 4 =>
      obtain ⟨c, h⟩ := kn_ao (hts _ ao_3)
      exact ⟨c, fun _ => h⟩
    | 5 =>
      obtain ⟨c, h⟩ := kn_ao (hts _ ao_7)
      exact ⟨c, fun _ => h⟩
    | j + 6 => exact ⟨(0 : Nat), fun h => absurd h (by omega)⟩
  exact Classical.axiomOfChoice h
theorem nst_in : ∀ q ∈ nst, Cond.methodLinkNest q.2.1 q.2.2.1 q.2.2.2.1 q.2.2.2.2 ∈ lw_tbl := by decide +kernel
theorem str_in : ∀ i : Nat, i < 12 → Cond.stringRef RX6 (t_ix.getD i 0) (t_tx.getD i "") ∈ lw_tbl := by decide +kernel
def t_tm (i : Nat) : Term := .string RX6 (t_ix.getD i 0)
def n_fl : List Cond := flatC (Jvm.Cond.and given_1 narrow_1)
theorem st_ex : ∀ i : Nat, i < 12 → Cond.exactly (t_tm i) "java/lang/String" ∈ n_fl := by decide +kernel
theorem st_co : ∀ i : Nat, i < 12 → Cond.eq (.field (t_tm i) "java/lang/String" "coder" "B") (.int 0) ∈ n_fl := by decide +kernel
theorem st_ar : ∀ i : Nat, i < 12 → Cond.arrayOf (.field (t_tm i) "java/lang/String" "value" "[B") .byte ∈ n_fl := by decide +kernel
theorem st_le : ∀ i : Nat, i < 12 → Cond.eq (.length (.field (t_tm i) "java/lang/String" "value" "[B")) (.int (Int32.ofNat (t_ln.getD i 0))) ∈ n_fl := by decide +kernel
theorem st_el : ∀ i : Nat, i < 12 → ∀ j : Nat, j < t_ln.getD i 0 → Cond.eq (.elem (.field (t_tm i) "java/lang/String" "value" "[B") (.int (Int32.ofNat j))) (.int ((t_by.getD i []).getD j 0)) ∈ n_fl := by decide +kernel
theorem st_ne : ∀ i : Nat, i < 12 → ∀ j : Nat, j < 12 → i ≠ j → Cond.not (Cond.eq (t_tm i) (t_tm j)) ∈ n_fl ∨ Cond.not (Cond.eq (t_tm j) (t_tm i)) ∈ n_fl := by decide +kernel
theorem st_ln : ∀ i : Nat, i < 12 → t_ln.getD i 0 < 2 ^ 31 := by decide
theorem st_z1 : Cond.eq (.static "java/lang/String" "COMPACT_STRINGS" "Z") (.int 1) ∈ n_fl := by decide +kernel
theorem st_z2 : Cond.isRef (.static "jdk/internal/util/Preconditions" "SIOOBE_FORMATTER" "Ljava/util/function/BiFunction;") ∈ n_fl := by decide +kernel
theorem st_l1 : Cond.laysStatic "java/lang/String" "COMPACT_STRINGS" "Z" ∈ lw_tbl := by decide +kernel
theorem st_l2 : Cond.laysStatic "jdk/internal/util/Preconditions" "SIOOBE_FORMATTER" "Ljava/util/function/BiFunction;" ∈ lw_tbl := by decide +kernel
theorem st_i1 : Cond.initialized "java/lang/String" ∈ lw_tbl := by decide +kernel
theorem st_i2 : Cond.initialized "jdk/internal/util/Preconditions" ∈ lw_tbl := by decide +kernel
theorem kn_of (l : Launch) (hts : ∀ w ∈ lw_tbl, w.before args s = true) (hgv : (Jvm.Cond.and given_1 narrow_1).before args s = true) : ∃ g : GT, g.1 = l ∧ gB g = s.heap.size ∧ gH g = s.heap ∧ Kn g s := by
  have hg : ∀ w ∈ n_fl, w.before args s = true := flat_of_before _ hgv
  have hA : ∀ a : Nat, a < s.heap.size → ¬ (fun q : Nat => s.heap.size ≤ q) a := fun a h => Nat.not_le.mpr h
  obtain ⟨D, hK⟩ := kn_cls hts
  obtain ⟨cA, hcA⟩ := kn_arr hts
  obtain ⟨adK, adV, hS, hE⟩ := vk_Sof (args := args) (s := s) (N := 12) (tm := t_tm) (len := t_ln) (byt := t_by) (A := fun q : Nat => s.heap.size ≤ q) st_ln (fun i hi => hg _ (st_ex i hi)) (fun i hi => hg _ (st_co i hi)) (fun i hi => hg _ (st_ar i hi)) (fun i hi => hg _ (st_le i hi)) (fun i hi j hj => hg _ (st_el i hi j hj)) (fun i j hi hj hij => (st_ne i hi j hj hij).imp (hg _) (hg _)) hA
  refine ⟨(l, D, cA, s.heap.size, s.heap, adK, adV), rfl, rfl, rfl, hK, hcA, fun q hq => va_Nw.of rfl (hts _ (nst_in q hq)), fun C hC => ?_, fun i hi => vk_R.of (hts _ (str_in i hi)) (hE i hi), hS, va_Zof (hts _ st_l1) (hts _ st_i1) (va_eqt (hg _ st_z1)) hA, va_Zqof (hts _ st_l2) (hts _ st_i2) (hg _ st_z2) hA⟩
  rcases List.mem_cons.mp hC with rfl | hC
  · exact va_AO.of (hts _ ao_1)
  · rcases List.mem_cons.mp hC with rfl | hC
    · exact va_AO.of (hts _ ao_3)
    · rcases List.mem_cons.mp hC with rfl | hC
      · exact va_AO.of (hts _ ao_7)
      · cases hC
end KNOF
