theorem s_X0_copyFrom_0 {g : GT} {S : ST} {P : PT} {I : IT} {Q : QT} {r0 : Nat} {r1 : Nat} (h : sT S r1 = 1 ∧ sT S r0 = 1 ∧ ∃ b3, P r1 1 = b3 + 1 ∧ ∃ b5, P r0 1 = b5 + 1 ∧ sT S b3 = 40 ∧ sT S b5 = 40 ∧ 12 ≤ sL S b3 ∧ 12 ≤ sL S b5 ∧ ∃ b11, P r1 2 = b11 + 1 ∧ ∃ b13, P r0 2 = b13 + 1 ∧ sT S b11 = 40 ∧ sT S b13 = 40 ∧ 12 ≤ sL S b11 ∧ 12 ≤ sL S b13 ∧ ∃ b19, P r1 3 = b19 + 1 ∧ ∃ b21, P r0 3 = b21 + 1 ∧ sT S b19 = 40 ∧ sT S b21 = 40 ∧ 48 ≤ sL S b19 ∧ 48 ≤ sL S b21 ∧ ∃ b27, P r1 4 = b27 + 1 ∧ ∃ b29, P r0 4 = b29 + 1 ∧ sT S b27 = 40 ∧ sT S b29 = 40 ∧ 48 ≤ sL S b27 ∧ 48 ≤ sL S b29 ∧ ∃ b35, P r1 5 = b35 + 1 ∧ ∃ b37, P r0 5 = b37 + 1 ∧ sT S b35 = 40 ∧ sT S b37 = 40 ∧ 48 ≤ sL S b35 ∧ 48 ≤ sL S b37 ∧ Q none S P (cpI (cpI (cpI (cpI (cpI (u2 I r0 0 (I r1 0)) b3 b5 12) b11 b13 12) b19 b21 48) b27 b29 48) b35 b37 48)) : B g MX0_copyFrom 0 0 0 [(0, .ref r0), (1, .ref r1)] [] S P I Q := by
  refine B.aload_n 0 dX0_copyFrom_0 rfl rfl ?_
  refine B.aload_n 1 dX0_copyFrom_1 rfl rfl ?_
  obtain ⟨t1, h⟩ := h
  refine B.getI dX0_copyFrom_2 fl_0_9 t1 ?_
  obtain ⟨t2, h⟩ := h
  refine B.putI dX0_copyFrom_5 fw_0_9 t2 ?_
  refine B.aload_n 1 dX0_copyFrom_8 rfl rfl ?_
  obtain ⟨b3, h⟩ := h
  obtain ⟨t4, h⟩ := h
  refine B.getP dX0_copyFrom_9 fl_0_15 t1 t4 ?_
  refine B.iconst 0 dX0_copyFrom_12 (by decide) ?_
  refine B.aload_n 0 dX0_copyFrom_13 rfl rfl ?_
  obtain ⟨b5, h⟩ := h
  obtain ⟨t6, h⟩ := h
  refine B.getP dX0_copyFrom_14 fl_0_15 t2 t6 ?_
  refine B.iconst 0 dX0_copyFrom_17 (by decide) ?_
  refine B.bipush 12 dX0_copyFrom_18 (by decide) ?_
  obtain ⟨t7, h⟩ := h
  obtain ⟨t8, h⟩ := h
  obtain ⟨t9, h⟩ := h
  obtain ⟨t10, h⟩ := h
  refine B.copy (t := 0) (n := 12) (by decide) (fun _ _ => rfl) rfl dX0_copyFrom_20 lk_X0_31 (by decide) (by decide) (Nat.le_of_ble_eq_true rfl) t7 t8 (by decide) (by decide) t9 t10 ?_
  refine B.aload_n 1 dX0_copyFrom_23 rfl rfl ?_
  obtain ⟨b11, h⟩ := h
  obtain ⟨t12, h⟩ := h
  refine B.getP dX0_copyFrom_24 fl_0_19 t1 t12 ?_
  refine B.iconst 0 dX0_copyFrom_27 (by decide) ?_
  refine B.aload_n 0 dX0_copyFrom_28 rfl rfl ?_
  obtain ⟨b13, h⟩ := h
  obtain ⟨t14, h⟩ := h
  refine B.getP dX0_copyFrom_29 fl_0_19 t2 t14 ?_
  refine B.iconst 0 dX0_copyFrom_32 (by decide) ?_
  refine B.bipush 12 dX0_copyFrom_33 (by decide) ?_
  obtain ⟨t15, h⟩ := h
  obtain ⟨t16, h⟩ := h
  obtain ⟨t17, h⟩ := h
  obtain ⟨t18, h⟩ := h
  refine B.copy (t := 0) (n := 12) (by decide) (fun _ _ => rfl) rfl dX0_copyFrom_35 lk_X0_31 (by decide) (by decide) (Nat.le_of_ble_eq_true rfl) t15 t16 (by decide) (by decide) t17 t18 ?_
  refine B.aload_n 1 dX0_copyFrom_38 rfl rfl ?_
  obtain ⟨b19, h⟩ := h
  obtain ⟨t20, h⟩ := h
  refine B.getP dX0_copyFrom_39 fl_0_22 t1 t20 ?_
  refine B.iconst 0 dX0_copyFrom_42 (by decide) ?_
  refine B.aload_n 0 dX0_copyFrom_43 rfl rfl ?_
  obtain ⟨b21, h⟩ := h
  obtain ⟨t22, h⟩ := h
  refine B.getP dX0_copyFrom_44 fl_0_22 t2 t22 ?_
  refine B.iconst 0 dX0_copyFrom_47 (by decide) ?_
  refine B.bipush 48 dX0_copyFrom_48 (by decide) ?_
  obtain ⟨t23, h⟩ := h
  obtain ⟨t24, h⟩ := h
  obtain ⟨t25, h⟩ := h
  obtain ⟨t26, h⟩ := h
  refine B.copy (t := 0) (n := 48) (by decide) (fun _ _ => rfl) rfl dX0_copyFrom_50 lk_X0_31 (by decide) (by decide) (Nat.le_of_ble_eq_true rfl) t23 t24 (by decide) (by decide) t25 t26 ?_
  refine B.aload_n 1 dX0_copyFrom_53 rfl rfl ?_
  obtain ⟨b27, h⟩ := h
  obtain ⟨t28, h⟩ := h
  refine B.getP dX0_copyFrom_54 fl_0_25 t1 t28 ?_
  refine B.iconst 0 dX0_copyFrom_57 (by decide) ?_
  refine B.aload_n 0 dX0_copyFrom_58 rfl rfl ?_
  obtain ⟨b29, h⟩ := h
  obtain ⟨t30, h⟩ := h
  refine B.getP dX0_copyFrom_59 fl_0_25 t2 t30 ?_
  refine B.iconst 0 dX0_copyFrom_62 (by decide) ?_
  refine B.bipush 48 dX0_copyFrom_63 (by decide) ?_
  obtain ⟨t31, h⟩ := h
  obtain ⟨t32, h⟩ := h
  obtain ⟨t33, h⟩ := h
  obtain ⟨t34, h⟩ := h
  refine B.copy (t := 0) (n := 48) (by decide) (fun _ _ => rfl) rfl dX0_copyFrom_65 lk_X0_31 (by decide) (by decide) (Nat.le_of_ble_eq_true rfl) t31 t32 (by decide) (by decide) t33 t34 ?_
  refine B.aload_n 1 dX0_copyFrom_68 rfl rfl ?_
  obtain ⟨b35, h⟩ := h
  obtain ⟨t36, h⟩ := h
  refine B.getP dX0_copyFrom_69 fl_0_28 t1 t36 ?_
  refine B.iconst 0 dX0_copyFrom_72 (by decide) ?_
  refine B.aload_n 0 dX0_copyFrom_73 rfl rfl ?_
  obtain ⟨b37, h⟩ := h
  obtain ⟨t38, h⟩ := h
  refine B.getP dX0_copyFrom_74 fl_0_28 t2 t38 ?_
  refine B.iconst 0 dX0_copyFrom_77 (by decide) ?_
  refine B.bipush 48 dX0_copyFrom_78 (by decide) ?_
  obtain ⟨t39, h⟩ := h
  obtain ⟨t40, h⟩ := h
  obtain ⟨t41, h⟩ := h
  obtain ⟨t42, h⟩ := h
  refine B.copy (t := 0) (n := 48) (by decide) (fun _ _ => rfl) rfl dX0_copyFrom_80 lk_X0_31 (by decide) (by decide) (Nat.le_of_ble_eq_true rfl) t39 t40 (by decide) (by decide) t41 t42 ?_
  refine B.return_ dX0_copyFrom_83 rfl ?_
  exact h
theorem s_X0_partFor_0 {g : GT} {S : ST} {P : PT} {I : IT} {Q : QT} {r0 : Nat} {r1 : Nat} (h : B g MX0_partFor 0 0 2 [(0, .ref r0), (1, .ref r1), (2, .int 0)] [] S P I Q) : B g MX0_partFor 0 0 0 [(0, .ref r0), (1, .ref r1)] [] S P I Q := by
  refine B.iconst 0 dX0_partFor_0 (by decide) ?_
  refine B.istore_n (lv' := [(0, .ref r0), (1, .ref r1), (2, .int 0)]) dX0_partFor_1 rfl (by decide) rfl ?_
  exact h
theorem s_X0_partFor_2 {g : GT} {S : ST} {P : PT} {I : IT} {Q : QT} {r0 : Nat} {r1 : Nat} {x2 : Int32} (h : sT S r0 = 1 ∧ (((I r0 0) ≤ x2 → Q (some (.int 0)) S P I) ∧ (¬ (I r0 0) ≤ x2 → T g MX0_allHold 0 0 [.ref r0, .int x2, .ref r1] S P I (fun r S' P' I' => B g MX0_partFor 0 0 16 [(0, .ref r0), (1, .ref r1), (2, .int x2)] (r.toList ++ []) S' P' I' Q)))) : B g MX0_partFor 0 0 2 [(0, .ref r0), (1, .ref r1), (2, .int x2)] [] S P I Q := by
  refine B.iload_n 2 dX0_partFor_2 rfl rfl ?_
  refine B.aload_n 0 dX0_partFor_3 rfl rfl ?_
  obtain ⟨t1, h⟩ := h
  refine B.getI dX0_partFor_4 fl_0_9 t1 ?_
  refine B.icmp_ge 32 dX0_partFor_7 (by decide) (fun q2 => ?_) (fun q2 => ?_)
  · replace h := h.1 q2
    refine B.iconst 0 dX0_partFor_32 (by decide) ?_
    refine B.ireturn dX0_partFor_33 rfl rfl ?_
    exact h
  · replace h := h.2 q2
    refine B.aload_n 0 dX0_partFor_10 rfl rfl ?_
    refine B.iload_n 2 dX0_partFor_11 rfl rfl ?_
    refine B.aload_n 1 dX0_partFor_12 rfl rfl ?_
    refine B.callV (M' := MX0_allHold) (rc := 0) (rs := 0) (mc := 0) (ms := 0) (st := []) [.int x2, .ref r1] dX0_partFor_13 mv_X0_allHold lk_X0_37 ⟨Nat.le_of_ble_eq_true rfl, Nat.le_of_ble_eq_true rfl⟩ rfl rfl (Nat.le_of_ble_eq_true rfl) t1 ?_
    exact h
theorem s_X0_partFor_16 {g : GT} {S : ST} {P : PT} {I : IT} {Q : QT} {r0 : Nat} {r1 : Nat} {x2 : Int32} {w_s0 : Int32} (h : ((w_s0 = 0 → B g MX0_partFor 0 0 2 [(0, .ref r0), (1, .ref r1), (2, .int (x2 + 1))] [] S P I Q) ∧ (¬ w_s0 = 0 → sT S r0 = 1 ∧ ∃ b3, P r0 1 = b3 + 1 ∧ sT S b3 = 40 ∧ ∃ j6, ix x2 j6 (sL S b3) ∧ Q (some (.int (I b3 j6))) S P I))) : B g MX0_partFor 0 0 16 [(0, .ref r0), (1, .ref r1), (2, .int x2)] [.int w_s0] S P I Q := by
  refine B.if_eq 26 dX0_partFor_16 (by decide) (fun q1 => ?_) (fun q1 => ?_)
  · replace h := h.1 q1
    refine B.iinc (lv' := [(0, .ref r0), (1, .ref r1), (2, .int (x2 + 1))]) 2 (x2 + 1) dX0_partFor_26 rfl rfl (by decide) rfl ?_
    refine B.goto_ 2 dX0_partFor_29 (by decide) ?_
    exact h
  · replace h := h.2 q1
    refine B.aload_n 0 dX0_partFor_19 rfl rfl ?_
    obtain ⟨t2, h⟩ := h
    obtain ⟨b3, h⟩ := h
    obtain ⟨t4, h⟩ := h
    refine B.getP dX0_partFor_20 fl_0_15 t2 t4 ?_
    refine B.iload_n 2 dX0_partFor_23 rfl rfl ?_
    obtain ⟨t5, h⟩ := h
    obtain ⟨j6, h⟩ := h
    obtain ⟨t7, h⟩ := h
    refine B.iaload dX0_partFor_24 t5 t7 ?_
    refine B.ireturn dX0_partFor_25 rfl rfl ?_
    exact h
theorem s_X0_allHold_0 {g : GT} {S : ST} {P : PT} {I : IT} {Q : QT} {r0 : Nat} {x1 : Int32} {r2 : Nat} (h : B g MX0_allHold 0 0 2 [(0, .ref r0), (1, .int x1), (2, .ref r2), (3, .int 0)] [] S P I Q) : B g MX0_allHold 0 0 0 [(0, .ref r0), (1, .int x1), (2, .ref r2)] [] S P I Q := by
  refine B.iconst 0 dX0_allHold_0 (by decide) ?_
  refine B.istore_n (lv' := [(0, .ref r0), (1, .int x1), (2, .ref r2), (3, .int 0)]) dX0_allHold_1 rfl (by decide) rfl ?_
  exact h
theorem s_X0_allHold_2 {g : GT} {S : ST} {P : PT} {I : IT} {Q : QT} {r0 : Nat} {x1 : Int32} {r2 : Nat} {x3 : Int32} (h : sT S r0 = 1 ∧ ∃ b2, P r0 2 = b2 + 1 ∧ sT S b2 = 40 ∧ ∃ j5, ix x1 j5 (sL S b2) ∧ (((I b2 j5) ≤ x3 → Q (some (.int 1)) S P I) ∧ (¬ (I b2 j5) ≤ x3 → T g MX0_holds 0 0 [.ref r0, .int ((x1 * 4) + x3), .ref r2] S P I (fun r S' P' I' => B g MX0_allHold 0 0 22 [(0, .ref r0), (1, .int x1), (2, .ref r2), (3, .int x3)] (r.toList ++ []) S' P' I' Q)))) : B g MX0_allHold 0 0 2 [(0, .ref r0), (1, .int x1), (2, .ref r2), (3, .int x3)] [] S P I Q := by
  refine B.iload_n 3 dX0_allHold_2 rfl rfl ?_
  refine B.aload_n 0 dX0_allHold_3 rfl rfl ?_
  obtain ⟨t1, h⟩ := h
  obtain ⟨b2, h⟩ := h
  obtain ⟨t3, h⟩ := h
  refine B.getP dX0_allHold_4 fl_0_19 t1 t3 ?_
  refine B.iload_n 1 dX0_allHold_7 rfl rfl ?_
  obtain ⟨t4, h⟩ := h
  obtain ⟨j5, h⟩ := h
  obtain ⟨t6, h⟩ := h
  refine B.iaload dX0_allHold_8 t4 t6 ?_
  refine B.icmp_ge 33 dX0_allHold_9 (by decide) (fun q7 => ?_) (fun q7 => ?_)
  · replace h := h.1 q7
    refine B.iconst 1 dX0_allHold_33 (by decide) ?_
    refine B.ireturn dX0_allHold_34 rfl rfl ?_
    exact h
  · replace h := h.2 q7
    refine B.aload_n 0 dX0_allHold_12 rfl rfl ?_
    refine B.iload_n 1 dX0_allHold_13 rfl rfl ?_
    refine B.iconst 4 dX0_allHold_14 (by decide) ?_
    refine B.imul dX0_allHold_15 ?_
    refine B.iload_n 3 dX0_allHold_16 rfl rfl ?_
    refine B.iadd dX0_allHold_17 ?_
    refine B.aload_n 2 dX0_allHold_18 rfl rfl ?_
    refine B.callV (M' := MX0_holds) (rc := 0) (rs := 0) (mc := 0) (ms := 0) (st := []) [.int ((x1 * 4) + x3), .ref r2] dX0_allHold_19 mv_X0_holds lk_X0_41 ⟨Nat.le_of_ble_eq_true rfl, Nat.le_of_ble_eq_true rfl⟩ rfl rfl (Nat.le_of_ble_eq_true rfl) t1 ?_
    exact h
theorem s_X0_allHold_22 {g : GT} {S : ST} {P : PT} {I : IT} {Q : QT} {r0 : Nat} {x1 : Int32} {r2 : Nat} {x3 : Int32} {w_s0 : Int32} (h : ((¬ w_s0 = 0 → B g MX0_allHold 0 0 2 [(0, .ref r0), (1, .int x1), (2, .ref r2), (3, .int (x3 + 1))] [] S P I Q) ∧ (w_s0 = 0 → Q (some (.int 0)) S P I))) : B g MX0_allHold 0 0 22 [(0, .ref r0), (1, .int x1), (2, .ref r2), (3, .int x3)] [.int w_s0] S P I Q := by
  refine B.if_ne 27 dX0_allHold_22 (by decide) (fun q1 => ?_) (fun q1 => ?_)
  · replace h := h.1 q1
    refine B.iinc (lv' := [(0, .ref r0), (1, .int x1), (2, .ref r2), (3, .int (x3 + 1))]) 3 (x3 + 1) dX0_allHold_27 rfl rfl (by decide) rfl ?_
    refine B.goto_ 2 dX0_allHold_30 (by decide) ?_
    exact h
  · replace h := h.2 q1
    refine B.iconst 0 dX0_allHold_25 (by decide) ?_
    refine B.ireturn dX0_allHold_26 rfl rfl ?_
    exact h
theorem s_X0_holds_0 {g : GT} {S : ST} {P : PT} {I : IT} {Q : QT} {r0 : Nat} {x1 : Int32} {r2 : Nat} (h : sT S r0 = 1 ∧ ∃ b2, P r0 3 = b2 + 1 ∧ sT S b2 = 40 ∧ ∃ j5, ix x1 j5 (sL S b2) ∧ sT S r2 = 4 ∧ T g MX3_subject 0 0 [.ref r2, .int (I b2 j5)] S P I (fun r S' P' I' => B g MX0_holds 0 0 10 [(0, .ref r0), (1, .int x1), (2, .ref r2)] (r.toList ++ []) S' P' I' Q)) : B g MX0_holds 0 0 0 [(0, .ref r0), (1, .int x1), (2, .ref r2)] [] S P I Q := by
  refine B.aload_n 2 dX0_holds_0 rfl rfl ?_
  refine B.aload_n 0 dX0_holds_1 rfl rfl ?_
  obtain ⟨t1, h⟩ := h
  obtain ⟨b2, h⟩ := h
  obtain ⟨t3, h⟩ := h
  refine B.getP dX0_holds_2 fl_0_22 t1 t3 ?_
  refine B.iload_n 1 dX0_holds_5 rfl rfl ?_
  obtain ⟨t4, h⟩ := h
  obtain ⟨j5, h⟩ := h
  obtain ⟨t6, h⟩ := h
  refine B.iaload dX0_holds_6 t4 t6 ?_
  obtain ⟨t7, h⟩ := h
  refine B.callV (M' := MX3_subject) (rc := 0) (rs := 0) (mc := 0) (ms := 0) (st := []) [.int (I b2 j5)] dX0_holds_7 mv_X3_subject lk_X0_44 ⟨Nat.le_of_ble_eq_true rfl, Nat.le_of_ble_eq_true rfl⟩ rfl rfl (Nat.le_of_ble_eq_true rfl) t7 ?_
  exact h
theorem s_X0_holds_10 {g : GT} {S : ST} {P : PT} {I : IT} {Q : QT} {r0 : Nat} {x1 : Int32} {r2 : Nat} {w_s0 : Int32} (h : sT S r0 = 1 ∧ ∃ b2, P r0 5 = b2 + 1 ∧ sT S b2 = 40 ∧ ∃ j5, ix x1 j5 (sL S b2) ∧ (((I b2 j5) ≤ w_s0 → ((w_s0 ≤ (I b2 j5) → B g MX0_holds 0 0 40 [(0, .ref r0), (1, .int x1), (2, .ref r2), (3, .int w_s0), (4, .int (I b2 j5))] [.int 2] S P I Q) ∧ (¬ w_s0 ≤ (I b2 j5) → B g MX0_holds 0 0 40 [(0, .ref r0), (1, .int x1), (2, .ref r2), (3, .int w_s0), (4, .int (I b2 j5))] [.int 4] S P I Q))) ∧ (¬ (I b2 j5) ≤ w_s0 → B g MX0_holds 0 0 40 [(0, .ref r0), (1, .int x1), (2, .ref r2), (3, .int w_s0), (4, .int (I b2 j5))] [.int 1] S P I Q))) : B g MX0_holds 0 0 10 [(0, .ref r0), (1, .int x1), (2, .ref r2)] [.int w_s0] S P I Q := by
  refine B.istore_n (lv' := [(0, .ref r0), (1, .int x1), (2, .ref r2), (3, .int w_s0)]) dX0_holds_10 rfl (by decide) rfl ?_
  refine B.aload_n 0 dX0_holds_11 rfl rfl ?_
  obtain ⟨t1, h⟩ := h
  obtain ⟨b2, h⟩ := h
  obtain ⟨t3, h⟩ := h
  refine B.getP dX0_holds_12 fl_0_28 t1 t3 ?_
  refine B.iload_n 1 dX0_holds_15 rfl rfl ?_
  obtain ⟨t4, h⟩ := h
  obtain ⟨j5, h⟩ := h
  obtain ⟨t6, h⟩ := h
  refine B.iaload dX0_holds_16 t4 t6 ?_
  refine B.istore (lv' := [(0, .ref r0), (1, .int x1), (2, .ref r2), (3, .int w_s0), (4, .int (I b2 j5))]) dX0_holds_17 (by decide) rfl ?_
  refine B.iload_n 3 dX0_holds_19 rfl rfl ?_
  refine B.iload 4 dX0_holds_20 rfl ?_
  refine B.icmp_ge 29 dX0_holds_22 (by decide) (fun q7 => ?_) (fun q7 => ?_)
  · replace h := h.1 q7
    refine B.iload_n 3 dX0_holds_29 rfl rfl ?_
    refine B.iload 4 dX0_holds_30 rfl ?_
    refine B.icmp_le 39 dX0_holds_32 (by decide) (fun q8 => ?_) (fun q8 => ?_)
    · replace h := h.1 q8
      refine B.iconst 2 dX0_holds_39 (by decide) ?_
      exact h
    · replace h := h.2 q8
      refine B.iconst 4 dX0_holds_35 (by decide) ?_
      refine B.goto_ 40 dX0_holds_36 (by decide) ?_
      exact h
  · replace h := h.2 q7
    refine B.iconst 1 dX0_holds_25 (by decide) ?_
    refine B.goto_ 40 dX0_holds_26 (by decide) ?_
    exact h
theorem s_X0_holds_40 {g : GT} {S : ST} {P : PT} {I : IT} {Q : QT} {r0 : Nat} {x1 : Int32} {r2 : Nat} {x3 : Int32} {x4 : Int32} {w_s0 : Int32} (h : sT S r0 = 1 ∧ ∃ b2, P r0 4 = b2 + 1 ∧ sT S b2 = 40 ∧ ∃ j5, ix x1 j5 (sL S b2) ∧ ((((I b2 j5) &&& w_s0) = 0 → Q (some (.int 0)) S P I) ∧ (¬ ((I b2 j5) &&& w_s0) = 0 → Q (some (.int 1)) S P I))) : B g MX0_holds 0 0 40 [(0, .ref r0), (1, .int x1), (2, .ref r2), (3, .int x3), (4, .int x4)] [.int w_s0] S P I Q := by
  refine B.istore (lv' := [(0, .ref r0), (1, .int x1), (2, .ref r2), (3, .int x3), (4, .int x4), (5, .int w_s0)]) dX0_holds_40 (by decide) rfl ?_
  refine B.aload_n 0 dX0_holds_42 rfl rfl ?_
  obtain ⟨t1, h⟩ := h
  obtain ⟨b2, h⟩ := h
  obtain ⟨t3, h⟩ := h
  refine B.getP dX0_holds_43 fl_0_25 t1 t3 ?_
  refine B.iload_n 1 dX0_holds_46 rfl rfl ?_
  obtain ⟨t4, h⟩ := h
  obtain ⟨j5, h⟩ := h
  obtain ⟨t6, h⟩ := h
  refine B.iaload dX0_holds_47 t4 t6 ?_
  refine B.iload 5 dX0_holds_48 rfl ?_
  refine B.iand dX0_holds_50 ?_
  refine B.if_eq 58 dX0_holds_51 (by decide) (fun q7 => ?_) (fun q7 => ?_)
  · replace h := h.1 q7
    refine B.iconst 0 dX0_holds_58 (by decide) ?_
    refine B.ireturn dX0_holds_59 rfl rfl ?_
    exact h
  · replace h := h.2 q7
    refine B.iconst 1 dX0_holds_54 (by decide) ?_
    refine B.goto_ 59 dX0_holds_55 (by decide) ?_
    refine B.ireturn dX0_holds_59 rfl rfl ?_
    exact h
theorem s_X1_copyFrom_0 {g : GT} {S : ST} {P : PT} {I : IT} {Q : QT} {r0 : Nat} {r1 : Nat} (h : sT S r1 = 2 ∧ sT S r0 = 2 ∧ ((I r1 2) = 0 ∨ (I r1 2) = 1) ∧ ∃ b4, P r1 5 = b4 + 1 ∧ ∃ b6, P r0 5 = b6 + 1 ∧ sT S b4 = 40 ∧ sT S b6 = 40 ∧ 8 ≤ sL S b4 ∧ 8 ≤ sL S b6 ∧ ∃ b12, P r1 6 = b12 + 1 ∧ ∃ b14, P r0 6 = b14 + 1 ∧ sT S b12 = 40 ∧ sT S b14 = 40 ∧ 8 ≤ sL S b12 ∧ 8 ≤ sL S b14 ∧ ∃ b20, P r1 7 = b20 + 1 ∧ ∃ b22, P r0 7 = b22 + 1 ∧ sT S b20 = 40 ∧ sT S b22 = 40 ∧ 8 ≤ sL S b20 ∧ 8 ≤ sL S b22 ∧ ∃ b28, P r1 8 = b28 + 1 ∧ ∃ b30, P r0 8 = b30 + 1 ∧ sT S b28 = 40 ∧ sT S b30 = 40 ∧ 8 ≤ sL S b28 ∧ 8 ≤ sL S b30 ∧ Q none S P (cpI (cpI (cpI (cpI (u2 (u2 (u2 (u2 (u2 I r0 0 (I r1 0)) r0 1 (I r1 1)) r0 2 (I r1 2)) r0 3 (I r1 3)) r0 4 (I r1 4)) b4 b6 8) b12 b14 8) b20 b22 8) b28 b30 8)) : B g MX1_copyFrom 0 0 0 [(0, .ref r0), (1, .ref r1)] [] S P I Q := by
  refine B.aload_n 0 dX1_copyFrom_0 rfl rfl ?_
  refine B.aload_n 1 dX1_copyFrom_1 rfl rfl ?_
  obtain ⟨t1, h⟩ := h
  refine B.getI dX1_copyFrom_2 fl_1_9 t1 ?_
  obtain ⟨t2, h⟩ := h
  refine B.putI dX1_copyFrom_5 fw_1_9 t2 ?_
  refine B.aload_n 0 dX1_copyFrom_8 rfl rfl ?_
  refine B.aload_n 1 dX1_copyFrom_9 rfl rfl ?_
  refine B.getI dX1_copyFrom_10 fl_1_15 t1 ?_
  rw [u2_k (I := I) (a := r0) (k := 0) (b := r1) (j := 1) (x := (I r1 0)) (by decide)]
  refine B.putI dX1_copyFrom_13 fw_1_15 t2 ?_
  refine B.aload_n 0 dX1_copyFrom_16 rfl rfl ?_
  refine B.aload_n 1 dX1_copyFrom_17 rfl rfl ?_
  refine B.getI dX1_copyFrom_18 fl_1_18 t1 ?_
  rw [u2_k (I := (u2 I r0 0 (I r1 0))) (a := r0) (k := 1) (b := r1) (j := 2) (x := (I r1 1)) (by decide)]
  rw [u2_k (I := I) (a := r0) (k := 0) (b := r1) (j := 2) (x := (I r1 0)) (by decide)]
  obtain ⟨t3, h⟩ := h
  refine B.putZ dX1_copyFrom_21 fw_1_18 t2 t3 ?_
  refine B.aload_n 0 dX1_copyFrom_24 rfl rfl ?_
  refine B.aload_n 1 dX1_copyFrom_25 rfl rfl ?_
  refine B.getI dX1_copyFrom_26 fl_1_22 t1 ?_
  rw [u2_k (I := (u2 (u2 I r0 0 (I r1 0)) r0 1 (I r1 1))) (a := r0) (k := 2) (b := r1) (j := 3) (x := (I r1 2)) (by decide)]
  rw [u2_k (I := (u2 I r0 0 (I r1 0))) (a := r0) (k := 1) (b := r1) (j := 3) (x := (I r1 1)) (by decide)]
  rw [u2_k (I := I) (a := r0) (k := 0) (b := r1) (j := 3) (x := (I r1 0)) (by decide)]
  refine B.putI dX1_copyFrom_29 fw_1_22 t2 ?_
  refine B.aload_n 0 dX1_copyFrom_32 rfl rfl ?_
  refine B.aload_n 1 dX1_copyFrom_33 rfl rfl ?_
  refine B.getI dX1_copyFrom_34 fl_1_25 t1 ?_
  rw [u2_k (I := (u2 (u2 (u2 I r0 0 (I r1 0)) r0 1 (I r1 1)) r0 2 (I r1 2))) (a := r0) (k := 3) (b := r1) (j := 4) (x := (I r1 3)) (by decide)]
  rw [u2_k (I := (u2 (u2 I r0 0 (I r1 0)) r0 1 (I r1 1))) (a := r0) (k := 2) (b := r1) (j := 4) (x := (I r1 2)) (by decide)]
  rw [u2_k (I := (u2 I r0 0 (I r1 0))) (a := r0) (k := 1) (b := r1) (j := 4) (x := (I r1 1)) (by decide)]
  rw [u2_k (I := I) (a := r0) (k := 0) (b := r1) (j := 4) (x := (I r1 0)) (by decide)]
  refine B.putI dX1_copyFrom_37 fw_1_25 t2 ?_
  refine B.aload_n 1 dX1_copyFrom_40 rfl rfl ?_
  obtain ⟨b4, h⟩ := h
  obtain ⟨t5, h⟩ := h
  refine B.getP dX1_copyFrom_41 fl_1_28 t1 t5 ?_
  refine B.iconst 0 dX1_copyFrom_44 (by decide) ?_
  refine B.aload_n 0 dX1_copyFrom_45 rfl rfl ?_
  obtain ⟨b6, h⟩ := h
  obtain ⟨t7, h⟩ := h
  refine B.getP dX1_copyFrom_46 fl_1_28 t2 t7 ?_
  refine B.iconst 0 dX1_copyFrom_49 (by decide) ?_
  refine B.bipush 8 dX1_copyFrom_50 (by decide) ?_
  obtain ⟨t8, h⟩ := h
  obtain ⟨t9, h⟩ := h
  obtain ⟨t10, h⟩ := h
  obtain ⟨t11, h⟩ := h
  refine B.copy (t := 0) (n := 8) (by decide) (fun _ _ => rfl) rfl dX1_copyFrom_52 lk_X1_41 (by decide) (by decide) (Nat.le_of_ble_eq_true rfl) t8 t9 (by decide) (by decide) t10 t11 ?_
  refine B.aload_n 1 dX1_copyFrom_55 rfl rfl ?_
  obtain ⟨b12, h⟩ := h
  obtain ⟨t13, h⟩ := h
  refine B.getP dX1_copyFrom_56 fl_1_32 t1 t13 ?_
  refine B.iconst 0 dX1_copyFrom_59 (by decide) ?_
  refine B.aload_n 0 dX1_copyFrom_60 rfl rfl ?_
  obtain ⟨b14, h⟩ := h
  obtain ⟨t15, h⟩ := h
  refine B.getP dX1_copyFrom_61 fl_1_32 t2 t15 ?_
  refine B.iconst 0 dX1_copyFrom_64 (by decide) ?_
  refine B.bipush 8 dX1_copyFrom_65 (by decide) ?_
  obtain ⟨t16, h⟩ := h
  obtain ⟨t17, h⟩ := h
  obtain ⟨t18, h⟩ := h
  obtain ⟨t19, h⟩ := h
  refine B.copy (t := 0) (n := 8) (by decide) (fun _ _ => rfl) rfl dX1_copyFrom_67 lk_X1_41 (by decide) (by decide) (Nat.le_of_ble_eq_true rfl) t16 t17 (by decide) (by decide) t18 t19 ?_
  refine B.aload_n 1 dX1_copyFrom_70 rfl rfl ?_
  obtain ⟨b20, h⟩ := h
  obtain ⟨t21, h⟩ := h
  refine B.getP dX1_copyFrom_71 fl_1_35 t1 t21 ?_
  refine B.iconst 0 dX1_copyFrom_74 (by decide) ?_
  refine B.aload_n 0 dX1_copyFrom_75 rfl rfl ?_
  obtain ⟨b22, h⟩ := h
  obtain ⟨t23, h⟩ := h
  refine B.getP dX1_copyFrom_76 fl_1_35 t2 t23 ?_
  refine B.iconst 0 dX1_copyFrom_79 (by decide) ?_
  refine B.bipush 8 dX1_copyFrom_80 (by decide) ?_
  obtain ⟨t24, h⟩ := h
  obtain ⟨t25, h⟩ := h
  obtain ⟨t26, h⟩ := h
  obtain ⟨t27, h⟩ := h
  refine B.copy (t := 0) (n := 8) (by decide) (fun _ _ => rfl) rfl dX1_copyFrom_82 lk_X1_41 (by decide) (by decide) (Nat.le_of_ble_eq_true rfl) t24 t25 (by decide) (by decide) t26 t27 ?_
  refine B.aload_n 1 dX1_copyFrom_85 rfl rfl ?_
  obtain ⟨b28, h⟩ := h
  obtain ⟨t29, h⟩ := h
  refine B.getP dX1_copyFrom_86 fl_1_38 t1 t29 ?_
  refine B.iconst 0 dX1_copyFrom_89 (by decide) ?_
  refine B.aload_n 0 dX1_copyFrom_90 rfl rfl ?_
  obtain ⟨b30, h⟩ := h
  obtain ⟨t31, h⟩ := h
  refine B.getP dX1_copyFrom_91 fl_1_38 t2 t31 ?_
  refine B.iconst 0 dX1_copyFrom_94 (by decide) ?_
  refine B.bipush 8 dX1_copyFrom_95 (by decide) ?_
  obtain ⟨t32, h⟩ := h
  obtain ⟨t33, h⟩ := h
  obtain ⟨t34, h⟩ := h
  obtain ⟨t35, h⟩ := h
  refine B.copy (t := 0) (n := 8) (by decide) (fun _ _ => rfl) rfl dX1_copyFrom_97 lk_X1_41 (by decide) (by decide) (Nat.le_of_ble_eq_true rfl) t32 t33 (by decide) (by decide) t34 t35 ?_
  refine B.return_ dX1_copyFrom_100 rfl ?_
  exact h
theorem s_X1_takeOrder_0 {g : GT} {S : ST} {P : PT} {I : IT} {Q : QT} {r0 : Nat} {x1 : Int32} {x2 : Int32} {x3 : Int32} (h : sT S r0 = 2 ∧ (((I r0 4) < 8 → ∃ b3, P r0 5 = b3 + 1 ∧ sT S b3 = 40 ∧ ∃ j6, ix (I r0 4) j6 (sL S b3) ∧ ∃ b8, P r0 6 = b8 + 1 ∧ sT S b8 = 40 ∧ ∃ j11, ix ((u2 I b3 j6 x1) r0 4) j11 (sL S b8) ∧ ∃ b13, P r0 7 = b13 + 1 ∧ sT S b13 = 40 ∧ ∃ j16, ix ((u2 (u2 I b3 j6 x1) b8 j11 x2) r0 4) j16 (sL S b13) ∧ B g MX1_takeOrder 0 0 46 [(0, .ref r0), (1, .int x1), (2, .int x2), (3, .int x3), (4, .int ((u2 (u2 (u2 I b3 j6 x1) b8 j11 x2) b13 j16 x3) r0 4))] [] S P (u2 (u2 (u2 I b3 j6 x1) b8 j11 x2) b13 j16 x3) Q) ∧ (¬ (I r0 4) < 8 → Q none S P I))) : B g MX1_takeOrder 0 0 0 [(0, .ref r0), (1, .int x1), (2, .int x2), (3, .int x3)] [] S P I Q := by
  refine B.aload_n 0 dX1_takeOrder_0 rfl rfl ?_
  obtain ⟨t1, h⟩ := h
  refine B.getI dX1_takeOrder_1 fl_1_25 t1 ?_
  refine B.bipush 8 dX1_takeOrder_4 (by decide) ?_
  refine B.icmp_lt 10 dX1_takeOrder_6 (by decide) (fun q2 => ?_) (fun q2 => ?_)
  · replace h := h.1 q2
    refine B.aload_n 0 dX1_takeOrder_10 rfl rfl ?_
    obtain ⟨b3, h⟩ := h
    obtain ⟨t4, h⟩ := h
    refine B.getP dX1_takeOrder_11 fl_1_28 t1 t4 ?_
    refine B.aload_n 0 dX1_takeOrder_14 rfl rfl ?_
    refine B.getI dX1_takeOrder_15 fl_1_25 t1 ?_
    refine B.iload_n 1 dX1_takeOrder_18 rfl rfl ?_
    obtain ⟨t5, h⟩ := h
    obtain ⟨j6, h⟩ := h
    obtain ⟨t7, h⟩ := h
    refine B.iastore dX1_takeOrder_19 t5 t7 ?_
    refine B.aload_n 0 dX1_takeOrder_20 rfl rfl ?_
    obtain ⟨b8, h⟩ := h
    obtain ⟨t9, h⟩ := h
    refine B.getP dX1_takeOrder_21 fl_1_32 t1 t9 ?_
    refine B.aload_n 0 dX1_takeOrder_24 rfl rfl ?_
    refine B.getI dX1_takeOrder_25 fl_1_25 t1 ?_
    refine B.iload_n 2 dX1_takeOrder_28 rfl rfl ?_
    obtain ⟨t10, h⟩ := h
    obtain ⟨j11, h⟩ := h
    obtain ⟨t12, h⟩ := h
    refine B.iastore dX1_takeOrder_29 t10 t12 ?_
    refine B.aload_n 0 dX1_takeOrder_30 rfl rfl ?_
    obtain ⟨b13, h⟩ := h
    obtain ⟨t14, h⟩ := h
    refine B.getP dX1_takeOrder_31 fl_1_35 t1 t14 ?_
    refine B.aload_n 0 dX1_takeOrder_34 rfl rfl ?_
    refine B.getI dX1_takeOrder_35 fl_1_25 t1 ?_
    refine B.iload_n 3 dX1_takeOrder_38 rfl rfl ?_
    obtain ⟨t15, h⟩ := h
    obtain ⟨j16, h⟩ := h
    obtain ⟨t17, h⟩ := h
    refine B.iastore dX1_takeOrder_39 t15 t17 ?_
    refine B.aload_n 0 dX1_takeOrder_40 rfl rfl ?_
    refine B.getI dX1_takeOrder_41 fl_1_25 t1 ?_
    refine B.istore (lv' := [(0, .ref r0), (1, .int x1), (2, .int x2), (3, .int x3), (4, .int ((u2 (u2 (u2 I b3 j6 x1) b8 j11 x2) b13 j16 x3) r0 4))]) dX1_takeOrder_44 (by decide) rfl ?_
    exact h
  · replace h := h.2 q2
    refine B.return_ dX1_takeOrder_9 rfl ?_
    exact h
theorem s_X1_takeOrder_46 {g : GT} {S : ST} {P : PT} {I : IT} {Q : QT} {r0 : Nat} {x1 : Int32} {x2 : Int32} {x3 : Int32} {x4 : Int32} (h : ((x4 ≤ 0 → B g MX1_takeOrder 0 0 91 [(0, .ref r0), (1, .int x1), (2, .int x2), (3, .int x3), (4, .int x4)] [] S P I Q) ∧ (¬ x4 ≤ 0 → sT S r0 = 2 ∧ ∃ b3, P r0 6 = b3 + 1 ∧ ∃ b5, P r0 8 = b5 + 1 ∧ sT S b5 = 40 ∧ ∃ j8, ix (x4 - 1) j8 (sL S b5) ∧ sT S b3 = 40 ∧ ∃ j11, ix (I b5 j8) j11 (sL S b3) ∧ (((I b3 j11) ≤ x2 → B g MX1_takeOrder 0 0 91 [(0, .ref r0), (1, .int x1), (2, .int x2), (3, .int x3), (4, .int x4)] [] S P I Q) ∧ (¬ (I b3 j11) ≤ x2 → ∃ j14, ix x4 j14 (sL S b5) ∧ B g MX1_takeOrder 0 0 46 [(0, .ref r0), (1, .int x1), (2, .int x2), (3, .int x3), (4, .int (x4 + (-1)))] [] S P (u2 I b5 j14 (I b5 j8)) Q))))) : B g MX1_takeOrder 0 0 46 [(0, .ref r0), (1, .int x1), (2, .int x2), (3, .int x3), (4, .int x4)] [] S P I Q := by
  refine B.iload 4 dX1_takeOrder_46 rfl ?_
  refine B.if_le 91 dX1_takeOrder_48 (by decide) (fun q1 => ?_) (fun q1 => ?_)
  · replace h := h.1 q1
    exact h
  · replace h := h.2 q1
    refine B.aload_n 0 dX1_takeOrder_51 rfl rfl ?_
    obtain ⟨t2, h⟩ := h
    obtain ⟨b3, h⟩ := h
    obtain ⟨t4, h⟩ := h
    refine B.getP dX1_takeOrder_52 fl_1_32 t2 t4 ?_
    refine B.aload_n 0 dX1_takeOrder_55 rfl rfl ?_
    obtain ⟨b5, h⟩ := h
    obtain ⟨t6, h⟩ := h
    refine B.getP dX1_takeOrder_56 fl_1_38 t2 t6 ?_
    refine B.iload 4 dX1_takeOrder_59 rfl ?_
    refine B.iconst 1 dX1_takeOrder_61 (by decide) ?_
    refine B.isub dX1_takeOrder_62 ?_
    obtain ⟨t7, h⟩ := h
    obtain ⟨j8, h⟩ := h
    obtain ⟨t9, h⟩ := h
    refine B.iaload dX1_takeOrder_63 t7 t9 ?_
    obtain ⟨t10, h⟩ := h
    obtain ⟨j11, h⟩ := h
    obtain ⟨t12, h⟩ := h
    refine B.iaload dX1_takeOrder_64 t10 t12 ?_
    refine B.iload_n 2 dX1_takeOrder_65 rfl rfl ?_
    refine B.icmp_le 91 dX1_takeOrder_66 (by decide) (fun q13 => ?_) (fun q13 => ?_)
    · replace h := h.1 q13
      exact h
    · replace h := h.2 q13
      refine B.aload_n 0 dX1_takeOrder_69 rfl rfl ?_
      refine B.getP dX1_takeOrder_70 fl_1_38 t2 t6 ?_
      refine B.iload 4 dX1_takeOrder_73 rfl ?_
      refine B.aload_n 0 dX1_takeOrder_75 rfl rfl ?_
      refine B.getP dX1_takeOrder_76 fl_1_38 t2 t6 ?_
      refine B.iload 4 dX1_takeOrder_79 rfl ?_
      refine B.iconst 1 dX1_takeOrder_81 (by decide) ?_
      refine B.isub dX1_takeOrder_82 ?_
      refine B.iaload dX1_takeOrder_83 t7 t9 ?_
      obtain ⟨j14, h⟩ := h
      obtain ⟨t15, h⟩ := h
      refine B.iastore dX1_takeOrder_84 t7 t15 ?_
      refine B.iinc (lv' := [(0, .ref r0), (1, .int x1), (2, .int x2), (3, .int x3), (4, .int (x4 + (-1)))]) 4 (x4 + (-1)) dX1_takeOrder_85 rfl rfl (by decide) rfl ?_
      refine B.goto_ 46 dX1_takeOrder_88 (by decide) ?_
      exact h
theorem s_X1_takeOrder_91 {g : GT} {S : ST} {P : PT} {I : IT} {Q : QT} {r0 : Nat} {x1 : Int32} {x2 : Int32} {x3 : Int32} {x4 : Int32} (h : sT S r0 = 2 ∧ ∃ b2, P r0 8 = b2 + 1 ∧ sT S b2 = 40 ∧ ∃ j5, ix x4 j5 (sL S b2) ∧ Q none S P (u2 (u2 I b2 j5 (I r0 4)) r0 4 (((u2 I b2 j5 (I r0 4)) r0 4) + 1))) : B g MX1_takeOrder 0 0 91 [(0, .ref r0), (1, .int x1), (2, .int x2), (3, .int x3), (4, .int x4)] [] S P I Q := by
  refine B.aload_n 0 dX1_takeOrder_91 rfl rfl ?_
  obtain ⟨t1, h⟩ := h
  obtain ⟨b2, h⟩ := h
  obtain ⟨t3, h⟩ := h
  refine B.getP dX1_takeOrder_92 fl_1_38 t1 t3 ?_
  refine B.iload 4 dX1_takeOrder_95 rfl ?_
  refine B.aload_n 0 dX1_takeOrder_97 rfl rfl ?_
  refine B.getI dX1_takeOrder_98 fl_1_25 t1 ?_
  obtain ⟨t4, h⟩ := h
  obtain ⟨j5, h⟩ := h
  obtain ⟨t6, h⟩ := h
  refine B.iastore dX1_takeOrder_101 t4 t6 ?_
  refine B.aload_n 0 dX1_takeOrder_102 rfl rfl ?_
  refine B.dup dX1_takeOrder_103 rfl ?_
  refine B.getI dX1_takeOrder_104 fl_1_25 t1 ?_
  refine B.iconst 1 dX1_takeOrder_107 (by decide) ?_
  refine B.iadd dX1_takeOrder_108 ?_
  refine B.putI dX1_takeOrder_109 fw_1_25 t1 ?_
  refine B.return_ dX1_takeOrder_112 rfl ?_
  exact h
theorem s_X1_hasOrders_0 {g : GT} {S : ST} {P : PT} {I : IT} {Q : QT} {r0 : Nat} {x1 : Int32} (h : sT S r0 = 2 ∧ ((¬ ((x1).toUInt32 >>> (((I r0 4)).toUInt32 &&& Int32.toUInt32 31)).toInt32 = 0 → Q (some (.int 0)) S P I) ∧ (((x1).toUInt32 >>> (((I r0 4)).toUInt32 &&& Int32.toUInt32 31)).toInt32 = 0 → Q (some (.int 1)) S P I))) : B g MX1_hasOrders 0 0 0 [(0, .ref r0), (1, .int x1)] [] S P I Q := by
  refine B.iload_n 1 dX1_hasOrders_0 rfl rfl ?_
  refine B.aload_n 0 dX1_hasOrders_1 rfl rfl ?_
  obtain ⟨t1, h⟩ := h
  refine B.getI dX1_hasOrders_2 fl_1_25 t1 ?_
  refine B.iushr dX1_hasOrders_5 ?_
  refine B.if_ne 13 dX1_hasOrders_6 (by decide) (fun q2 => ?_) (fun q2 => ?_)
  · replace h := h.1 q2
    refine B.iconst 0 dX1_hasOrders_13 (by decide) ?_
    refine B.ireturn dX1_hasOrders_14 rfl rfl ?_
    exact h
  · replace h := h.2 q2
    refine B.iconst 1 dX1_hasOrders_9 (by decide) ?_
    refine B.goto_ 14 dX1_hasOrders_10 (by decide) ?_
    refine B.ireturn dX1_hasOrders_14 rfl rfl ?_
    exact h
theorem s_X1_canDo_0 {g : GT} {S : ST} {P : PT} {I : IT} {Q : QT} {r0 : Nat} {x1 : Int32} (h : B g MX1_canDo 0 0 4 [(0, .ref r0), (1, .int x1), (2, .int 0), (3, .int 0)] [] S P I Q) : B g MX1_canDo 0 0 0 [(0, .ref r0), (1, .int x1)] [] S P I Q := by
  refine B.iconst 0 dX1_canDo_0 (by decide) ?_
  refine B.istore_n (lv' := [(0, .ref r0), (1, .int x1), (2, .int 0)]) dX1_canDo_1 rfl (by decide) rfl ?_
  refine B.iconst 0 dX1_canDo_2 (by decide) ?_
  refine B.istore_n (lv' := [(0, .ref r0), (1, .int x1), (2, .int 0), (3, .int 0)]) dX1_canDo_3 rfl (by decide) rfl ?_
  exact h
theorem s_X1_canDo_4 {g : GT} {S : ST} {P : PT} {I : IT} {Q : QT} {r0 : Nat} {x1 : Int32} {x2 : Int32} {x3 : Int32} (h : sT S r0 = 2 ∧ (((I r0 4) ≤ x3 → Q (some (.int 1)) S P I) ∧ (¬ (I r0 4) ≤ x3 → ∃ b3, P r0 8 = b3 + 1 ∧ sT S b3 = 40 ∧ ∃ j6, ix x3 j6 (sL S b3) ∧ ((((x1 >>> ((I b3 j6) &&& 31)) &&& 1) = 0 → B g MX1_canDo 0 0 4 [(0, .ref r0), (1, .int x1), (2, .int x2), (3, .int (x3 + 1))] [] S P I Q) ∧ (¬ ((x1 >>> ((I b3 j6) &&& 31)) &&& 1) = 0 → ∃ b9, P r0 5 = b9 + 1 ∧ sT S b9 = 40 ∧ ∃ j12, ix (I b3 j6) j12 (sL S b9) ∧ ∃ b14, P r0 6 = b14 + 1 ∧ sT S b14 = 40 ∧ ∃ j17, ix (I b3 j6) j17 (sL S b14) ∧ (((x2 + (I b9 j12)) ≤ (I b14 j17) → B g MX1_canDo 0 0 4 [(0, .ref r0), (1, .int x1), (2, .int (x2 + (I b9 j12))), (3, .int (x3 + 1))] [] S P I Q) ∧ (¬ (x2 + (I b9 j12)) ≤ (I b14 j17) → Q (some (.int 0)) S P I))))))) : B g MX1_canDo 0 0 4 [(0, .ref r0), (1, .int x1), (2, .int x2), (3, .int x3)] [] S P I Q := by
  refine B.iload_n 3 dX1_canDo_4 rfl rfl ?_
  refine B.aload_n 0 dX1_canDo_5 rfl rfl ?_
  obtain ⟨t1, h⟩ := h
  refine B.getI dX1_canDo_6 fl_1_25 t1 ?_
  refine B.icmp_ge 58 dX1_canDo_9 (by decide) (fun q2 => ?_) (fun q2 => ?_)
  · replace h := h.1 q2
    refine B.iconst 1 dX1_canDo_58 (by decide) ?_
    refine B.ireturn dX1_canDo_59 rfl rfl ?_
    exact h
  · replace h := h.2 q2
    refine B.aload_n 0 dX1_canDo_12 rfl rfl ?_
    obtain ⟨b3, h⟩ := h
    obtain ⟨t4, h⟩ := h
    refine B.getP dX1_canDo_13 fl_1_38 t1 t4 ?_
    refine B.iload_n 3 dX1_canDo_16 rfl rfl ?_
    obtain ⟨t5, h⟩ := h
    obtain ⟨j6, h⟩ := h
    obtain ⟨t7, h⟩ := h
    refine B.iaload dX1_canDo_17 t5 t7 ?_
    refine B.istore (lv' := [(0, .ref r0), (1, .int x1), (2, .int x2), (3, .int x3), (4, .int (I b3 j6))]) dX1_canDo_18 (by decide) rfl ?_
    refine B.iload_n 1 dX1_canDo_20 rfl rfl ?_
    refine B.iload 4 dX1_canDo_21 rfl ?_
    refine B.ishr dX1_canDo_23 ?_
    refine B.iconst 1 dX1_canDo_24 (by decide) ?_
    refine B.iand dX1_canDo_25 ?_
    refine B.if_eq 52 dX1_canDo_26 (by decide) (fun q8 => ?_) (fun q8 => ?_)
    · replace h := h.1 q8
      refine B.iinc (lv' := [(0, .ref r0), (1, .int x1), (2, .int x2), (3, .int (x3 + 1)), (4, .int (I b3 j6))]) 3 (x3 + 1) dX1_canDo_52 rfl rfl (by decide) rfl ?_
      refine B.goto_ 4 dX1_canDo_55 (by decide) ?_
      refine B.lvs [(0, .ref r0), (1, .int x1), (2, .int x2), (3, .int (x3 + 1))] [0, 1, 2, 3] rfl ?_
      exact h
    · replace h := h.2 q8
      refine B.iload_n 2 dX1_canDo_29 rfl rfl ?_
      refine B.aload_n 0 dX1_canDo_30 rfl rfl ?_
      obtain ⟨b9, h⟩ := h
      obtain ⟨t10, h⟩ := h
      refine B.getP dX1_canDo_31 fl_1_28 t1 t10 ?_
      refine B.iload 4 dX1_canDo_34 rfl ?_
      obtain ⟨t11, h⟩ := h
      obtain ⟨j12, h⟩ := h
      obtain ⟨t13, h⟩ := h
      refine B.iaload dX1_canDo_36 t11 t13 ?_
      refine B.iadd dX1_canDo_37 ?_
      refine B.istore_n (lv' := [(0, .ref r0), (1, .int x1), (2, .int (x2 + (I b9 j12))), (3, .int x3), (4, .int (I b3 j6))]) dX1_canDo_38 rfl (by decide) rfl ?_
      refine B.iload_n 2 dX1_canDo_39 rfl rfl ?_
      refine B.aload_n 0 dX1_canDo_40 rfl rfl ?_
      obtain ⟨b14, h⟩ := h
      obtain ⟨t15, h⟩ := h
      refine B.getP dX1_canDo_41 fl_1_32 t1 t15 ?_
      refine B.iload 4 dX1_canDo_44 rfl ?_
      obtain ⟨t16, h⟩ := h
      obtain ⟨j17, h⟩ := h
      obtain ⟨t18, h⟩ := h
      refine B.iaload dX1_canDo_46 t16 t18 ?_
      refine B.icmp_le 52 dX1_canDo_47 (by decide) (fun q19 => ?_) (fun q19 => ?_)
      · replace h := h.1 q19
        refine B.iinc (lv' := [(0, .ref r0), (1, .int x1), (2, .int (x2 + (I b9 j12))), (3, .int (x3 + 1)), (4, .int (I b3 j6))]) 3 (x3 + 1) dX1_canDo_52 rfl rfl (by decide) rfl ?_
        refine B.goto_ 4 dX1_canDo_55 (by decide) ?_
        refine B.lvs [(0, .ref r0), (1, .int x1), (2, .int (x2 + (I b9 j12))), (3, .int (x3 + 1))] [0, 1, 2, 3] rfl ?_
        exact h
      · replace h := h.2 q19
        refine B.iconst 0 dX1_canDo_50 (by decide) ?_
        refine B.ireturn dX1_canDo_51 rfl rfl ?_
        exact h
theorem s_X1_worthOf_0 {g : GT} {S : ST} {P : PT} {I : IT} {Q : QT} {r0 : Nat} {x1 : Int32} (h : B g MX1_worthOf 0 0 4 [(0, .ref r0), (1, .int x1), (2, .int 0), (3, .int 0)] [] S P I Q) : B g MX1_worthOf 0 0 0 [(0, .ref r0), (1, .int x1)] [] S P I Q := by
  refine B.iconst 0 dX1_worthOf_0 (by decide) ?_
  refine B.istore_n (lv' := [(0, .ref r0), (1, .int x1), (2, .int 0)]) dX1_worthOf_1 rfl (by decide) rfl ?_
  refine B.iconst 0 dX1_worthOf_2 (by decide) ?_
  refine B.istore_n (lv' := [(0, .ref r0), (1, .int x1), (2, .int 0), (3, .int 0)]) dX1_worthOf_3 rfl (by decide) rfl ?_
  exact h
theorem s_X1_worthOf_4 {g : GT} {S : ST} {P : PT} {I : IT} {Q : QT} {r0 : Nat} {x1 : Int32} {x2 : Int32} {x3 : Int32} (h : sT S r0 = 2 ∧ (((I r0 4) ≤ x3 → Q (some (.int x2)) S P I) ∧ (¬ (I r0 4) ≤ x3 → ((((x1 >>> (x3 &&& 31)) &&& 1) = 0 → B g MX1_worthOf 0 0 4 [(0, .ref r0), (1, .int x1), (2, .int x2), (3, .int (x3 + 1))] [] S P I Q) ∧ (¬ ((x1 >>> (x3 &&& 31)) &&& 1) = 0 → ∃ b4, P r0 7 = b4 + 1 ∧ sT S b4 = 40 ∧ ∃ j7, ix x3 j7 (sL S b4) ∧ B g MX1_worthOf 0 0 4 [(0, .ref r0), (1, .int x1), (2, .int (x2 + (I b4 j7))), (3, .int (x3 + 1))] [] S P I Q))))) : B g MX1_worthOf 0 0 4 [(0, .ref r0), (1, .int x1), (2, .int x2), (3, .int x3)] [] S P I Q := by
  refine B.iload_n 3 dX1_worthOf_4 rfl rfl ?_
  refine B.aload_n 0 dX1_worthOf_5 rfl rfl ?_
  obtain ⟨t1, h⟩ := h
  refine B.getI dX1_worthOf_6 fl_1_25 t1 ?_
  refine B.icmp_ge 35 dX1_worthOf_9 (by decide) (fun q2 => ?_) (fun q2 => ?_)
  · replace h := h.1 q2
    refine B.iload_n 2 dX1_worthOf_35 rfl rfl ?_
    refine B.ireturn dX1_worthOf_36 rfl rfl ?_
    exact h
  · replace h := h.2 q2
    refine B.iload_n 1 dX1_worthOf_12 rfl rfl ?_
    refine B.iload_n 3 dX1_worthOf_13 rfl rfl ?_
    refine B.ishr dX1_worthOf_14 ?_
    refine B.iconst 1 dX1_worthOf_15 (by decide) ?_
    refine B.iand dX1_worthOf_16 ?_
    refine B.if_eq 29 dX1_worthOf_17 (by decide) (fun q3 => ?_) (fun q3 => ?_)
    · replace h := h.1 q3
      refine B.iinc (lv' := [(0, .ref r0), (1, .int x1), (2, .int x2), (3, .int (x3 + 1))]) 3 (x3 + 1) dX1_worthOf_29 rfl rfl (by decide) rfl ?_
      refine B.goto_ 4 dX1_worthOf_32 (by decide) ?_
      exact h
    · replace h := h.2 q3
      refine B.iload_n 2 dX1_worthOf_20 rfl rfl ?_
      refine B.aload_n 0 dX1_worthOf_21 rfl rfl ?_
      obtain ⟨b4, h⟩ := h
      obtain ⟨t5, h⟩ := h
      refine B.getP dX1_worthOf_22 fl_1_35 t1 t5 ?_
      refine B.iload_n 3 dX1_worthOf_25 rfl rfl ?_
      obtain ⟨t6, h⟩ := h
      obtain ⟨j7, h⟩ := h
      obtain ⟨t8, h⟩ := h
      refine B.iaload dX1_worthOf_26 t6 t8 ?_
      refine B.iadd dX1_worthOf_27 ?_
      refine B.istore_n (lv' := [(0, .ref r0), (1, .int x1), (2, .int (x2 + (I b4 j7))), (3, .int x3)]) dX1_worthOf_28 rfl (by decide) rfl ?_
      refine B.iinc (lv' := [(0, .ref r0), (1, .int x1), (2, .int (x2 + (I b4 j7))), (3, .int (x3 + 1))]) 3 (x3 + 1) dX1_worthOf_29 rfl rfl (by decide) rfl ?_
      refine B.goto_ 4 dX1_worthOf_32 (by decide) ?_
      exact h
theorem s_X1_bestOrders_0 {g : GT} {S : ST} {P : PT} {I : IT} {Q : QT} {r0 : Nat} (h : B g MX1_bestOrders 0 0 6 [(0, .ref r0), (1, .int 0), (2, .int 0), (3, .int 1)] [] S P I Q) : B g MX1_bestOrders 0 0 0 [(0, .ref r0)] [] S P I Q := by
  refine B.iconst 0 dX1_bestOrders_0 (by decide) ?_
  refine B.istore_n (lv' := [(0, .ref r0), (1, .int 0)]) dX1_bestOrders_1 rfl (by decide) rfl ?_
  refine B.iconst 0 dX1_bestOrders_2 (by decide) ?_
  refine B.istore_n (lv' := [(0, .ref r0), (1, .int 0), (2, .int 0)]) dX1_bestOrders_3 rfl (by decide) rfl ?_
  refine B.iconst 1 dX1_bestOrders_4 (by decide) ?_
  refine B.istore_n (lv' := [(0, .ref r0), (1, .int 0), (2, .int 0), (3, .int 1)]) dX1_bestOrders_5 rfl (by decide) rfl ?_
  exact h
theorem s_X1_bestOrders_6 {g : GT} {S : ST} {P : PT} {I : IT} {Q : QT} {r0 : Nat} {x1 : Int32} {x2 : Int32} {x3 : Int32} (h : sT S r0 = 2 ∧ (((1 <<< ((I r0 4) &&& 31)) ≤ x3 → Q (some (.int x1)) S P I) ∧ (¬ (1 <<< ((I r0 4) &&& 31)) ≤ x3 → T g MX1_worthOf 0 0 [.ref r0, .int x3] S P I (fun r S' P' I' => B g MX1_bestOrders 0 0 21 [(0, .ref r0), (1, .int x1), (2, .int x2), (3, .int x3)] (r.toList ++ []) S' P' I' Q)))) : B g MX1_bestOrders 0 0 6 [(0, .ref r0), (1, .int x1), (2, .int x2), (3, .int x3)] [] S P I Q := by
  refine B.iload_n 3 dX1_bestOrders_6 rfl rfl ?_
  refine B.iconst 1 dX1_bestOrders_7 (by decide) ?_
  refine B.aload_n 0 dX1_bestOrders_8 rfl rfl ?_
  obtain ⟨t1, h⟩ := h
  refine B.getI dX1_bestOrders_9 fl_1_25 t1 ?_
  refine B.ishl dX1_bestOrders_12 ?_
  refine B.icmp_ge 48 dX1_bestOrders_13 (by decide) (fun q2 => ?_) (fun q2 => ?_)
  · replace h := h.1 q2
    refine B.iload_n 1 dX1_bestOrders_48 rfl rfl ?_
    refine B.ireturn dX1_bestOrders_49 rfl rfl ?_
    exact h
  · replace h := h.2 q2
    refine B.aload_n 0 dX1_bestOrders_16 rfl rfl ?_
    refine B.iload_n 3 dX1_bestOrders_17 rfl rfl ?_
    refine B.callV (M' := MX1_worthOf) (rc := 0) (rs := 0) (mc := 0) (ms := 0) (st := []) [.int x3] dX1_bestOrders_18 mv_X1_worthOf lk_X1_47 ⟨Nat.le_of_ble_eq_true rfl, Nat.le_of_ble_eq_true rfl⟩ rfl rfl (Nat.le_of_ble_eq_true rfl) t1 ?_
    exact h
theorem s_X1_bestOrders_21 {g : GT} {S : ST} {P : PT} {I : IT} {Q : QT} {r0 : Nat} {x1 : Int32} {x2 : Int32} {x3 : Int32} {w_s0 : Int32} (h : ((w_s0 ≤ x2 → B g MX1_bestOrders 0 0 6 [(0, .ref r0), (1, .int x1), (2, .int x2), (3, .int (x3 + 1))] [] S P I Q) ∧ (¬ w_s0 ≤ x2 → sT S r0 = 2 ∧ T g MX1_canDo 0 0 [.ref r0, .int x3] S P I (fun r S' P' I' => B g MX1_bestOrders 0 0 34 [(0, .ref r0), (1, .int x1), (2, .int x2), (3, .int x3), (4, .int w_s0)] (r.toList ++ []) S' P' I' Q)))) : B g MX1_bestOrders 0 0 21 [(0, .ref r0), (1, .int x1), (2, .int x2), (3, .int x3)] [.int w_s0] S P I Q := by
  refine B.istore (lv' := [(0, .ref r0), (1, .int x1), (2, .int x2), (3, .int x3), (4, .int w_s0)]) dX1_bestOrders_21 (by decide) rfl ?_
  refine B.iload 4 dX1_bestOrders_23 rfl ?_
  refine B.iload_n 2 dX1_bestOrders_25 rfl rfl ?_
  refine B.icmp_le 42 dX1_bestOrders_26 (by decide) (fun q1 => ?_) (fun q1 => ?_)
  · replace h := h.1 q1
    refine B.iinc (lv' := [(0, .ref r0), (1, .int x1), (2, .int x2), (3, .int (x3 + 1)), (4, .int w_s0)]) 3 (x3 + 1) dX1_bestOrders_42 rfl rfl (by decide) rfl ?_
    refine B.goto_ 6 dX1_bestOrders_45 (by decide) ?_
    refine B.lvs [(0, .ref r0), (1, .int x1), (2, .int x2), (3, .int (x3 + 1))] [0, 1, 2, 3] rfl ?_
    exact h
  · replace h := h.2 q1
    refine B.aload_n 0 dX1_bestOrders_29 rfl rfl ?_
    refine B.iload_n 3 dX1_bestOrders_30 rfl rfl ?_
    obtain ⟨t2, h⟩ := h
    refine B.callV (M' := MX1_canDo) (rc := 0) (rs := 0) (mc := 0) (ms := 0) (st := []) [.int x3] dX1_bestOrders_31 mv_X1_canDo lk_X1_51 ⟨Nat.le_of_ble_eq_true rfl, Nat.le_of_ble_eq_true rfl⟩ rfl rfl (Nat.le_of_ble_eq_true rfl) t2 ?_
    exact h
theorem s_X1_bestOrders_34 {g : GT} {S : ST} {P : PT} {I : IT} {Q : QT} {r0 : Nat} {x1 : Int32} {x2 : Int32} {x3 : Int32} {x4 : Int32} {w_s0 : Int32} (h : ((w_s0 = 0 → B g MX1_bestOrders 0 0 6 [(0, .ref r0), (1, .int x1), (2, .int x2), (3, .int (x3 + 1))] [] S P I Q) ∧ (¬ w_s0 = 0 → B g MX1_bestOrders 0 0 6 [(0, .ref r0), (1, .int x3), (2, .int x4), (3, .int (x3 + 1))] [] S P I Q))) : B g MX1_bestOrders 0 0 34 [(0, .ref r0), (1, .int x1), (2, .int x2), (3, .int x3), (4, .int x4)] [.int w_s0] S P I Q := by
  refine B.if_eq 42 dX1_bestOrders_34 (by decide) (fun q1 => ?_) (fun q1 => ?_)
  · replace h := h.1 q1
    refine B.iinc (lv' := [(0, .ref r0), (1, .int x1), (2, .int x2), (3, .int (x3 + 1)), (4, .int x4)]) 3 (x3 + 1) dX1_bestOrders_42 rfl rfl (by decide) rfl ?_
    refine B.goto_ 6 dX1_bestOrders_45 (by decide) ?_
    refine B.lvs [(0, .ref r0), (1, .int x1), (2, .int x2), (3, .int (x3 + 1))] [0, 1, 2, 3] rfl ?_
    exact h
  · replace h := h.2 q1
    refine B.iload_n 3 dX1_bestOrders_37 rfl rfl ?_
    refine B.istore_n (lv' := [(0, .ref r0), (1, .int x3), (2, .int x2), (3, .int x3), (4, .int x4)]) dX1_bestOrders_38 rfl (by decide) rfl ?_
    refine B.iload 4 dX1_bestOrders_39 rfl ?_
    refine B.istore_n (lv' := [(0, .ref r0), (1, .int x3), (2, .int x4), (3, .int x3), (4, .int x4)]) dX1_bestOrders_41 rfl (by decide) rfl ?_
    refine B.iinc (lv' := [(0, .ref r0), (1, .int x3), (2, .int x4), (3, .int (x3 + 1)), (4, .int x4)]) 3 (x3 + 1) dX1_bestOrders_42 rfl rfl (by decide) rfl ?_
    refine B.goto_ 6 dX1_bestOrders_45 (by decide) ?_
    refine B.lvs [(0, .ref r0), (1, .int x3), (2, .int x4), (3, .int (x3 + 1))] [0, 1, 2, 3] rfl ?_
    exact h
theorem s_X2_build_0 {g : GT} {S : ST} {P : PT} {I : IT} {Q : QT} {r0 : Nat} {x1 : Int32} (h : sT S r0 = 3 ∧ B g MX2_build 0 0 7 [(0, .ref r0), (1, .int x1), (2, .int 0)] [] S P (u2 I r0 0 x1) Q) : B g MX2_build 0 0 0 [(0, .ref r0), (1, .int x1)] [] S P I Q := by
  refine B.aload_n 0 dX2_build_0 rfl rfl ?_
  refine B.iload_n 1 dX2_build_1 rfl rfl ?_
  obtain ⟨t1, h⟩ := h
  refine B.putI dX2_build_2 fw_2_9 t1 ?_
  refine B.iconst 0 dX2_build_5 (by decide) ?_
  refine B.istore_n (lv' := [(0, .ref r0), (1, .int x1), (2, .int 0)]) dX2_build_6 rfl (by decide) rfl ?_
  exact h
theorem s_X2_build_7 {g : GT} {S : ST} {P : PT} {I : IT} {Q : QT} {r0 : Nat} {x1 : Int32} {x2 : Int32} (h : ((6 ≤ x2 → B g MX2_build 0 0 29 [(0, .ref r0), (1, .int x1), (2, .int 0)] [] S P I Q) ∧ (¬ 6 ≤ x2 → sT S r0 = 3 ∧ ∃ b3, P r0 3 = b3 + 1 ∧ sT S b3 = 40 ∧ ∃ j6, ix x2 j6 (sL S b3) ∧ B g MX2_build 0 0 7 [(0, .ref r0), (1, .int x1), (2, .int (x2 + 1))] [] S P (u2 I b3 j6 20) Q))) : B g MX2_build 0 0 7 [(0, .ref r0), (1, .int x1), (2, .int x2)] [] S P I Q := by
  refine B.iload_n 2 dX2_build_7 rfl rfl ?_
  refine B.bipush 6 dX2_build_8 (by decide) ?_
  refine B.icmp_ge 27 dX2_build_10 (by decide) (fun q1 => ?_) (fun q1 => ?_)
  · replace h := h.1 q1
    refine B.iconst 0 dX2_build_27 (by decide) ?_
    refine B.istore_n (lv' := [(0, .ref r0), (1, .int x1), (2, .int 0)]) dX2_build_28 rfl (by decide) rfl ?_
    exact h
  · replace h := h.2 q1
    refine B.aload_n 0 dX2_build_13 rfl rfl ?_
    obtain ⟨t2, h⟩ := h
    obtain ⟨b3, h⟩ := h
    obtain ⟨t4, h⟩ := h
    refine B.getP dX2_build_14 fl_2_21 t2 t4 ?_
    refine B.iload_n 2 dX2_build_17 rfl rfl ?_
    refine B.bipush 20 dX2_build_18 (by decide) ?_
    obtain ⟨t5, h⟩ := h
    obtain ⟨j6, h⟩ := h
    obtain ⟨t7, h⟩ := h
    refine B.iastore dX2_build_20 t5 t7 ?_
    refine B.iinc (lv' := [(0, .ref r0), (1, .int x1), (2, .int (x2 + 1))]) 2 (x2 + 1) dX2_build_21 rfl rfl (by decide) rfl ?_
    refine B.goto_ 7 dX2_build_24 (by decide) ?_
    exact h
theorem s_X2_build_29 {g : GT} {S : ST} {P : PT} {I : IT} {Q : QT} {r0 : Nat} {x1 : Int32} {x2 : Int32} (h : ((24 ≤ x2 → Q none S P I) ∧ (¬ 24 ≤ x2 → sT S r0 = 3 ∧ ∃ b3, P r0 5 = b3 + 1 ∧ sT S b3 = 40 ∧ ∃ j6, ix x2 j6 (sL S b3) ∧ B g MX2_build 0 0 29 [(0, .ref r0), (1, .int x1), (2, .int (x2 + 1))] [] S P (u2 I b3 j6 ((10 - (x2 / 4)) + (x2 - (x2 / 4) * 4))) Q))) : B g MX2_build 0 0 29 [(0, .ref r0), (1, .int x1), (2, .int x2)] [] S P I Q := by
  refine B.iload_n 2 dX2_build_29 rfl rfl ?_
  refine B.bipush 24 dX2_build_30 (by decide) ?_
  refine B.icmp_ge 57 dX2_build_32 (by decide) (fun q1 => ?_) (fun q1 => ?_)
  · replace h := h.1 q1
    refine B.return_ dX2_build_57 rfl ?_
    exact h
  · replace h := h.2 q1
    refine B.aload_n 0 dX2_build_35 rfl rfl ?_
    obtain ⟨t2, h⟩ := h
    obtain ⟨b3, h⟩ := h
    obtain ⟨t4, h⟩ := h
    refine B.getP dX2_build_36 fl_2_28 t2 t4 ?_
    refine B.iload_n 2 dX2_build_39 rfl rfl ?_
    refine B.bipush 10 dX2_build_40 (by decide) ?_
    refine B.iload_n 2 dX2_build_42 rfl rfl ?_
    refine B.iconst 4 dX2_build_43 (by decide) ?_
    refine B.idiv dX2_build_44 (by decide) ?_
    refine B.isub dX2_build_45 ?_
    refine B.iload_n 2 dX2_build_46 rfl rfl ?_
    refine B.iconst 4 dX2_build_47 (by decide) ?_
    refine B.irem dX2_build_48 (by decide) ?_
    refine B.iadd dX2_build_49 ?_
    obtain ⟨t5, h⟩ := h
    obtain ⟨j6, h⟩ := h
    obtain ⟨t7, h⟩ := h
    refine B.iastore dX2_build_50 t5 t7 ?_
    refine B.iinc (lv' := [(0, .ref r0), (1, .int x1), (2, .int (x2 + 1))]) 2 (x2 + 1) dX2_build_51 rfl rfl (by decide) rfl ?_
    refine B.goto_ 29 dX2_build_54 (by decide) ?_
    exact h
theorem s_X2_clear_0 {g : GT} {S : ST} {P : PT} {I : IT} {Q : QT} {r0 : Nat} (h : B g MX2_clear 0 0 2 [(0, .ref r0), (1, .int 0)] [] S P I Q) : B g MX2_clear 0 0 0 [(0, .ref r0)] [] S P I Q := by
  refine B.iconst 0 dX2_clear_0 (by decide) ?_
  refine B.istore_n (lv' := [(0, .ref r0), (1, .int 0)]) dX2_clear_1 rfl (by decide) rfl ?_
  exact h
theorem s_X2_clear_2 {g : GT} {S : ST} {P : PT} {I : IT} {Q : QT} {r0 : Nat} {x1 : Int32} (h : ((24 ≤ x1 → Q none S P I) ∧ (¬ 24 ≤ x1 → sT S r0 = 3 ∧ ∃ b3, P r0 6 = b3 + 1 ∧ sT S b3 = 40 ∧ ∃ j6, ix x1 j6 (sL S b3) ∧ B g MX2_clear 0 0 2 [(0, .ref r0), (1, .int (x1 + 1))] [] S P (u2 I b3 j6 (-1)) Q))) : B g MX2_clear 0 0 2 [(0, .ref r0), (1, .int x1)] [] S P I Q := by
  refine B.iload_n 1 dX2_clear_2 rfl rfl ?_
  refine B.bipush 24 dX2_clear_3 (by decide) ?_
  refine B.icmp_ge 21 dX2_clear_5 (by decide) (fun q1 => ?_) (fun q1 => ?_)
  · replace h := h.1 q1
    refine B.return_ dX2_clear_21 rfl ?_
    exact h
  · replace h := h.2 q1
    refine B.aload_n 0 dX2_clear_8 rfl rfl ?_
    obtain ⟨t2, h⟩ := h
    obtain ⟨b3, h⟩ := h
    obtain ⟨t4, h⟩ := h
    refine B.getP dX2_clear_9 fl_2_31 t2 t4 ?_
    refine B.iload_n 1 dX2_clear_12 rfl rfl ?_
    refine B.iconst (-1) dX2_clear_13 (by decide) ?_
    obtain ⟨t5, h⟩ := h
    obtain ⟨j6, h⟩ := h
    obtain ⟨t7, h⟩ := h
    refine B.iastore dX2_clear_14 t5 t7 ?_
    refine B.iinc (lv' := [(0, .ref r0), (1, .int (x1 + 1))]) 1 (x1 + 1) dX2_clear_15 rfl rfl (by decide) rfl ?_
    refine B.goto_ 2 dX2_clear_18 (by decide) ?_
    exact h
theorem s_X2_copyFrom_0 {g : GT} {S : ST} {P : PT} {I : IT} {Q : QT} {r0 : Nat} {r1 : Nat} (h : sT S r1 = 3 ∧ sT S r0 = 3 ∧ ∃ b3, P r1 3 = b3 + 1 ∧ ∃ b5, P r0 3 = b5 + 1 ∧ sT S b3 = 40 ∧ sT S b5 = 40 ∧ 6 ≤ sL S b3 ∧ 6 ≤ sL S b5 ∧ ∃ b11, P r1 5 = b11 + 1 ∧ ∃ b13, P r0 5 = b13 + 1 ∧ sT S b11 = 40 ∧ sT S b13 = 40 ∧ 24 ≤ sL S b11 ∧ 24 ≤ sL S b13 ∧ ∃ b19, P r1 6 = b19 + 1 ∧ ∃ b21, P r0 6 = b21 + 1 ∧ sT S b19 = 40 ∧ sT S b21 = 40 ∧ 24 ≤ sL S b19 ∧ 24 ≤ sL S b21 ∧ Q none S P (cpI (cpI (cpI (u2 (u2 (u2 I r0 0 (I r1 0)) r0 1 (I r1 1)) r0 2 (I r1 2)) b3 b5 6) b11 b13 24) b19 b21 24)) : B g MX2_copyFrom 0 0 0 [(0, .ref r0), (1, .ref r1)] [] S P I Q := by
  refine B.aload_n 0 dX2_copyFrom_0 rfl rfl ?_
  refine B.aload_n 1 dX2_copyFrom_1 rfl rfl ?_
  obtain ⟨t1, h⟩ := h
  refine B.getI dX2_copyFrom_2 fl_2_9 t1 ?_
  obtain ⟨t2, h⟩ := h
  refine B.putI dX2_copyFrom_5 fw_2_9 t2 ?_
  refine B.aload_n 0 dX2_copyFrom_8 rfl rfl ?_
  refine B.aload_n 1 dX2_copyFrom_9 rfl rfl ?_
  refine B.getI dX2_copyFrom_10 fl_2_15 t1 ?_
  rw [u2_k (I := I) (a := r0) (k := 0) (b := r1) (j := 1) (x := (I r1 0)) (by decide)]
  refine B.putI dX2_copyFrom_13 fw_2_15 t2 ?_
  refine B.aload_n 0 dX2_copyFrom_16 rfl rfl ?_
  refine B.aload_n 1 dX2_copyFrom_17 rfl rfl ?_
  refine B.getI dX2_copyFrom_18 fl_2_18 t1 ?_
  rw [u2_k (I := (u2 I r0 0 (I r1 0))) (a := r0) (k := 1) (b := r1) (j := 2) (x := (I r1 1)) (by decide)]
  rw [u2_k (I := I) (a := r0) (k := 0) (b := r1) (j := 2) (x := (I r1 0)) (by decide)]
  refine B.putI dX2_copyFrom_21 fw_2_18 t2 ?_
  refine B.aload_n 1 dX2_copyFrom_24 rfl rfl ?_
  obtain ⟨b3, h⟩ := h
  obtain ⟨t4, h⟩ := h
  refine B.getP dX2_copyFrom_25 fl_2_21 t1 t4 ?_
  refine B.iconst 0 dX2_copyFrom_28 (by decide) ?_
  refine B.aload_n 0 dX2_copyFrom_29 rfl rfl ?_
  obtain ⟨b5, h⟩ := h
  obtain ⟨t6, h⟩ := h
  refine B.getP dX2_copyFrom_30 fl_2_21 t2 t6 ?_
  refine B.iconst 0 dX2_copyFrom_33 (by decide) ?_
  refine B.bipush 6 dX2_copyFrom_34 (by decide) ?_
  obtain ⟨t7, h⟩ := h
  obtain ⟨t8, h⟩ := h
  obtain ⟨t9, h⟩ := h
  obtain ⟨t10, h⟩ := h
  refine B.copy (t := 0) (n := 6) (by decide) (fun _ _ => rfl) rfl dX2_copyFrom_36 lk_X2_41 (by decide) (by decide) (Nat.le_of_ble_eq_true rfl) t7 t8 (by decide) (by decide) t9 t10 ?_
  refine B.aload_n 1 dX2_copyFrom_39 rfl rfl ?_
  obtain ⟨b11, h⟩ := h
  obtain ⟨t12, h⟩ := h
  refine B.getP dX2_copyFrom_40 fl_2_28 t1 t12 ?_
  refine B.iconst 0 dX2_copyFrom_43 (by decide) ?_
  refine B.aload_n 0 dX2_copyFrom_44 rfl rfl ?_
  obtain ⟨b13, h⟩ := h
  obtain ⟨t14, h⟩ := h
  refine B.getP dX2_copyFrom_45 fl_2_28 t2 t14 ?_
  refine B.iconst 0 dX2_copyFrom_48 (by decide) ?_
  refine B.bipush 24 dX2_copyFrom_49 (by decide) ?_
  obtain ⟨t15, h⟩ := h
  obtain ⟨t16, h⟩ := h
  obtain ⟨t17, h⟩ := h
  obtain ⟨t18, h⟩ := h
  refine B.copy (t := 0) (n := 24) (by decide) (fun _ _ => rfl) rfl dX2_copyFrom_51 lk_X2_41 (by decide) (by decide) (Nat.le_of_ble_eq_true rfl) t15 t16 (by decide) (by decide) t17 t18 ?_
  refine B.aload_n 1 dX2_copyFrom_54 rfl rfl ?_
  obtain ⟨b19, h⟩ := h
  obtain ⟨t20, h⟩ := h
  refine B.getP dX2_copyFrom_55 fl_2_31 t1 t20 ?_
  refine B.iconst 0 dX2_copyFrom_58 (by decide) ?_
  refine B.aload_n 0 dX2_copyFrom_59 rfl rfl ?_
  obtain ⟨b21, h⟩ := h
  obtain ⟨t22, h⟩ := h
  refine B.getP dX2_copyFrom_60 fl_2_31 t2 t22 ?_
  refine B.iconst 0 dX2_copyFrom_63 (by decide) ?_
  refine B.bipush 24 dX2_copyFrom_64 (by decide) ?_
  obtain ⟨t23, h⟩ := h
  obtain ⟨t24, h⟩ := h
  obtain ⟨t25, h⟩ := h
  obtain ⟨t26, h⟩ := h
  refine B.copy (t := 0) (n := 24) (by decide) (fun _ _ => rfl) rfl dX2_copyFrom_66 lk_X2_41 (by decide) (by decide) (Nat.le_of_ble_eq_true rfl) t23 t24 (by decide) (by decide) t25 t26 ?_
  refine B.return_ dX2_copyFrom_69 rfl ?_
  exact h
theorem s_X2_hasChamber_0 {g : GT} {S : ST} {P : PT} {I : IT} {Q : QT} {r0 : Nat} {x1 : Int32} (h : sT S r0 = 3 ∧ Q (some (.int (wi x1 0 ((I r0 0) - 1)))) S P I) : B g MX2_hasChamber 0 0 0 [(0, .ref r0), (1, .int x1)] [] S P I Q := by
  refine B.iload_n 1 dX2_hasChamber_0 rfl rfl ?_
  refine B.iconst 0 dX2_hasChamber_1 (by decide) ?_
  refine B.aload_n 0 dX2_hasChamber_2 rfl rfl ?_
  obtain ⟨t1, h⟩ := h
  refine B.getI dX2_hasChamber_3 fl_2_9 t1 ?_
  refine B.iconst 1 dX2_hasChamber_6 (by decide) ?_
  refine B.isub dX2_hasChamber_7 ?_
  refine B.callSN (M' := MX8_within) (rc := 0) (rs := 0) (mc := 0) (ms := 0) (st := []) [.int x1, .int 0, .int ((I r0 0) - 1)] "KilnVillage" dX2_hasChamber_8 ms_X8_within ⟨595, by decide +kernel⟩ ⟨Nat.le_of_ble_eq_true rfl, Nat.le_of_ble_eq_true rfl⟩ rfl rfl (Nat.le_of_ble_eq_true rfl) (t_within ?_)
  show B g MX2_hasChamber 0 0 11 [(0, .ref r0), (1, .int x1)] [.int (wi x1 0 ((I r0 0) - 1))] S P I _
  refine B.ireturn dX2_hasChamber_11 rfl (nar_z (wi_01 _ _ _)) ?_
  exact h
theorem s_X2_hasPlace_0 {g : GT} {S : ST} {P : PT} {I : IT} {Q : QT} {r0 : Nat} {x1 : Int32} {x2 : Int32} (h : sT S r0 = 3 ∧ (((wi x1 0 ((I r0 0) - 1)) = 0 → Q (some (.int 0)) S P I) ∧ (¬ (wi x1 0 ((I r0 0) - 1)) = 0 → (((wi x2 0 3) = 0 → Q (some (.int 0)) S P I) ∧ (¬ (wi x2 0 3) = 0 → Q (some (.int 1)) S P I))))) : B g MX2_hasPlace 0 0 0 [(0, .ref r0), (1, .int x1), (2, .int x2)] [] S P I Q := by
  refine B.aload_n 0 dX2_hasPlace_0 rfl rfl ?_
  refine B.iload_n 1 dX2_hasPlace_1 rfl rfl ?_
  obtain ⟨t1, h⟩ := h
  refine B.callV (M' := MX2_hasChamber) (rc := 0) (rs := 0) (mc := 0) (ms := 0) (st := []) [.int x1] dX2_hasPlace_2 mv_X2_hasChamber lk_X2_51 ⟨Nat.le_of_ble_eq_true rfl, Nat.le_of_ble_eq_true rfl⟩ rfl rfl (Nat.le_of_ble_eq_true rfl) t1 ?_
  refine T_of rfl (Nat.le_of_ble_eq_true rfl) ?_
  show B g MX2_hasChamber 0 0 0 [(0, .ref r0), (1, .int x1)] [] S P I _
  refine B.iload_n 1 dX2_hasChamber_0 rfl rfl ?_
  refine B.iconst 0 dX2_hasChamber_1 (by decide) ?_
  refine B.aload_n 0 dX2_hasChamber_2 rfl rfl ?_
  refine B.getI dX2_hasChamber_3 fl_2_9 t1 ?_
  refine B.iconst 1 dX2_hasChamber_6 (by decide) ?_
  refine B.isub dX2_hasChamber_7 ?_
  refine B.callSN (M' := MX8_within) (rc := 0) (rs := 0) (mc := 0) (ms := 0) (st := []) [.int x1, .int 0, .int ((I r0 0) - 1)] "KilnVillage" dX2_hasChamber_8 ms_X8_within ⟨595, by decide +kernel⟩ ⟨Nat.le_of_ble_eq_true rfl, Nat.le_of_ble_eq_true rfl⟩ rfl rfl (Nat.le_of_ble_eq_true rfl) (t_within ?_)
  show B g MX2_hasChamber 0 0 11 [(0, .ref r0), (1, .int x1)] [.int (wi x1 0 ((I r0 0) - 1))] S P I _
  refine B.ireturn dX2_hasChamber_11 rfl (nar_z (wi_01 _ _ _)) ?_
  show B g MX2_hasPlace 0 0 5 [(0, .ref r0), (1, .int x1), (2, .int x2)] [.int (wi x1 0 ((I r0 0) - 1))] S P I _
  refine B.if_eq 21 dX2_hasPlace_5 (by decide) (fun q2 => ?_) (fun q2 => ?_)
  · replace h := h.1 q2
    refine B.iconst 0 dX2_hasPlace_21 (by decide) ?_
    refine B.ireturn dX2_hasPlace_22 rfl rfl ?_
    exact h
  · replace h := h.2 q2
    refine B.iload_n 2 dX2_hasPlace_8 rfl rfl ?_
    refine B.iconst 0 dX2_hasPlace_9 (by decide) ?_
    refine B.iconst 3 dX2_hasPlace_10 (by decide) ?_
    refine B.callSN (M' := MX8_within) (rc := 0) (rs := 0) (mc := 0) (ms := 0) (st := []) [.int x2, .int 0, .int 3] "KilnVillage" dX2_hasPlace_11 ms_X8_within ⟨595, by decide +kernel⟩ ⟨Nat.le_of_ble_eq_true rfl, Nat.le_of_ble_eq_true rfl⟩ rfl rfl (Nat.le_of_ble_eq_true rfl) (t_within ?_)
    show B g MX2_hasPlace 0 0 14 [(0, .ref r0), (1, .int x1), (2, .int x2)] [.int (wi x2 0 3)] S P I _
    refine B.if_eq 21 dX2_hasPlace_14 (by decide) (fun q3 => ?_) (fun q3 => ?_)
    · replace h := h.1 q3
      refine B.iconst 0 dX2_hasPlace_21 (by decide) ?_
      refine B.ireturn dX2_hasPlace_22 rfl rfl ?_
      exact h
    · replace h := h.2 q3
      refine B.iconst 1 dX2_hasPlace_17 (by decide) ?_
      refine B.goto_ 22 dX2_hasPlace_18 (by decide) ?_
      refine B.ireturn dX2_hasPlace_22 rfl rfl ?_
      exact h
theorem s_X2_burn_0 {g : GT} {S : ST} {P : PT} {I : IT} {Q : QT} {r0 : Nat} {x1 : Int32} {x2 : Int32} (h : sT S r0 = 3 ∧ ∃ b2, P r0 3 = b2 + 1 ∧ ∃ b4, P r0 4 = b4 + 1 ∧ sT S b2 = 40 ∧ sT S b4 = 40 ∧ 6 ≤ sL S b2 ∧ 6 ≤ sL S b4 ∧ B g MX2_burn 0 0 17 [(0, .ref r0), (1, .int x1), (2, .int x2), (3, .int 0)] [] S P (cpI I b2 b4 6) Q) : B g MX2_burn 0 0 0 [(0, .ref r0), (1, .int x1), (2, .int x2)] [] S P I Q := by
  refine B.aload_n 0 dX2_burn_0 rfl rfl ?_
  obtain ⟨t1, h⟩ := h
  obtain ⟨b2, h⟩ := h
  obtain ⟨t3, h⟩ := h
  refine B.getP dX2_burn_1 fl_2_21 t1 t3 ?_
  refine B.iconst 0 dX2_burn_4 (by decide) ?_
  refine B.aload_n 0 dX2_burn_5 rfl rfl ?_
  obtain ⟨b4, h⟩ := h
  obtain ⟨t5, h⟩ := h
  refine B.getP dX2_burn_6 fl_2_25 t1 t5 ?_
  refine B.iconst 0 dX2_burn_9 (by decide) ?_
  refine B.bipush 6 dX2_burn_10 (by decide) ?_
  obtain ⟨t6, h⟩ := h
  obtain ⟨t7, h⟩ := h
  obtain ⟨t8, h⟩ := h
  obtain ⟨t9, h⟩ := h
  refine B.copy (t := 0) (n := 6) (by decide) (fun _ _ => rfl) rfl dX2_burn_12 lk_X2_41 (by decide) (by decide) (Nat.le_of_ble_eq_true rfl) t6 t7 (by decide) (by decide) t8 t9 ?_
  refine B.iconst 0 dX2_burn_15 (by decide) ?_
  refine B.istore_n (lv' := [(0, .ref r0), (1, .int x1), (2, .int x2), (3, .int 0)]) dX2_burn_16 rfl (by decide) rfl ?_
  exact h
theorem s_X2_burn_17 {g : GT} {S : ST} {P : PT} {I : IT} {Q : QT} {r0 : Nat} {x1 : Int32} {x2 : Int32} {x3 : Int32} (h : sT S r0 = 3 ∧ (((I r0 0) ≤ x3 → B g MX2_burn 0 0 54 [(0, .ref r0), (1, .int x1), (2, .int x2), (3, .int 0)] [] S P I Q) ∧ (¬ (I r0 0) ≤ x3 → ∃ b3, P r0 3 = b3 + 1 ∧ sT S b3 = 40 ∧ ∃ j6, ix x3 j6 (sL S b3) ∧ ∃ b8, P r0 4 = b8 + 1 ∧ sT S b8 = 40 ∧ ∃ j11, ix x3 j11 (sL S b8) ∧ B g MX2_burn 0 0 17 [(0, .ref r0), (1, .int x1), (2, .int x2), (3, .int (x3 + 1))] [] S P (u2 I b3 j6 ((I b3 j6) - (((I b8 j11) - 20) / 16))) Q))) : B g MX2_burn 0 0 17 [(0, .ref r0), (1, .int x1), (2, .int x2), (3, .int x3)] [] S P I Q := by
  refine B.iload_n 3 dX2_burn_17 rfl rfl ?_
  refine B.aload_n 0 dX2_burn_18 rfl rfl ?_
  obtain ⟨t1, h⟩ := h
  refine B.getI dX2_burn_19 fl_2_9 t1 ?_
  refine B.icmp_ge 52 dX2_burn_22 (by decide) (fun q2 => ?_) (fun q2 => ?_)
  · replace h := h.1 q2
    refine B.iconst 0 dX2_burn_52 (by decide) ?_
    refine B.istore_n (lv' := [(0, .ref r0), (1, .int x1), (2, .int x2), (3, .int 0)]) dX2_burn_53 rfl (by decide) rfl ?_
    exact h
  · replace h := h.2 q2
    refine B.aload_n 0 dX2_burn_25 rfl rfl ?_
    obtain ⟨b3, h⟩ := h
    obtain ⟨t4, h⟩ := h
    refine B.getP dX2_burn_26 fl_2_21 t1 t4 ?_
    refine B.iload_n 3 dX2_burn_29 rfl rfl ?_
    refine B.dup2 dX2_burn_30 rfl rfl ?_
    obtain ⟨t5, h⟩ := h
    obtain ⟨j6, h⟩ := h
    obtain ⟨t7, h⟩ := h
    refine B.iaload dX2_burn_31 t5 t7 ?_
    refine B.aload_n 0 dX2_burn_32 rfl rfl ?_
    obtain ⟨b8, h⟩ := h
    obtain ⟨t9, h⟩ := h
    refine B.getP dX2_burn_33 fl_2_25 t1 t9 ?_
    refine B.iload_n 3 dX2_burn_36 rfl rfl ?_
    obtain ⟨t10, h⟩ := h
    obtain ⟨j11, h⟩ := h
    obtain ⟨t12, h⟩ := h
    refine B.iaload dX2_burn_37 t10 t12 ?_
    refine B.bipush 20 dX2_burn_38 (by decide) ?_
    refine B.isub dX2_burn_40 ?_
    refine B.bipush 16 dX2_burn_41 (by decide) ?_
    refine B.idiv dX2_burn_43 (by decide) ?_
    refine B.isub dX2_burn_44 ?_
    refine B.iastore dX2_burn_45 t5 t7 ?_
    refine B.iinc (lv' := [(0, .ref r0), (1, .int x1), (2, .int x2), (3, .int (x3 + 1))]) 3 (x3 + 1) dX2_burn_46 rfl rfl (by decide) rfl ?_
    refine B.goto_ 17 dX2_burn_49 (by decide) ?_
    exact h
theorem s_X2_burn_54 {g : GT} {S : ST} {P : PT} {I : IT} {Q : QT} {r0 : Nat} {x1 : Int32} {x2 : Int32} {x3 : Int32} (h : sT S r0 = 3 ∧ (((I r0 0) ≤ (x3 + 1) → ∃ b3, P r0 3 = b3 + 1 ∧ sT S b3 = 40 ∧ ∃ j6, ix x1 j6 (sL S b3) ∧ Q none S P (u2 (u2 (u2 I b3 j6 ((I b3 j6) + (60 * x2))) r0 1 (((u2 I b3 j6 ((I b3 j6) + (60 * x2))) r0 1) + 1)) r0 2 (((u2 I b3 j6 ((I b3 j6) + (60 * x2))) r0 2) + x2))) ∧ (¬ (I r0 0) ≤ (x3 + 1) → ∃ b8, P r0 4 = b8 + 1 ∧ sT S b8 = 40 ∧ ∃ j11, ix x3 j11 (sL S b8) ∧ ∃ j13, ix (x3 + 1) j13 (sL S b8) ∧ ∃ b15, P r0 3 = b15 + 1 ∧ sT S b15 = 40 ∧ ∃ j18, ix x3 j18 (sL S b15) ∧ ∃ j20, ix (x3 + 1) j20 (sL S b15) ∧ B g MX2_burn 0 0 54 [(0, .ref r0), (1, .int x1), (2, .int x2), (3, .int (x3 + 1))] [] S P (u2 (u2 I b15 j18 ((I b15 j18) - (((I b8 j11) - (I b8 j13)) / 4))) b15 j20 (((u2 I b15 j18 ((I b15 j18) - (((I b8 j11) - (I b8 j13)) / 4))) b15 j20) + (((I b8 j11) - (I b8 j13)) / 4))) Q))) : B g MX2_burn 0 0 54 [(0, .ref r0), (1, .int x1), (2, .int x2), (3, .int x3)] [] S P I Q := by
  refine B.iload_n 3 dX2_burn_54 rfl rfl ?_
  refine B.iconst 1 dX2_burn_55 (by decide) ?_
  refine B.iadd dX2_burn_56 ?_
  refine B.aload_n 0 dX2_burn_57 rfl rfl ?_
  obtain ⟨t1, h⟩ := h
  refine B.getI dX2_burn_58 fl_2_9 t1 ?_
  refine B.icmp_ge 113 dX2_burn_61 (by decide) (fun q2 => ?_) (fun q2 => ?_)
  · replace h := h.1 q2
    refine B.aload_n 0 dX2_burn_113 rfl rfl ?_
    obtain ⟨b3, h⟩ := h
    obtain ⟨t4, h⟩ := h
    refine B.getP dX2_burn_114 fl_2_21 t1 t4 ?_
    refine B.iload_n 1 dX2_burn_117 rfl rfl ?_
    refine B.dup2 dX2_burn_118 rfl rfl ?_
    obtain ⟨t5, h⟩ := h
    obtain ⟨j6, h⟩ := h
    obtain ⟨t7, h⟩ := h
    refine B.iaload dX2_burn_119 t5 t7 ?_
    refine B.bipush 60 dX2_burn_120 (by decide) ?_
    refine B.iload_n 2 dX2_burn_122 rfl rfl ?_
    refine B.imul dX2_burn_123 ?_
    refine B.iadd dX2_burn_124 ?_
    refine B.iastore dX2_burn_125 t5 t7 ?_
    refine B.aload_n 0 dX2_burn_126 rfl rfl ?_
    refine B.dup dX2_burn_127 rfl ?_
    refine B.getI dX2_burn_128 fl_2_15 t1 ?_
    refine B.iconst 1 dX2_burn_131 (by decide) ?_
    refine B.iadd dX2_burn_132 ?_
    refine B.putI dX2_burn_133 fw_2_15 t1 ?_
    refine B.aload_n 0 dX2_burn_136 rfl rfl ?_
    refine B.dup dX2_burn_137 rfl ?_
    refine B.getI dX2_burn_138 fl_2_18 t1 ?_
    rw [u2_k (I := (u2 I b3 j6 ((I b3 j6) + (60 * x2)))) (a := r0) (k := 1) (b := r0) (j := 2) (x := (((u2 I b3 j6 ((I b3 j6) + (60 * x2))) r0 1) + 1)) (by decide)]
    refine B.iload_n 2 dX2_burn_141 rfl rfl ?_
    refine B.iadd dX2_burn_142 ?_
    refine B.putI dX2_burn_143 fw_2_18 t1 ?_
    refine B.return_ dX2_burn_146 rfl ?_
    exact h
  · replace h := h.2 q2
    refine B.aload_n 0 dX2_burn_64 rfl rfl ?_
    obtain ⟨b8, h⟩ := h
    obtain ⟨t9, h⟩ := h
    refine B.getP dX2_burn_65 fl_2_25 t1 t9 ?_
    refine B.iload_n 3 dX2_burn_68 rfl rfl ?_
    obtain ⟨t10, h⟩ := h
    obtain ⟨j11, h⟩ := h
    obtain ⟨t12, h⟩ := h
    refine B.iaload dX2_burn_69 t10 t12 ?_
    refine B.aload_n 0 dX2_burn_70 rfl rfl ?_
    refine B.getP dX2_burn_71 fl_2_25 t1 t9 ?_
    refine B.iload_n 3 dX2_burn_74 rfl rfl ?_
    refine B.iconst 1 dX2_burn_75 (by decide) ?_
    refine B.iadd dX2_burn_76 ?_
    obtain ⟨j13, h⟩ := h
    obtain ⟨t14, h⟩ := h
    refine B.iaload dX2_burn_77 t10 t14 ?_
    refine B.isub dX2_burn_78 ?_
    refine B.iconst 4 dX2_burn_79 (by decide) ?_
    refine B.idiv dX2_burn_80 (by decide) ?_
    refine B.istore (lv' := [(0, .ref r0), (1, .int x1), (2, .int x2), (3, .int x3), (4, .int (((I b8 j11) - (I b8 j13)) / 4))]) dX2_burn_81 (by decide) rfl ?_
    refine B.aload_n 0 dX2_burn_83 rfl rfl ?_
    obtain ⟨b15, h⟩ := h
    obtain ⟨t16, h⟩ := h
    refine B.getP dX2_burn_84 fl_2_21 t1 t16 ?_
    refine B.iload_n 3 dX2_burn_87 rfl rfl ?_
    refine B.dup2 dX2_burn_88 rfl rfl ?_
    obtain ⟨t17, h⟩ := h
    obtain ⟨j18, h⟩ := h
    obtain ⟨t19, h⟩ := h
    refine B.iaload dX2_burn_89 t17 t19 ?_
    refine B.iload 4 dX2_burn_90 rfl ?_
    refine B.isub dX2_burn_92 ?_
    refine B.iastore dX2_burn_93 t17 t19 ?_
    refine B.aload_n 0 dX2_burn_94 rfl rfl ?_
    refine B.getP dX2_burn_95 fl_2_21 t1 t16 ?_
    refine B.iload_n 3 dX2_burn_98 rfl rfl ?_
    refine B.iconst 1 dX2_burn_99 (by decide) ?_
    refine B.iadd dX2_burn_100 ?_
    refine B.dup2 dX2_burn_101 rfl rfl ?_
    obtain ⟨j20, h⟩ := h
    obtain ⟨t21, h⟩ := h
    refine B.iaload dX2_burn_102 t17 t21 ?_
    refine B.iload 4 dX2_burn_103 rfl ?_
    refine B.iadd dX2_burn_105 ?_
    refine B.iastore dX2_burn_106 t17 t21 ?_
    refine B.iinc (lv' := [(0, .ref r0), (1, .int x1), (2, .int x2), (3, .int (x3 + 1)), (4, .int (((I b8 j11) - (I b8 j13)) / 4))]) 3 (x3 + 1) dX2_burn_107 rfl rfl (by decide) rfl ?_
    refine B.goto_ 54 dX2_burn_110 (by decide) ?_
    refine B.lvs [(0, .ref r0), (1, .int x1), (2, .int x2), (3, .int (x3 + 1))] [0, 1, 2, 3] rfl ?_
    exact h
theorem s_X2_changeOf_0 {g : GT} {S : ST} {P : PT} {I : IT} {Q : QT} {r0 : Nat} {x1 : Int32} (h : sT S r0 = 3 ∧ ∃ b2, P r0 3 = b2 + 1 ∧ sT S b2 = 40 ∧ ∃ j5, ix x1 j5 (sL S b2) ∧ ∃ b7, P r0 4 = b7 + 1 ∧ sT S b7 = 40 ∧ ∃ j10, ix x1 j10 (sL S b7) ∧ Q (some (.int (iabs ((I b2 j5) - (I b7 j10))))) S P I) : B g MX2_changeOf 0 0 0 [(0, .ref r0), (1, .int x1)] [] S P I Q := by
  refine B.aload_n 0 dX2_changeOf_0 rfl rfl ?_
  obtain ⟨t1, h⟩ := h
  obtain ⟨b2, h⟩ := h
  obtain ⟨t3, h⟩ := h
  refine B.getP dX2_changeOf_1 fl_2_21 t1 t3 ?_
  refine B.iload_n 1 dX2_changeOf_4 rfl rfl ?_
  obtain ⟨t4, h⟩ := h
  obtain ⟨j5, h⟩ := h
  obtain ⟨t6, h⟩ := h
  refine B.iaload dX2_changeOf_5 t4 t6 ?_
  refine B.aload_n 0 dX2_changeOf_6 rfl rfl ?_
  obtain ⟨b7, h⟩ := h
  obtain ⟨t8, h⟩ := h
  refine B.getP dX2_changeOf_7 fl_2_25 t1 t8 ?_
  refine B.iload_n 1 dX2_changeOf_10 rfl rfl ?_
  obtain ⟨t9, h⟩ := h
  obtain ⟨j10, h⟩ := h
  obtain ⟨t11, h⟩ := h
  refine B.iaload dX2_changeOf_11 t9 t11 ?_
  refine B.isub dX2_changeOf_12 ?_
  refine B.mabs dX2_changeOf_13 lk_X2_55 (by decide) (by decide) (Nat.le_of_ble_eq_true rfl) ?_
  refine B.ireturn dX2_changeOf_16 rfl rfl ?_
  exact h
theorem s_X2_greatestHeat_0 {g : GT} {S : ST} {P : PT} {I : IT} {Q : QT} {r0 : Nat} (h : sT S r0 = 3 ∧ ∃ b2, P r0 3 = b2 + 1 ∧ sT S b2 = 40 ∧ ∃ j5, ix 0 j5 (sL S b2) ∧ B g MX2_greatestHeat 0 0 9 [(0, .ref r0), (1, .int (I b2 j5)), (2, .int 1)] [] S P I Q) : B g MX2_greatestHeat 0 0 0 [(0, .ref r0)] [] S P I Q := by
  refine B.aload_n 0 dX2_greatestHeat_0 rfl rfl ?_
  obtain ⟨t1, h⟩ := h
  obtain ⟨b2, h⟩ := h
  obtain ⟨t3, h⟩ := h
  refine B.getP dX2_greatestHeat_1 fl_2_21 t1 t3 ?_
  refine B.iconst 0 dX2_greatestHeat_4 (by decide) ?_
  obtain ⟨t4, h⟩ := h
  obtain ⟨j5, h⟩ := h
  obtain ⟨t6, h⟩ := h
  refine B.iaload dX2_greatestHeat_5 t4 t6 ?_
  refine B.istore_n (lv' := [(0, .ref r0), (1, .int (I b2 j5))]) dX2_greatestHeat_6 rfl (by decide) rfl ?_
  refine B.iconst 1 dX2_greatestHeat_7 (by decide) ?_
  refine B.istore_n (lv' := [(0, .ref r0), (1, .int (I b2 j5)), (2, .int 1)]) dX2_greatestHeat_8 rfl (by decide) rfl ?_
  exact h
theorem s_X2_greatestHeat_9 {g : GT} {S : ST} {P : PT} {I : IT} {Q : QT} {r0 : Nat} {x1 : Int32} {x2 : Int32} (h : sT S r0 = 3 ∧ (((I r0 0) ≤ x2 → Q (some (.int x1)) S P I) ∧ (¬ (I r0 0) ≤ x2 → ∃ b3, P r0 3 = b3 + 1 ∧ sT S b3 = 40 ∧ ∃ j6, ix x2 j6 (sL S b3) ∧ B g MX2_greatestHeat 0 0 9 [(0, .ref r0), (1, .int (imax x1 (I b3 j6))), (2, .int (x2 + 1))] [] S P I Q))) : B g MX2_greatestHeat 0 0 9 [(0, .ref r0), (1, .int x1), (2, .int x2)] [] S P I Q := by
  refine B.iload_n 2 dX2_greatestHeat_9 rfl rfl ?_
  refine B.aload_n 0 dX2_greatestHeat_10 rfl rfl ?_
  obtain ⟨t1, h⟩ := h
  refine B.getI dX2_greatestHeat_11 fl_2_9 t1 ?_
  refine B.icmp_ge 34 dX2_greatestHeat_14 (by decide) (fun q2 => ?_) (fun q2 => ?_)
  · replace h := h.1 q2
    refine B.iload_n 1 dX2_greatestHeat_34 rfl rfl ?_
    refine B.ireturn dX2_greatestHeat_35 rfl rfl ?_
    exact h
  · replace h := h.2 q2
    refine B.iload_n 1 dX2_greatestHeat_17 rfl rfl ?_
    refine B.aload_n 0 dX2_greatestHeat_18 rfl rfl ?_
    obtain ⟨b3, h⟩ := h
    obtain ⟨t4, h⟩ := h
    refine B.getP dX2_greatestHeat_19 fl_2_21 t1 t4 ?_
    refine B.iload_n 2 dX2_greatestHeat_22 rfl rfl ?_
    obtain ⟨t5, h⟩ := h
    obtain ⟨j6, h⟩ := h
    obtain ⟨t7, h⟩ := h
    refine B.iaload dX2_greatestHeat_23 t5 t7 ?_
    refine B.mmax dX2_greatestHeat_24 lk_X2_61 (by decide) (by decide) (Nat.le_of_ble_eq_true rfl) ?_
    refine B.istore_n (lv' := [(0, .ref r0), (1, .int (imax x1 (I b3 j6))), (2, .int x2)]) dX2_greatestHeat_27 rfl (by decide) rfl ?_
    refine B.iinc (lv' := [(0, .ref r0), (1, .int (imax x1 (I b3 j6))), (2, .int (x2 + 1))]) 2 (x2 + 1) dX2_greatestHeat_28 rfl rfl (by decide) rfl ?_
    refine B.goto_ 9 dX2_greatestHeat_31 (by decide) ?_
    exact h
theorem s_X2_heatsTogether_0 {g : GT} {S : ST} {P : PT} {I : IT} {Q : QT} {r0 : Nat} (h : B g MX2_heatsTogether 0 0 4 [(0, .ref r0), (1, .int 0), (2, .int 0)] [] S P I Q) : B g MX2_heatsTogether 0 0 0 [(0, .ref r0)] [] S P I Q := by
  refine B.iconst 0 dX2_heatsTogether_0 (by decide) ?_
  refine B.istore_n (lv' := [(0, .ref r0), (1, .int 0)]) dX2_heatsTogether_1 rfl (by decide) rfl ?_
  refine B.iconst 0 dX2_heatsTogether_2 (by decide) ?_
  refine B.istore_n (lv' := [(0, .ref r0), (1, .int 0), (2, .int 0)]) dX2_heatsTogether_3 rfl (by decide) rfl ?_
  exact h
theorem s_X2_heatsTogether_4 {g : GT} {S : ST} {P : PT} {I : IT} {Q : QT} {r0 : Nat} {x1 : Int32} {x2 : Int32} (h : sT S r0 = 3 ∧ (((I r0 0) ≤ x2 → Q (some (.int x1)) S P I) ∧ (¬ (I r0 0) ≤ x2 → ∃ b3, P r0 3 = b3 + 1 ∧ sT S b3 = 40 ∧ ∃ j6, ix x2 j6 (sL S b3) ∧ B g MX2_heatsTogether 0 0 4 [(0, .ref r0), (1, .int (x1 + (I b3 j6))), (2, .int (x2 + 1))] [] S P I Q))) : B g MX2_heatsTogether 0 0 4 [(0, .ref r0), (1, .int x1), (2, .int x2)] [] S P I Q := by
  refine B.iload_n 2 dX2_heatsTogether_4 rfl rfl ?_
  refine B.aload_n 0 dX2_heatsTogether_5 rfl rfl ?_
  obtain ⟨t1, h⟩ := h
  refine B.getI dX2_heatsTogether_6 fl_2_9 t1 ?_
  refine B.icmp_ge 27 dX2_heatsTogether_9 (by decide) (fun q2 => ?_) (fun q2 => ?_)
  · replace h := h.1 q2
    refine B.iload_n 1 dX2_heatsTogether_27 rfl rfl ?_
    refine B.ireturn dX2_heatsTogether_28 rfl rfl ?_
    exact h
  · replace h := h.2 q2
    refine B.iload_n 1 dX2_heatsTogether_12 rfl rfl ?_
    refine B.aload_n 0 dX2_heatsTogether_13 rfl rfl ?_
    obtain ⟨b3, h⟩ := h
    obtain ⟨t4, h⟩ := h
    refine B.getP dX2_heatsTogether_14 fl_2_21 t1 t4 ?_
    refine B.iload_n 2 dX2_heatsTogether_17 rfl rfl ?_
    obtain ⟨t5, h⟩ := h
    obtain ⟨j6, h⟩ := h
    obtain ⟨t7, h⟩ := h
    refine B.iaload dX2_heatsTogether_18 t5 t7 ?_
    refine B.iadd dX2_heatsTogether_19 ?_
    refine B.istore_n (lv' := [(0, .ref r0), (1, .int (x1 + (I b3 j6))), (2, .int x2)]) dX2_heatsTogether_20 rfl (by decide) rfl ?_
    refine B.iinc (lv' := [(0, .ref r0), (1, .int (x1 + (I b3 j6))), (2, .int (x2 + 1))]) 2 (x2 + 1) dX2_heatsTogether_21 rfl rfl (by decide) rfl ?_
    refine B.goto_ 4 dX2_heatsTogether_24 (by decide) ?_
    exact h
theorem s_X2_bestFreePlace_0 {g : GT} {S : ST} {P : PT} {I : IT} {Q : QT} {r0 : Nat} (h : B g MX2_bestFreePlace 0 0 4 [(0, .ref r0), (1, .int (-1)), (2, .int 0)] [] S P I Q) : B g MX2_bestFreePlace 0 0 0 [(0, .ref r0)] [] S P I Q := by
  refine B.iconst (-1) dX2_bestFreePlace_0 (by decide) ?_
  refine B.istore_n (lv' := [(0, .ref r0), (1, .int (-1))]) dX2_bestFreePlace_1 rfl (by decide) rfl ?_
  refine B.iconst 0 dX2_bestFreePlace_2 (by decide) ?_
  refine B.istore_n (lv' := [(0, .ref r0), (1, .int (-1)), (2, .int 0)]) dX2_bestFreePlace_3 rfl (by decide) rfl ?_
  exact h
theorem s_X2_bestFreePlace_4 {g : GT} {S : ST} {P : PT} {I : IT} {Q : QT} {r0 : Nat} {x1 : Int32} {x2 : Int32} (h : sT S r0 = 3 ∧ ((((I r0 0) * 4) ≤ x2 → Q (some (.int x1)) S P I) ∧ (¬ ((I r0 0) * 4) ≤ x2 → ((x1 = (-1) → ∃ b4, P r0 6 = b4 + 1 ∧ sT S b4 = 40 ∧ ∃ j7, ix x2 j7 (sL S b4) ∧ ((¬ (I b4 j7) = (-1) → B g MX2_bestFreePlace 0 0 4 [(0, .ref r0), (1, .int x1), (2, .int (x2 + 1))] [] S P I Q) ∧ ((I b4 j7) = (-1) → B g MX2_bestFreePlace 0 0 4 [(0, .ref r0), (1, .int x2), (2, .int (x2 + 1))] [] S P I Q))) ∧ (¬ x1 = (-1) → ∃ b10, P r0 5 = b10 + 1 ∧ sT S b10 = 40 ∧ ∃ j13, ix x2 j13 (sL S b10) ∧ ∃ j15, ix x1 j15 (sL S b10) ∧ (((I b10 j13) ≤ (I b10 j15) → B g MX2_bestFreePlace 0 0 4 [(0, .ref r0), (1, .int x1), (2, .int (x2 + 1))] [] S P I Q) ∧ (¬ (I b10 j13) ≤ (I b10 j15) → ∃ b18, P r0 6 = b18 + 1 ∧ sT S b18 = 40 ∧ ∃ j21, ix x2 j21 (sL S b18) ∧ ((¬ (I b18 j21) = (-1) → B g MX2_bestFreePlace 0 0 4 [(0, .ref r0), (1, .int x1), (2, .int (x2 + 1))] [] S P I Q) ∧ ((I b18 j21) = (-1) → B g MX2_bestFreePlace 0 0 4 [(0, .ref r0), (1, .int x2), (2, .int (x2 + 1))] [] S P I Q))))))))) : B g MX2_bestFreePlace 0 0 4 [(0, .ref r0), (1, .int x1), (2, .int x2)] [] S P I Q := by
  refine B.iload_n 2 dX2_bestFreePlace_4 rfl rfl ?_
  refine B.aload_n 0 dX2_bestFreePlace_5 rfl rfl ?_
  obtain ⟨t1, h⟩ := h
  refine B.getI dX2_bestFreePlace_6 fl_2_9 t1 ?_
  refine B.iconst 4 dX2_bestFreePlace_9 (by decide) ?_
  refine B.imul dX2_bestFreePlace_10 ?_
  refine B.icmp_ge 62 dX2_bestFreePlace_11 (by decide) (fun q2 => ?_) (fun q2 => ?_)
  · replace h := h.1 q2
    refine B.iload_n 1 dX2_bestFreePlace_62 rfl rfl ?_
    refine B.ireturn dX2_bestFreePlace_63 rfl rfl ?_
    exact h
  · replace h := h.2 q2
    refine B.iload_n 1 dX2_bestFreePlace_14 rfl rfl ?_
    refine B.iconst (-1) dX2_bestFreePlace_15 (by decide) ?_
    refine B.icmp_eq 34 dX2_bestFreePlace_16 (by decide) (fun q3 => ?_) (fun q3 => ?_)
    · replace h := h.1 q3
      refine B.iconst 1 dX2_bestFreePlace_34 (by decide) ?_
      refine B.goto_ 39 dX2_bestFreePlace_35 (by decide) ?_
      refine B.istore_n (lv' := [(0, .ref r0), (1, .int x1), (2, .int x2), (3, .int 1)]) dX2_bestFreePlace_39 rfl (by decide) rfl ?_
      refine B.iload_n 3 dX2_bestFreePlace_40 rfl rfl ?_
      refine B.if_eq 56 dX2_bestFreePlace_41 (by decide) (fun q => absurd q (by decide)) (fun _ => ?_)
      refine B.aload_n 0 dX2_bestFreePlace_44 rfl rfl ?_
      obtain ⟨b4, h⟩ := h
      obtain ⟨t5, h⟩ := h
      refine B.getP dX2_bestFreePlace_45 fl_2_31 t1 t5 ?_
      refine B.iload_n 2 dX2_bestFreePlace_48 rfl rfl ?_
      obtain ⟨t6, h⟩ := h
      obtain ⟨j7, h⟩ := h
      obtain ⟨t8, h⟩ := h
      refine B.iaload dX2_bestFreePlace_49 t6 t8 ?_
      refine B.iconst (-1) dX2_bestFreePlace_50 (by decide) ?_
      refine B.icmp_ne 56 dX2_bestFreePlace_51 (by decide) (fun q9 => ?_) (fun q9 => ?_)
      · replace h := h.1 q9
        refine B.iinc (lv' := [(0, .ref r0), (1, .int x1), (2, .int (x2 + 1)), (3, .int 1)]) 2 (x2 + 1) dX2_bestFreePlace_56 rfl rfl (by decide) rfl ?_
        refine B.goto_ 4 dX2_bestFreePlace_59 (by decide) ?_
        refine B.lvs [(0, .ref r0), (1, .int x1), (2, .int (x2 + 1))] [0, 1, 2] rfl ?_
        exact h
      · replace h := h.2 q9
        refine B.iload_n 2 dX2_bestFreePlace_54 rfl rfl ?_
        refine B.istore_n (lv' := [(0, .ref r0), (1, .int x2), (2, .int x2), (3, .int 1)]) dX2_bestFreePlace_55 rfl (by decide) rfl ?_
        refine B.iinc (lv' := [(0, .ref r0), (1, .int x2), (2, .int (x2 + 1)), (3, .int 1)]) 2 (x2 + 1) dX2_bestFreePlace_56 rfl rfl (by decide) rfl ?_
        refine B.goto_ 4 dX2_bestFreePlace_59 (by decide) ?_
        refine B.lvs [(0, .ref r0), (1, .int x2), (2, .int (x2 + 1))] [0, 1, 2] rfl ?_
        exact h
    · replace h := h.2 q3
      refine B.aload_n 0 dX2_bestFreePlace_19 rfl rfl ?_
      obtain ⟨b10, h⟩ := h
      obtain ⟨t11, h⟩ := h
      refine B.getP dX2_bestFreePlace_20 fl_2_28 t1 t11 ?_
      refine B.iload_n 2 dX2_bestFreePlace_23 rfl rfl ?_
      obtain ⟨t12, h⟩ := h
      obtain ⟨j13, h⟩ := h
      obtain ⟨t14, h⟩ := h
      refine B.iaload dX2_bestFreePlace_24 t12 t14 ?_
      refine B.aload_n 0 dX2_bestFreePlace_25 rfl rfl ?_
      refine B.getP dX2_bestFreePlace_26 fl_2_28 t1 t11 ?_
      refine B.iload_n 1 dX2_bestFreePlace_29 rfl rfl ?_
      obtain ⟨j15, h⟩ := h
      obtain ⟨t16, h⟩ := h
      refine B.iaload dX2_bestFreePlace_30 t12 t16 ?_
      refine B.icmp_le 38 dX2_bestFreePlace_31 (by decide) (fun q17 => ?_) (fun q17 => ?_)
      · replace h := h.1 q17
        refine B.iconst 0 dX2_bestFreePlace_38 (by decide) ?_
        refine B.istore_n (lv' := [(0, .ref r0), (1, .int x1), (2, .int x2), (3, .int 0)]) dX2_bestFreePlace_39 rfl (by decide) rfl ?_
        refine B.iload_n 3 dX2_bestFreePlace_40 rfl rfl ?_
        refine B.if_eq 56 dX2_bestFreePlace_41 (by decide) (fun _ => ?_) (fun q => absurd q (by decide))
        refine B.iinc (lv' := [(0, .ref r0), (1, .int x1), (2, .int (x2 + 1)), (3, .int 0)]) 2 (x2 + 1) dX2_bestFreePlace_56 rfl rfl (by decide) rfl ?_
        refine B.goto_ 4 dX2_bestFreePlace_59 (by decide) ?_
        refine B.lvs [(0, .ref r0), (1, .int x1), (2, .int (x2 + 1))] [0, 1, 2] rfl ?_
        exact h
      · replace h := h.2 q17
        refine B.iconst 1 dX2_bestFreePlace_34 (by decide) ?_
        refine B.goto_ 39 dX2_bestFreePlace_35 (by decide) ?_
        refine B.istore_n (lv' := [(0, .ref r0), (1, .int x1), (2, .int x2), (3, .int 1)]) dX2_bestFreePlace_39 rfl (by decide) rfl ?_
        refine B.iload_n 3 dX2_bestFreePlace_40 rfl rfl ?_
        refine B.if_eq 56 dX2_bestFreePlace_41 (by decide) (fun q => absurd q (by decide)) (fun _ => ?_)
        refine B.aload_n 0 dX2_bestFreePlace_44 rfl rfl ?_
        obtain ⟨b18, h⟩ := h
        obtain ⟨t19, h⟩ := h
        refine B.getP dX2_bestFreePlace_45 fl_2_31 t1 t19 ?_
        refine B.iload_n 2 dX2_bestFreePlace_48 rfl rfl ?_
        obtain ⟨t20, h⟩ := h
        obtain ⟨j21, h⟩ := h
        obtain ⟨t22, h⟩ := h
        refine B.iaload dX2_bestFreePlace_49 t20 t22 ?_
        refine B.iconst (-1) dX2_bestFreePlace_50 (by decide) ?_
        refine B.icmp_ne 56 dX2_bestFreePlace_51 (by decide) (fun q23 => ?_) (fun q23 => ?_)
        · replace h := h.1 q23
          refine B.iinc (lv' := [(0, .ref r0), (1, .int x1), (2, .int (x2 + 1)), (3, .int 1)]) 2 (x2 + 1) dX2_bestFreePlace_56 rfl rfl (by decide) rfl ?_
          refine B.goto_ 4 dX2_bestFreePlace_59 (by decide) ?_
          refine B.lvs [(0, .ref r0), (1, .int x1), (2, .int (x2 + 1))] [0, 1, 2] rfl ?_
          exact h
        · replace h := h.2 q23
          refine B.iload_n 2 dX2_bestFreePlace_54 rfl rfl ?_
          refine B.istore_n (lv' := [(0, .ref r0), (1, .int x2), (2, .int x2), (3, .int 1)]) dX2_bestFreePlace_55 rfl (by decide) rfl ?_
          refine B.iinc (lv' := [(0, .ref r0), (1, .int x2), (2, .int (x2 + 1)), (3, .int 1)]) 2 (x2 + 1) dX2_bestFreePlace_56 rfl rfl (by decide) rfl ?_
          refine B.goto_ 4 dX2_bestFreePlace_59 (by decide) ?_
          refine B.lvs [(0, .ref r0), (1, .int x2), (2, .int (x2 + 1))] [0, 1, 2] rfl ?_
          exact h
theorem s_X3_turn_0 {g : GT} {S : ST} {P : PT} {I : IT} {Q : QT} {r0 : Nat} {x1 : Int32} {x2 : Int32} {x3 : Int32} {x4 : Int32} (h : sT S r0 = 4 ∧ Q none S P (u2 (u2 (u2 (u2 (u2 (u2 (u2 (u2 I r0 0 x1) r0 1 x2) r0 2 x3) r0 3 x4) r0 4 (-1)) r0 5 (-1)) r0 6 0) r0 7 0)) : B g MX3_turn 0 0 0 [(0, .ref r0), (1, .int x1), (2, .int x2), (3, .int x3), (4, .int x4)] [] S P I Q := by
  refine B.aload_n 0 dX3_turn_0 rfl rfl ?_
  refine B.iload_n 1 dX3_turn_1 rfl rfl ?_
  obtain ⟨t1, h⟩ := h
  refine B.putI dX3_turn_2 fw_3_9 t1 ?_
  refine B.aload_n 0 dX3_turn_5 rfl rfl ?_
  refine B.iload_n 2 dX3_turn_6 rfl rfl ?_
  refine B.putI dX3_turn_7 fw_3_15 t1 ?_
  refine B.aload_n 0 dX3_turn_10 rfl rfl ?_
  refine B.iload_n 3 dX3_turn_11 rfl rfl ?_
  refine B.putI dX3_turn_12 fw_3_18 t1 ?_
  refine B.aload_n 0 dX3_turn_15 rfl rfl ?_
  refine B.iload 4 dX3_turn_16 rfl ?_
  refine B.putI dX3_turn_18 fw_3_21 t1 ?_
  refine B.aload_n 0 dX3_turn_21 rfl rfl ?_
  refine B.iconst (-1) dX3_turn_22 (by decide) ?_
  refine B.putI dX3_turn_23 fw_3_24 t1 ?_
  refine B.aload_n 0 dX3_turn_26 rfl rfl ?_
  refine B.iconst (-1) dX3_turn_27 (by decide) ?_
  refine B.putI dX3_turn_28 fw_3_27 t1 ?_
  refine B.aload_n 0 dX3_turn_31 rfl rfl ?_
  refine B.iconst 0 dX3_turn_32 (by decide) ?_
  refine B.putZ dX3_turn_33 fw_3_30 t1 (by decide) ?_
  refine B.aload_n 0 dX3_turn_36 rfl rfl ?_
  refine B.iconst 0 dX3_turn_37 (by decide) ?_
  refine B.putI dX3_turn_38 fw_3_34 t1 ?_
  refine B.return_ dX3_turn_41 rfl ?_
  exact h
theorem s_X3_copyFrom_0 {g : GT} {S : ST} {P : PT} {I : IT} {Q : QT} {r0 : Nat} {r1 : Nat} (h : sT S r1 = 4 ∧ sT S r0 = 4 ∧ ((I r1 6) = 0 ∨ (I r1 6) = 1) ∧ Q none S P (u2 (u2 (u2 (u2 (u2 (u2 (u2 (u2 I r0 0 (I r1 0)) r0 1 (I r1 1)) r0 2 (I r1 2)) r0 3 (I r1 3)) r0 4 (I r1 4)) r0 5 (I r1 5)) r0 6 (I r1 6)) r0 7 (I r1 7))) : B g MX3_copyFrom 0 0 0 [(0, .ref r0), (1, .ref r1)] [] S P I Q := by
  refine B.aload_n 0 dX3_copyFrom_0 rfl rfl ?_
  refine B.aload_n 1 dX3_copyFrom_1 rfl rfl ?_
  obtain ⟨t1, h⟩ := h
  refine B.getI dX3_copyFrom_2 fl_3_9 t1 ?_
  obtain ⟨t2, h⟩ := h
  refine B.putI dX3_copyFrom_5 fw_3_9 t2 ?_
  refine B.aload_n 0 dX3_copyFrom_8 rfl rfl ?_
  refine B.aload_n 1 dX3_copyFrom_9 rfl rfl ?_
  refine B.getI dX3_copyFrom_10 fl_3_15 t1 ?_
  rw [u2_k (I := I) (a := r0) (k := 0) (b := r1) (j := 1) (x := (I r1 0)) (by decide)]
  refine B.putI dX3_copyFrom_13 fw_3_15 t2 ?_
  refine B.aload_n 0 dX3_copyFrom_16 rfl rfl ?_
  refine B.aload_n 1 dX3_copyFrom_17 rfl rfl ?_
  refine B.getI dX3_copyFrom_18 fl_3_18 t1 ?_
  rw [u2_k (I := (u2 I r0 0 (I r1 0))) (a := r0) (k := 1) (b := r1) (j := 2) (x := (I r1 1)) (by decide)]
  rw [u2_k (I := I) (a := r0) (k := 0) (b := r1) (j := 2) (x := (I r1 0)) (by decide)]
  refine B.putI dX3_copyFrom_21 fw_3_18 t2 ?_
  refine B.aload_n 0 dX3_copyFrom_24 rfl rfl ?_
  refine B.aload_n 1 dX3_copyFrom_25 rfl rfl ?_
  refine B.getI dX3_copyFrom_26 fl_3_21 t1 ?_
  rw [u2_k (I := (u2 (u2 I r0 0 (I r1 0)) r0 1 (I r1 1))) (a := r0) (k := 2) (b := r1) (j := 3) (x := (I r1 2)) (by decide)]
  rw [u2_k (I := (u2 I r0 0 (I r1 0))) (a := r0) (k := 1) (b := r1) (j := 3) (x := (I r1 1)) (by decide)]
  rw [u2_k (I := I) (a := r0) (k := 0) (b := r1) (j := 3) (x := (I r1 0)) (by decide)]
  refine B.putI dX3_copyFrom_29 fw_3_21 t2 ?_
  refine B.aload_n 0 dX3_copyFrom_32 rfl rfl ?_
  refine B.aload_n 1 dX3_copyFrom_33 rfl rfl ?_
  refine B.getI dX3_copyFrom_34 fl_3_24 t1 ?_
  rw [u2_k (I := (u2 (u2 (u2 I r0 0 (I r1 0)) r0 1 (I r1 1)) r0 2 (I r1 2))) (a := r0) (k := 3) (b := r1) (j := 4) (x := (I r1 3)) (by decide)]
  rw [u2_k (I := (u2 (u2 I r0 0 (I r1 0)) r0 1 (I r1 1))) (a := r0) (k := 2) (b := r1) (j := 4) (x := (I r1 2)) (by decide)]
  rw [u2_k (I := (u2 I r0 0 (I r1 0))) (a := r0) (k := 1) (b := r1) (j := 4) (x := (I r1 1)) (by decide)]
  rw [u2_k (I := I) (a := r0) (k := 0) (b := r1) (j := 4) (x := (I r1 0)) (by decide)]
  refine B.putI dX3_copyFrom_37 fw_3_24 t2 ?_
  refine B.aload_n 0 dX3_copyFrom_40 rfl rfl ?_
  refine B.aload_n 1 dX3_copyFrom_41 rfl rfl ?_
  refine B.getI dX3_copyFrom_42 fl_3_27 t1 ?_
  rw [u2_k (I := (u2 (u2 (u2 (u2 I r0 0 (I r1 0)) r0 1 (I r1 1)) r0 2 (I r1 2)) r0 3 (I r1 3))) (a := r0) (k := 4) (b := r1) (j := 5) (x := (I r1 4)) (by decide)]
  rw [u2_k (I := (u2 (u2 (u2 I r0 0 (I r1 0)) r0 1 (I r1 1)) r0 2 (I r1 2))) (a := r0) (k := 3) (b := r1) (j := 5) (x := (I r1 3)) (by decide)]
  rw [u2_k (I := (u2 (u2 I r0 0 (I r1 0)) r0 1 (I r1 1))) (a := r0) (k := 2) (b := r1) (j := 5) (x := (I r1 2)) (by decide)]
  rw [u2_k (I := (u2 I r0 0 (I r1 0))) (a := r0) (k := 1) (b := r1) (j := 5) (x := (I r1 1)) (by decide)]
  rw [u2_k (I := I) (a := r0) (k := 0) (b := r1) (j := 5) (x := (I r1 0)) (by decide)]
  refine B.putI dX3_copyFrom_45 fw_3_27 t2 ?_
  refine B.aload_n 0 dX3_copyFrom_48 rfl rfl ?_
  refine B.aload_n 1 dX3_copyFrom_49 rfl rfl ?_
  refine B.getI dX3_copyFrom_50 fl_3_30 t1 ?_
  rw [u2_k (I := (u2 (u2 (u2 (u2 (u2 I r0 0 (I r1 0)) r0 1 (I r1 1)) r0 2 (I r1 2)) r0 3 (I r1 3)) r0 4 (I r1 4))) (a := r0) (k := 5) (b := r1) (j := 6) (x := (I r1 5)) (by decide)]
  rw [u2_k (I := (u2 (u2 (u2 (u2 I r0 0 (I r1 0)) r0 1 (I r1 1)) r0 2 (I r1 2)) r0 3 (I r1 3))) (a := r0) (k := 4) (b := r1) (j := 6) (x := (I r1 4)) (by decide)]
  rw [u2_k (I := (u2 (u2 (u2 I r0 0 (I r1 0)) r0 1 (I r1 1)) r0 2 (I r1 2))) (a := r0) (k := 3) (b := r1) (j := 6) (x := (I r1 3)) (by decide)]
  rw [u2_k (I := (u2 (u2 I r0 0 (I r1 0)) r0 1 (I r1 1))) (a := r0) (k := 2) (b := r1) (j := 6) (x := (I r1 2)) (by decide)]
  rw [u2_k (I := (u2 I r0 0 (I r1 0))) (a := r0) (k := 1) (b := r1) (j := 6) (x := (I r1 1)) (by decide)]
  rw [u2_k (I := I) (a := r0) (k := 0) (b := r1) (j := 6) (x := (I r1 0)) (by decide)]
  obtain ⟨t3, h⟩ := h
  refine B.putZ dX3_copyFrom_53 fw_3_30 t2 t3 ?_
  refine B.aload_n 0 dX3_copyFrom_56 rfl rfl ?_
  refine B.aload_n 1 dX3_copyFrom_57 rfl rfl ?_
  refine B.getI dX3_copyFrom_58 fl_3_34 t1 ?_
  rw [u2_k (I := (u2 (u2 (u2 (u2 (u2 (u2 I r0 0 (I r1 0)) r0 1 (I r1 1)) r0 2 (I r1 2)) r0 3 (I r1 3)) r0 4 (I r1 4)) r0 5 (I r1 5))) (a := r0) (k := 6) (b := r1) (j := 7) (x := (I r1 6)) (by decide)]
  rw [u2_k (I := (u2 (u2 (u2 (u2 (u2 I r0 0 (I r1 0)) r0 1 (I r1 1)) r0 2 (I r1 2)) r0 3 (I r1 3)) r0 4 (I r1 4))) (a := r0) (k := 5) (b := r1) (j := 7) (x := (I r1 5)) (by decide)]
  rw [u2_k (I := (u2 (u2 (u2 (u2 I r0 0 (I r1 0)) r0 1 (I r1 1)) r0 2 (I r1 2)) r0 3 (I r1 3))) (a := r0) (k := 4) (b := r1) (j := 7) (x := (I r1 4)) (by decide)]
  rw [u2_k (I := (u2 (u2 (u2 I r0 0 (I r1 0)) r0 1 (I r1 1)) r0 2 (I r1 2))) (a := r0) (k := 3) (b := r1) (j := 7) (x := (I r1 3)) (by decide)]
  rw [u2_k (I := (u2 (u2 I r0 0 (I r1 0)) r0 1 (I r1 1))) (a := r0) (k := 2) (b := r1) (j := 7) (x := (I r1 2)) (by decide)]
  rw [u2_k (I := (u2 I r0 0 (I r1 0))) (a := r0) (k := 1) (b := r1) (j := 7) (x := (I r1 1)) (by decide)]
  rw [u2_k (I := I) (a := r0) (k := 0) (b := r1) (j := 7) (x := (I r1 0)) (by decide)]
  refine B.putI dX3_copyFrom_61 fw_3_34 t2 ?_
  refine B.return_ dX3_copyFrom_64 rfl ?_
  exact h
theorem s_X3_stands_0 {g : GT} {S : ST} {P : PT} {I : IT} {Q : QT} {r0 : Nat} (h : sT S r0 = 4 ∧ (((I r0 4) = (-1) → Q (some (.int 0)) S P I) ∧ (¬ (I r0 4) = (-1) → Q (some (.int 1)) S P I))) : B g MX3_stands 0 0 0 [(0, .ref r0)] [] S P I Q := by
  refine B.aload_n 0 dX3_stands_0 rfl rfl ?_
  obtain ⟨t1, h⟩ := h
  refine B.getI dX3_stands_1 fl_3_24 t1 ?_
  refine B.iconst (-1) dX3_stands_4 (by decide) ?_
  refine B.icmp_eq 12 dX3_stands_5 (by decide) (fun q2 => ?_) (fun q2 => ?_)
  · replace h := h.1 q2
    refine B.iconst 0 dX3_stands_12 (by decide) ?_
    refine B.ireturn dX3_stands_13 rfl rfl ?_
    exact h
  · replace h := h.2 q2
    refine B.iconst 1 dX3_stands_8 (by decide) ?_
    refine B.goto_ 13 dX3_stands_9 (by decide) ?_
    refine B.ireturn dX3_stands_13 rfl rfl ?_
    exact h
theorem s_X3_bear_0 {g : GT} {S : ST} {P : PT} {I : IT} {Q : QT} {r0 : Nat} {x1 : Int32} {x2 : Int32} {x3 : Int32} (h : sT S r0 = 4 ∧ ((x2 ≤ (x3 - (10 * (I r0 3))) → ((x1 < 600 → ((x1 < 100 → Q none S P I) ∧ (¬ x1 < 100 → (((I r0 3) ≤ 0 → Q none S P I) ∧ (¬ (I r0 3) ≤ 0 → Q none S P (u2 I r0 3 ((I r0 3) - 1))))))) ∧ (¬ x1 < 600 → ((x1 < 100 → Q none S P (u2 I r0 7 ((I r0 7) + ((x1 - 600) / 50)))) ∧ (¬ x1 < 100 → (((I r0 3) ≤ 0 → Q none S P (u2 I r0 7 ((I r0 7) + ((x1 - 600) / 50)))) ∧ (¬ (I r0 3) ≤ 0 → Q none S P (u2 (u2 I r0 7 ((I r0 7) + ((x1 - 600) / 50))) r0 3 ((I r0 3) - 1))))))))) ∧ (¬ x2 ≤ (x3 - (10 * (I r0 3))) → Q none S P (u2 I r0 6 1)))) : B g MX3_bear 0 0 0 [(0, .ref r0), (1, .int x1), (2, .int x2), (3, .int x3)] [] S P I Q := by
  refine B.iload_n 2 dX3_bear_0 rfl rfl ?_
  refine B.iload_n 3 dX3_bear_1 rfl rfl ?_
  refine B.bipush 10 dX3_bear_2 (by decide) ?_
  refine B.aload_n 0 dX3_bear_4 rfl rfl ?_
  obtain ⟨t1, h⟩ := h
  refine B.getI dX3_bear_5 fl_3_21 t1 ?_
  refine B.imul dX3_bear_8 ?_
  refine B.isub dX3_bear_9 ?_
  refine B.icmp_le 19 dX3_bear_10 (by decide) (fun q2 => ?_) (fun q2 => ?_)
  · replace h := h.1 q2
    refine B.iload_n 1 dX3_bear_19 rfl rfl ?_
    refine B.sipush 600 dX3_bear_20 (by decide) ?_
    refine B.icmp_lt 43 dX3_bear_23 (by decide) (fun q3 => ?_) (fun q3 => ?_)
    · replace h := h.1 q3
      refine B.iload_n 1 dX3_bear_43 rfl rfl ?_
      refine B.bipush 100 dX3_bear_44 (by decide) ?_
      refine B.icmp_lt 66 dX3_bear_46 (by decide) (fun q4 => ?_) (fun q4 => ?_)
      · replace h := h.1 q4
        refine B.return_ dX3_bear_66 rfl ?_
        exact h
      · replace h := h.2 q4
        refine B.aload_n 0 dX3_bear_49 rfl rfl ?_
        refine B.getI dX3_bear_50 fl_3_21 t1 ?_
        refine B.if_le 66 dX3_bear_53 (by decide) (fun q5 => ?_) (fun q5 => ?_)
        · replace h := h.1 q5
          refine B.return_ dX3_bear_66 rfl ?_
          exact h
        · replace h := h.2 q5
          refine B.aload_n 0 dX3_bear_56 rfl rfl ?_
          refine B.dup dX3_bear_57 rfl ?_
          refine B.getI dX3_bear_58 fl_3_21 t1 ?_
          refine B.iconst 1 dX3_bear_61 (by decide) ?_
          refine B.isub dX3_bear_62 ?_
          refine B.putI dX3_bear_63 fw_3_21 t1 ?_
          refine B.return_ dX3_bear_66 rfl ?_
          exact h
    · replace h := h.2 q3
      refine B.aload_n 0 dX3_bear_26 rfl rfl ?_
      refine B.dup dX3_bear_27 rfl ?_
      refine B.getI dX3_bear_28 fl_3_34 t1 ?_
      refine B.iload_n 1 dX3_bear_31 rfl rfl ?_
      refine B.sipush 600 dX3_bear_32 (by decide) ?_
      refine B.isub dX3_bear_35 ?_
      refine B.bipush 50 dX3_bear_36 (by decide) ?_
      refine B.idiv dX3_bear_38 (by decide) ?_
      refine B.iadd dX3_bear_39 ?_
      refine B.putI dX3_bear_40 fw_3_34 t1 ?_
      refine B.iload_n 1 dX3_bear_43 rfl rfl ?_
      refine B.bipush 100 dX3_bear_44 (by decide) ?_
      refine B.icmp_lt 66 dX3_bear_46 (by decide) (fun q6 => ?_) (fun q6 => ?_)
      · replace h := h.1 q6
        refine B.return_ dX3_bear_66 rfl ?_
        exact h
      · replace h := h.2 q6
        refine B.aload_n 0 dX3_bear_49 rfl rfl ?_
        refine B.getI dX3_bear_50 fl_3_21 t1 ?_
        rw [u2_k (I := I) (a := r0) (k := 7) (b := r0) (j := 3) (x := ((I r0 7) + ((x1 - 600) / 50))) (by decide)]
        refine B.if_le 66 dX3_bear_53 (by decide) (fun q7 => ?_) (fun q7 => ?_)
        · replace h := h.1 q7
          refine B.return_ dX3_bear_66 rfl ?_
          exact h
        · replace h := h.2 q7
          refine B.aload_n 0 dX3_bear_56 rfl rfl ?_
          refine B.dup dX3_bear_57 rfl ?_
          refine B.getI dX3_bear_58 fl_3_21 t1 ?_
          rw [u2_k (I := I) (a := r0) (k := 7) (b := r0) (j := 3) (x := ((I r0 7) + ((x1 - 600) / 50))) (by decide)]
          refine B.iconst 1 dX3_bear_61 (by decide) ?_
          refine B.isub dX3_bear_62 ?_
          refine B.putI dX3_bear_63 fw_3_21 t1 ?_
          refine B.return_ dX3_bear_66 rfl ?_
          exact h
  · replace h := h.2 q2
    refine B.aload_n 0 dX3_bear_13 rfl rfl ?_
    refine B.iconst 1 dX3_bear_14 (by decide) ?_
    refine B.putZ dX3_bear_15 fw_3_30 t1 (by decide) ?_
    refine B.return_ dX3_bear_18 rfl ?_
    exact h
theorem s_X3_subject_0 {g : GT} {S : ST} {P : PT} {I : IT} {Q : QT} {r0 : Nat} {x1 : Int32} (h : ((x1 = 0 → sT S r0 = 4 ∧ ((¬ (I r0 4) = (-1) → Q (some (.int (I r0 4))) S P I) ∧ ((I r0 4) = (-1) → Q (some (.int 0)) S P I))) ∧ (x1 = 1 → sT S r0 = 4 ∧ ((¬ (I r0 5) = (-1) → Q (some (.int (I r0 5))) S P I) ∧ ((I r0 5) = (-1) → Q (some (.int 0)) S P I))) ∧ (x1 = 2 → sT S r0 = 4 ∧ Q (some (.int (I r0 1))) S P I) ∧ (x1 = 3 → sT S r0 = 4 ∧ Q (some (.int (I r0 2))) S P I) ∧ (x1 = 4 → sT S r0 = 4 ∧ Q (some (.int (I r0 0))) S P I) ∧ (x1 = 5 → sT S r0 = 4 ∧ Q (some (.int (I r0 3))) S P I) ∧ (x1 = 6 → sT S r0 = 4 ∧ Q (some (.int (I r0 7))) S P I) ∧ (¬ x1 = 0 → ¬ x1 = 1 → ¬ x1 = 2 → ¬ x1 = 3 → ¬ x1 = 4 → ¬ x1 = 5 → ¬ x1 = 6 → Q (some (.int 0)) S P I))) : B g MX3_subject 0 0 0 [(0, .ref r0), (1, .int x1)] [] S P I Q := by
  refine B.iload_n 1 dX3_subject_0 rfl rfl ?_
  rcases Decidable.em (x1 = 0) with q1 | q1_0
  · replace h := h.1 q1
    refine B.tableIn 44 dX3_subject_1 (by rw [q1]; decide) (by rw [q1]; decide) (by rw [q1]; rfl) (by decide) ?_
    refine B.aload_n 0 dX3_subject_44 rfl rfl ?_
    obtain ⟨t2, h⟩ := h
    refine B.getI dX3_subject_45 fl_3_24 t2 ?_
    refine B.iconst (-1) dX3_subject_48 (by decide) ?_
    refine B.icmp_ne 56 dX3_subject_49 (by decide) (fun q3 => ?_) (fun q3 => ?_)
    · replace h := h.1 q3
      refine B.aload_n 0 dX3_subject_56 rfl rfl ?_
      refine B.getI dX3_subject_57 fl_3_24 t2 ?_
      refine B.ireturn dX3_subject_60 rfl rfl ?_
      exact h
    · replace h := h.2 q3
      refine B.iconst 0 dX3_subject_52 (by decide) ?_
      refine B.goto_ 60 dX3_subject_53 (by decide) ?_
      refine B.ireturn dX3_subject_60 rfl rfl ?_
      exact h
  replace h := h.2
  rcases Decidable.em (x1 = 1) with q1 | q1_1
  · replace h := h.1 q1
    refine B.tableIn 61 dX3_subject_1 (by rw [q1]; decide) (by rw [q1]; decide) (by rw [q1]; rfl) (by decide) ?_
    refine B.aload_n 0 dX3_subject_61 rfl rfl ?_
    obtain ⟨t4, h⟩ := h
    refine B.getI dX3_subject_62 fl_3_27 t4 ?_
    refine B.iconst (-1) dX3_subject_65 (by decide) ?_
    refine B.icmp_ne 73 dX3_subject_66 (by decide) (fun q5 => ?_) (fun q5 => ?_)
    · replace h := h.1 q5
      refine B.aload_n 0 dX3_subject_73 rfl rfl ?_
      refine B.getI dX3_subject_74 fl_3_27 t4 ?_
      refine B.ireturn dX3_subject_77 rfl rfl ?_
      exact h
    · replace h := h.2 q5
      refine B.iconst 0 dX3_subject_69 (by decide) ?_
      refine B.goto_ 77 dX3_subject_70 (by decide) ?_
      refine B.ireturn dX3_subject_77 rfl rfl ?_
      exact h
  replace h := h.2
  rcases Decidable.em (x1 = 2) with q1 | q1_2
  · replace h := h.1 q1
    refine B.tableIn 78 dX3_subject_1 (by rw [q1]; decide) (by rw [q1]; decide) (by rw [q1]; rfl) (by decide) ?_
    refine B.aload_n 0 dX3_subject_78 rfl rfl ?_
    obtain ⟨t6, h⟩ := h
    refine B.getI dX3_subject_79 fl_3_15 t6 ?_
    refine B.ireturn dX3_subject_82 rfl rfl ?_
    exact h
  replace h := h.2
  rcases Decidable.em (x1 = 3) with q1 | q1_3
  · replace h := h.1 q1
    refine B.tableIn 83 dX3_subject_1 (by rw [q1]; decide) (by rw [q1]; decide) (by rw [q1]; rfl) (by decide) ?_
    refine B.aload_n 0 dX3_subject_83 rfl rfl ?_
    obtain ⟨t7, h⟩ := h
    refine B.getI dX3_subject_84 fl_3_18 t7 ?_
    refine B.ireturn dX3_subject_87 rfl rfl ?_
    exact h
  replace h := h.2
  rcases Decidable.em (x1 = 4) with q1 | q1_4
  · replace h := h.1 q1
    refine B.tableIn 88 dX3_subject_1 (by rw [q1]; decide) (by rw [q1]; decide) (by rw [q1]; rfl) (by decide) ?_
    refine B.aload_n 0 dX3_subject_88 rfl rfl ?_
    obtain ⟨t8, h⟩ := h
    refine B.getI dX3_subject_89 fl_3_9 t8 ?_
    refine B.ireturn dX3_subject_92 rfl rfl ?_
    exact h
  replace h := h.2
  rcases Decidable.em (x1 = 5) with q1 | q1_5
  · replace h := h.1 q1
    refine B.tableIn 93 dX3_subject_1 (by rw [q1]; decide) (by rw [q1]; decide) (by rw [q1]; rfl) (by decide) ?_
    refine B.aload_n 0 dX3_subject_93 rfl rfl ?_
    obtain ⟨t9, h⟩ := h
    refine B.getI dX3_subject_94 fl_3_21 t9 ?_
    refine B.ireturn dX3_subject_97 rfl rfl ?_
    exact h
  replace h := h.2
  rcases Decidable.em (x1 = 6) with q1 | q1_6
  · replace h := h.1 q1
    refine B.tableIn 98 dX3_subject_1 (by rw [q1]; decide) (by rw [q1]; decide) (by rw [q1]; rfl) (by decide) ?_
    refine B.aload_n 0 dX3_subject_98 rfl rfl ?_
    obtain ⟨t10, h⟩ := h
    refine B.getI dX3_subject_99 fl_3_34 t10 ?_
    refine B.ireturn dX3_subject_102 rfl rfl ?_
    exact h
  replace h := h.2
  replace h := h q1_0 q1_1 q1_2 q1_3 q1_4 q1_5 q1_6
  have qo : (x1).toInt < 0 ∨ 6 < (x1).toInt := by
    refine tsw_out (lo := 0) (hi := 6) (by decide) (by decide) (fun c h1 h2 => ?_)
    obtain rfl | rfl | rfl | rfl | rfl | rfl | rfl : c = 0 ∨ c = 1 ∨ c = 2 ∨ c = 3 ∨ c = 4 ∨ c = 5 ∨ c = 6 := by omega
    · exact q1_0
    · exact q1_1
    · exact q1_2
    · exact q1_3
    · exact q1_4
    · exact q1_5
    · exact q1_6
  refine B.tableOut 103 dX3_subject_1 qo (by decide) ?_
  refine B.iconst 0 dX3_subject_103 (by decide) ?_
  refine B.ireturn dX3_subject_104 rfl rfl ?_
  exact h
theorem s_X4_read_0 {g : GT} {S : ST} {P : PT} {I : IT} {Q : QT} {r0 : Nat} (h : sT S r0 = 5 ∧ ∃ b2, P r0 3 = b2 + 1 ∧ sT S b2 = 7 ∧ T g MX6_scan 0 0 [.ref b2] S P I (fun r S' P' I' => B g MX4_read 0 0 7 [(0, .ref r0)] (r.toList ++ []) S' P' I' Q)) : B g MX4_read 0 0 0 [(0, .ref r0)] [] S P I Q := by
  refine B.aload_n 0 dX4_read_0 rfl rfl ?_
  obtain ⟨t1, h⟩ := h
  obtain ⟨b2, h⟩ := h
  obtain ⟨t3, h⟩ := h
  refine B.getP dX4_read_1 fl_4_33 t1 t3 ?_
  obtain ⟨t4, h⟩ := h
  refine B.callV (M' := MX6_scan) (rc := 0) (rs := 0) (mc := 0) (ms := 0) (st := []) [] dX4_read_4 mv_X6_scan lk_X4_37 ⟨Nat.le_of_ble_eq_true rfl, Nat.le_of_ble_eq_true rfl⟩ rfl rfl (Nat.le_of_ble_eq_true rfl) t4 ?_
  exact h
theorem s_X4_read_7 {g : GT} {S : ST} {P : PT} {I : IT} {Q : QT} {r0 : Nat} (h : sT S r0 = 5 ∧ ∃ b2, P r0 0 = b2 + 1 ∧ sT S b2 = 1 ∧ B g MX4_read 0 0 34 [(0, .ref r0), (1, .int 1), (2, .int 0)] [] S P (u2 (u2 (u2 (u2 I r0 4 0) r0 1 0) r0 2 (-1)) b2 0 0) Q) : B g MX4_read 0 0 7 [(0, .ref r0)] [] S P I Q := by
  refine B.aload_n 0 dX4_read_7 rfl rfl ?_
  refine B.iconst 0 dX4_read_8 (by decide) ?_
  obtain ⟨t1, h⟩ := h
  refine B.putI dX4_read_9 fw_4_25 t1 ?_
  refine B.aload_n 0 dX4_read_12 rfl rfl ?_
  refine B.iconst 0 dX4_read_13 (by decide) ?_
  refine B.putI dX4_read_14 fw_4_18 t1 ?_
  refine B.aload_n 0 dX4_read_17 rfl rfl ?_
  refine B.iconst (-1) dX4_read_18 (by decide) ?_
  refine B.putI dX4_read_19 fw_4_22 t1 ?_
  refine B.aload_n 0 dX4_read_22 rfl rfl ?_
  obtain ⟨b2, h⟩ := h
  obtain ⟨t3, h⟩ := h
  refine B.getP dX4_read_23 fl_4_12 t1 t3 ?_
  refine B.iconst 0 dX4_read_26 (by decide) ?_
  obtain ⟨t4, h⟩ := h
  refine B.putI dX4_read_27 fw_4_40 t4 ?_
  refine B.iconst 1 dX4_read_30 (by decide) ?_
  refine B.istore_n (lv' := [(0, .ref r0), (1, .int 1)]) dX4_read_31 rfl (by decide) rfl ?_
  refine B.iconst 0 dX4_read_32 (by decide) ?_
  refine B.istore_n (lv' := [(0, .ref r0), (1, .int 1), (2, .int 0)]) dX4_read_33 rfl (by decide) rfl ?_
  exact h
theorem s_X4_read_34 {g : GT} {S : ST} {P : PT} {I : IT} {Q : QT} {r0 : Nat} {x1 : Int32} {x2 : Int32} (h : ((300 ≤ x2 → B g MX4_read 0 0 65 [(0, .ref r0), (1, .int x1), (2, .int x2)] [] S P I Q) ∧ (¬ 300 ≤ x2 → ((x1 = 0 → B g MX4_read 0 0 65 [(0, .ref r0), (1, .int x1), (2, .int x2)] [] S P I Q) ∧ (¬ x1 = 0 → sT S r0 = 5 ∧ ∃ b4, P r0 3 = b4 + 1 ∧ sT S b4 = 7 ∧ ∃ b7, P b4 1 = b7 + 1 ∧ sT S b7 = 40 ∧ ∃ j10, ix (I r0 4) j10 (sL S b7) ∧ ((¬ (I b7 j10) = 0 → T g MX4_readLine 0 0 [.ref r0, .int x2] S P I (fun r S' P' I' => B g MX4_read 0 0 58 [(0, .ref r0), (1, .int x1), (2, .int x2)] (r.toList ++ []) S' P' I' Q)) ∧ ((I b7 j10) = 0 → B g MX4_read 0 0 65 [(0, .ref r0), (1, .int x1), (2, .int x2)] [] S P I Q))))))) : B g MX4_read 0 0 34 [(0, .ref r0), (1, .int x1), (2, .int x2)] [] S P I Q := by
  refine B.iload_n 2 dX4_read_34 rfl rfl ?_
  refine B.sipush 300 dX4_read_35 (by decide) ?_
  refine B.icmp_ge 65 dX4_read_38 (by decide) (fun q1 => ?_) (fun q1 => ?_)
  · replace h := h.1 q1
    exact h
  · replace h := h.2 q1
    refine B.iload_n 1 dX4_read_41 rfl rfl ?_
    refine B.if_eq 65 dX4_read_42 (by decide) (fun q2 => ?_) (fun q2 => ?_)
    · replace h := h.1 q2
      exact h
    · replace h := h.2 q2
      refine B.aload_n 0 dX4_read_45 rfl rfl ?_
      refine B.iconst 0 dX4_read_46 (by decide) ?_
      obtain ⟨t3, h⟩ := h
      refine B.callV (M' := MX4_isAt) (rc := 0) (rs := 0) (mc := 0) (ms := 0) (st := []) [.int 0] dX4_read_47 mv_X4_isAt lk_X4_43 ⟨Nat.le_of_ble_eq_true rfl, Nat.le_of_ble_eq_true rfl⟩ rfl rfl (Nat.le_of_ble_eq_true rfl) t3 ?_
      refine T_of rfl (Nat.le_of_ble_eq_true rfl) ?_
      show B g MX4_isAt 0 0 0 [(0, .ref r0), (1, .int 0)] [] S P I _
      refine B.aload_n 0 dX4_isAt_0 rfl rfl ?_
      obtain ⟨b4, h⟩ := h
      obtain ⟨t5, h⟩ := h
      refine B.getP dX4_isAt_1 fl_4_33 t3 t5 ?_
      obtain ⟨t6, h⟩ := h
      obtain ⟨b7, h⟩ := h
      obtain ⟨t8, h⟩ := h
      refine B.getP dX4_isAt_4 fl_4_93 t6 t8 ?_
      refine B.aload_n 0 dX4_isAt_7 rfl rfl ?_
      refine B.getI dX4_isAt_8 fl_4_25 t3 ?_
      obtain ⟨t9, h⟩ := h
      obtain ⟨j10, h⟩ := h
      obtain ⟨t11, h⟩ := h
      refine B.iaload dX4_isAt_11 t9 t11 ?_
      refine B.iload_n 1 dX4_isAt_12 rfl rfl ?_
      refine B.icmp_ne 20 dX4_isAt_13 (by decide) (fun q12 => ?_) (fun q12 => ?_)
      · replace h := h.1 q12
        refine B.iconst 0 dX4_isAt_20 (by decide) ?_
        refine B.ireturn dX4_isAt_21 rfl rfl ?_
        show B g MX4_read 0 0 50 [(0, .ref r0), (1, .int x1), (2, .int x2)] [.int 0] S P I _
        refine B.if_ne 65 dX4_read_50 (by decide) (fun q => absurd q (by decide)) (fun _ => ?_)
        refine B.aload_n 0 dX4_read_53 rfl rfl ?_
        refine B.iload_n 2 dX4_read_54 rfl rfl ?_
        refine B.callV (M' := MX4_readLine) (rc := 0) (rs := 0) (mc := 0) (ms := 0) (st := []) [.int x2] dX4_read_55 mv_X4_readLine lk_X4_47 ⟨Nat.le_of_ble_eq_true rfl, Nat.le_of_ble_eq_true rfl⟩ rfl rfl (Nat.le_of_ble_eq_true rfl) t3 ?_
        exact h
      · replace h := h.2 q12
        refine B.iconst 1 dX4_isAt_16 (by decide) ?_
        refine B.goto_ 21 dX4_isAt_17 (by decide) ?_
        refine B.ireturn dX4_isAt_21 rfl rfl ?_
        show B g MX4_read 0 0 50 [(0, .ref r0), (1, .int x1), (2, .int x2)] [.int 1] S P I _
        refine B.if_ne 65 dX4_read_50 (by decide) (fun _ => ?_) (fun q => absurd q (by decide))
        exact h
theorem s_X4_read_58 {g : GT} {S : ST} {P : PT} {I : IT} {Q : QT} {r0 : Nat} {x1 : Int32} {x2 : Int32} {w_s0 : Int32} (h : B g MX4_read 0 0 34 [(0, .ref r0), (1, .int w_s0), (2, .int (x2 + 1))] [] S P I Q) : B g MX4_read 0 0 58 [(0, .ref r0), (1, .int x1), (2, .int x2)] [.int w_s0] S P I Q := by
  refine B.istore_n (lv' := [(0, .ref r0), (1, .int w_s0), (2, .int x2)]) dX4_read_58 rfl (by decide) rfl ?_
  refine B.iinc (lv' := [(0, .ref r0), (1, .int w_s0), (2, .int (x2 + 1))]) 2 (x2 + 1) dX4_read_59 rfl rfl (by decide) rfl ?_
  refine B.goto_ 34 dX4_read_62 (by decide) ?_
  exact h
theorem s_X4_read_65 {g : GT} {S : ST} {P : PT} {I : IT} {Q : QT} {r0 : Nat} {x1 : Int32} {x2 : Int32} (h : ((¬ x1 = 0 → Q none S P I) ∧ (x1 = 0 → sT S r0 = 5 ∧ ∃ b3, P r0 3 = b3 + 1 ∧ sT S b3 = 7 ∧ ∃ b6, P b3 3 = b6 + 1 ∧ sT S b6 = 40 ∧ ∃ j9, ix (I r0 4) j9 (sL S b6) ∧ Q none S P (u2 (u2 I r0 1 1) r0 2 ((u2 I r0 1 1) b6 j9))))) : B g MX4_read 0 0 65 [(0, .ref r0), (1, .int x1), (2, .int x2)] [] S P I Q := by
  refine B.iload_n 1 dX4_read_65 rfl rfl ?_
  refine B.if_ne 90 dX4_read_66 (by decide) (fun q1 => ?_) (fun q1 => ?_)
  · replace h := h.1 q1
    refine B.return_ dX4_read_90 rfl ?_
    exact h
  · replace h := h.2 q1
    refine B.aload_n 0 dX4_read_69 rfl rfl ?_
    refine B.iconst 1 dX4_read_70 (by decide) ?_
    obtain ⟨t2, h⟩ := h
    refine B.putI dX4_read_71 fw_4_18 t2 ?_
    refine B.aload_n 0 dX4_read_74 rfl rfl ?_
    refine B.aload_n 0 dX4_read_75 rfl rfl ?_
    obtain ⟨b3, h⟩ := h
    obtain ⟨t4, h⟩ := h
    refine B.getP dX4_read_76 fl_4_33 t2 t4 ?_
    obtain ⟨t5, h⟩ := h
    obtain ⟨b6, h⟩ := h
    obtain ⟨t7, h⟩ := h
    refine B.getP dX4_read_79 fl_4_50 t5 t7 ?_
    refine B.aload_n 0 dX4_read_82 rfl rfl ?_
    refine B.getI dX4_read_83 fl_4_25 t2 ?_
    rw [u2_k (I := I) (a := r0) (k := 1) (b := r0) (j := 4) (x := 1) (by decide)]
    obtain ⟨t8, h⟩ := h
    obtain ⟨j9, h⟩ := h
    obtain ⟨t10, h⟩ := h
    refine B.iaload dX4_read_86 t8 t10 ?_
    refine B.putI dX4_read_87 fw_4_22 t2 ?_
    refine B.return_ dX4_read_90 rfl ?_
    exact h
theorem s_X4_readLine_0 {g : GT} {S : ST} {P : PT} {I : IT} {Q : QT} {r0 : Nat} {x1 : Int32} (h : ((12 ≤ x1 → sT S r0 = 5 ∧ ((¬ (I r0 1) = 0 → ∃ b4, P r0 3 = b4 + 1 ∧ sT S b4 = 7 ∧ ∃ b7, P b4 1 = b7 + 1 ∧ sT S b7 = 40 ∧ ∃ j10, ix (I r0 4) j10 (sL S b7) ∧ ((¬ (I b7 j10) = 7 → T g MX4_readDuty 0 0 [.ref r0, .int x1] S P I (fun r S' P' I' => B g MX4_readLine 0 0 68 [(0, .ref r0), (1, .int x1)] (r.toList ++ []) S' P' I' Q)) ∧ ((I b7 j10) = 7 → T g MX4_readCondition 0 0 [.ref r0, .int x1] S P I (fun r S' P' I' => B g MX4_readLine 0 0 58 [(0, .ref r0), (1, .int x1)] (r.toList ++ []) S' P' I' Q)))) ∧ ((I r0 1) = 0 → ∃ b13, P r0 3 = b13 + 1 ∧ sT S b13 = 7 ∧ ∃ b16, P b13 3 = b16 + 1 ∧ sT S b16 = 40 ∧ ∃ j19, ix (I r0 4) j19 (sL S b16) ∧ ∃ b21, P b13 1 = b21 + 1 ∧ sT S b21 = 40 ∧ ∃ j24, ix (I r0 4) j24 (sL S b21) ∧ ((¬ ((u2 (u2 I r0 1 3) r0 2 ((u2 I r0 1 3) b16 j19)) b21 j24) = 7 → T g MX4_readDuty 0 0 [.ref r0, .int x1] S P (u2 (u2 I r0 1 3) r0 2 ((u2 I r0 1 3) b16 j19)) (fun r S' P' I' => B g MX4_readLine 0 0 68 [(0, .ref r0), (1, .int x1)] (r.toList ++ []) S' P' I' Q)) ∧ (((u2 (u2 I r0 1 3) r0 2 ((u2 I r0 1 3) b16 j19)) b21 j24) = 7 → T g MX4_readCondition 0 0 [.ref r0, .int x1] S P (u2 (u2 I r0 1 3) r0 2 ((u2 I r0 1 3) b16 j19)) (fun r S' P' I' => B g MX4_readLine 0 0 58 [(0, .ref r0), (1, .int x1)] (r.toList ++ []) S' P' I' Q)))))) ∧ (¬ 12 ≤ x1 → sT S r0 = 5 ∧ ∃ b28, P r0 0 = b28 + 1 ∧ sT S b28 = 1 ∧ ∃ b31, P b28 2 = b31 + 1 ∧ sT S b31 = 40 ∧ ∃ j34, ix x1 j34 (sL S b31) ∧ ∃ b36, P b28 1 = b36 + 1 ∧ sT S b36 = 40 ∧ ∃ j39, ix x1 j39 (sL S b36) ∧ ∃ b41, P r0 3 = b41 + 1 ∧ sT S b41 = 7 ∧ ∃ b44, P b41 1 = b44 + 1 ∧ sT S b44 = 40 ∧ ∃ j47, ix ((u2 (u2 (u2 I b28 0 (x1 + 1)) b31 j34 0) b36 j39 0) r0 4) j47 (sL S b44) ∧ ((¬ ((u2 (u2 (u2 I b28 0 (x1 + 1)) b31 j34 0) b36 j39 0) b44 j47) = 7 → T g MX4_readDuty 0 0 [.ref r0, .int x1] S P (u2 (u2 (u2 I b28 0 (x1 + 1)) b31 j34 0) b36 j39 0) (fun r S' P' I' => B g MX4_readLine 0 0 68 [(0, .ref r0), (1, .int x1)] (r.toList ++ []) S' P' I' Q)) ∧ (((u2 (u2 (u2 I b28 0 (x1 + 1)) b31 j34 0) b36 j39 0) b44 j47) = 7 → T g MX4_readCondition 0 0 [.ref r0, .int x1] S P (u2 (u2 (u2 I b28 0 (x1 + 1)) b31 j34 0) b36 j39 0) (fun r S' P' I' => B g MX4_readLine 0 0 58 [(0, .ref r0), (1, .int x1)] (r.toList ++ []) S' P' I' Q)))))) : B g MX4_readLine 0 0 0 [(0, .ref r0), (1, .int x1)] [] S P I Q := by
  refine B.iload_n 1 dX4_readLine_0 rfl rfl ?_
  refine B.bipush 12 dX4_readLine_1 (by decide) ?_
  refine B.icmp_ge 39 dX4_readLine_3 (by decide) (fun q1 => ?_) (fun q1 => ?_)
  · replace h := h.1 q1
    refine B.aload_n 0 dX4_readLine_39 rfl rfl ?_
    refine B.iconst 3 dX4_readLine_40 (by decide) ?_
    obtain ⟨t2, h⟩ := h
    refine B.callV (M' := MX4_note) (rc := 0) (rs := 0) (mc := 0) (ms := 0) (st := []) [.int 3] dX4_readLine_41 mv_X4_note lk_X4_60 ⟨Nat.le_of_ble_eq_true rfl, Nat.le_of_ble_eq_true rfl⟩ rfl rfl (Nat.le_of_ble_eq_true rfl) t2 ?_
    refine T_of rfl (Nat.le_of_ble_eq_true rfl) ?_
    show B g MX4_note 0 0 0 [(0, .ref r0), (1, .int 3)] [] S P I _
    refine B.aload_n 0 dX4_note_0 rfl rfl ?_
    refine B.getI dX4_note_1 fl_4_18 t2 ?_
    refine B.if_ne 28 dX4_note_4 (by decide) (fun q3 => ?_) (fun q3 => ?_)
    · replace h := h.1 q3
      refine B.return_ dX4_note_28 rfl ?_
      show B g MX4_readLine 0 0 44 [(0, .ref r0), (1, .int x1)] [] S P I _
      refine B.aload_n 0 dX4_readLine_44 rfl rfl ?_
      refine B.bipush 7 dX4_readLine_45 (by decide) ?_
      refine B.callV (M' := MX4_isAt) (rc := 0) (rs := 0) (mc := 0) (ms := 0) (st := []) [.int 7] dX4_readLine_47 mv_X4_isAt lk_X4_43 ⟨Nat.le_of_ble_eq_true rfl, Nat.le_of_ble_eq_true rfl⟩ rfl rfl (Nat.le_of_ble_eq_true rfl) t2 ?_
      refine T_of rfl (Nat.le_of_ble_eq_true rfl) ?_
      show B g MX4_isAt 0 0 0 [(0, .ref r0), (1, .int 7)] [] S P I _
      refine B.aload_n 0 dX4_isAt_0 rfl rfl ?_
      obtain ⟨b4, h⟩ := h
      obtain ⟨t5, h⟩ := h
      refine B.getP dX4_isAt_1 fl_4_33 t2 t5 ?_
      obtain ⟨t6, h⟩ := h
      obtain ⟨b7, h⟩ := h
      obtain ⟨t8, h⟩ := h
      refine B.getP dX4_isAt_4 fl_4_93 t6 t8 ?_
      refine B.aload_n 0 dX4_isAt_7 rfl rfl ?_
      refine B.getI dX4_isAt_8 fl_4_25 t2 ?_
      obtain ⟨t9, h⟩ := h
      obtain ⟨j10, h⟩ := h
      obtain ⟨t11, h⟩ := h
      refine B.iaload dX4_isAt_11 t9 t11 ?_
      refine B.iload_n 1 dX4_isAt_12 rfl rfl ?_
      refine B.icmp_ne 20 dX4_isAt_13 (by decide) (fun q12 => ?_) (fun q12 => ?_)
      · replace h := h.1 q12
        refine B.iconst 0 dX4_isAt_20 (by decide) ?_
        refine B.ireturn dX4_isAt_21 rfl rfl ?_
        show B g MX4_readLine 0 0 50 [(0, .ref r0), (1, .int x1)] [.int 0] S P I _
        refine B.if_eq 63 dX4_readLine_50 (by decide) (fun _ => ?_) (fun q => absurd q (by decide))
        refine B.aload_n 0 dX4_readLine_63 rfl rfl ?_
        refine B.iload_n 1 dX4_readLine_64 rfl rfl ?_
        refine B.callV (M' := MX4_readDuty) (rc := 0) (rs := 0) (mc := 0) (ms := 0) (st := []) [.int x1] dX4_readLine_65 mv_X4_readDuty lk_X4_67 ⟨Nat.le_of_ble_eq_true rfl, Nat.le_of_ble_eq_true rfl⟩ rfl rfl (Nat.le_of_ble_eq_true rfl) t2 ?_
        exact h
      · replace h := h.2 q12
        refine B.iconst 1 dX4_isAt_16 (by decide) ?_
        refine B.goto_ 21 dX4_isAt_17 (by decide) ?_
        refine B.ireturn dX4_isAt_21 rfl rfl ?_
        show B g MX4_readLine 0 0 50 [(0, .ref r0), (1, .int x1)] [.int 1] S P I _
        refine B.if_eq 63 dX4_readLine_50 (by decide) (fun q => absurd q (by decide)) (fun _ => ?_)
        refine B.aload_n 0 dX4_readLine_53 rfl rfl ?_
        refine B.iload_n 1 dX4_readLine_54 rfl rfl ?_
        refine B.callV (M' := MX4_readCondition) (rc := 0) (rs := 0) (mc := 0) (ms := 0) (st := []) [.int x1] dX4_readLine_55 mv_X4_readCondition lk_X4_64 ⟨Nat.le_of_ble_eq_true rfl, Nat.le_of_ble_eq_true rfl⟩ rfl rfl (Nat.le_of_ble_eq_true rfl) t2 ?_
        exact h
    · replace h := h.2 q3
      refine B.aload_n 0 dX4_note_7 rfl rfl ?_
      refine B.iload_n 1 dX4_note_8 rfl rfl ?_
      refine B.putI dX4_note_9 fw_4_18 t2 ?_
      refine B.aload_n 0 dX4_note_12 rfl rfl ?_
      refine B.aload_n 0 dX4_note_13 rfl rfl ?_
      obtain ⟨b13, h⟩ := h
      obtain ⟨t14, h⟩ := h
      refine B.getP dX4_note_14 fl_4_33 t2 t14 ?_
      obtain ⟨t15, h⟩ := h
      obtain ⟨b16, h⟩ := h
      obtain ⟨t17, h⟩ := h
      refine B.getP dX4_note_17 fl_4_50 t15 t17 ?_
      refine B.aload_n 0 dX4_note_20 rfl rfl ?_
      refine B.getI dX4_note_21 fl_4_25 t2 ?_
      rw [u2_k (I := I) (a := r0) (k := 1) (b := r0) (j := 4) (x := 3) (by decide)]
      obtain ⟨t18, h⟩ := h
      obtain ⟨j19, h⟩ := h
      obtain ⟨t20, h⟩ := h
      refine B.iaload dX4_note_24 t18 t20 ?_
      refine B.putI dX4_note_25 fw_4_22 t2 ?_
      refine B.return_ dX4_note_28 rfl ?_
      show B g MX4_readLine 0 0 44 [(0, .ref r0), (1, .int x1)] [] S P (u2 (u2 I r0 1 3) r0 2 ((u2 I r0 1 3) b16 j19)) _
      refine B.aload_n 0 dX4_readLine_44 rfl rfl ?_
      refine B.bipush 7 dX4_readLine_45 (by decide) ?_
      refine B.callV (M' := MX4_isAt) (rc := 0) (rs := 0) (mc := 0) (ms := 0) (st := []) [.int 7] dX4_readLine_47 mv_X4_isAt lk_X4_43 ⟨Nat.le_of_ble_eq_true rfl, Nat.le_of_ble_eq_true rfl⟩ rfl rfl (Nat.le_of_ble_eq_true rfl) t2 ?_
      refine T_of rfl (Nat.le_of_ble_eq_true rfl) ?_
      show B g MX4_isAt 0 0 0 [(0, .ref r0), (1, .int 7)] [] S P (u2 (u2 I r0 1 3) r0 2 ((u2 I r0 1 3) b16 j19)) _
      refine B.aload_n 0 dX4_isAt_0 rfl rfl ?_
      refine B.getP dX4_isAt_1 fl_4_33 t2 t14 ?_
      obtain ⟨b21, h⟩ := h
      obtain ⟨t22, h⟩ := h
      refine B.getP dX4_isAt_4 fl_4_93 t15 t22 ?_
      refine B.aload_n 0 dX4_isAt_7 rfl rfl ?_
      refine B.getI dX4_isAt_8 fl_4_25 t2 ?_
      rw [u2_k (I := (u2 I r0 1 3)) (a := r0) (k := 2) (b := r0) (j := 4) (x := ((u2 I r0 1 3) b16 j19)) (by decide)]
      rw [u2_k (I := I) (a := r0) (k := 1) (b := r0) (j := 4) (x := 3) (by decide)]
      obtain ⟨t23, h⟩ := h
      obtain ⟨j24, h⟩ := h
      obtain ⟨t25, h⟩ := h
      refine B.iaload dX4_isAt_11 t23 t25 ?_
      refine B.iload_n 1 dX4_isAt_12 rfl rfl ?_
      refine B.icmp_ne 20 dX4_isAt_13 (by decide) (fun q26 => ?_) (fun q26 => ?_)
      · replace h := h.1 q26
        refine B.iconst 0 dX4_isAt_20 (by decide) ?_
        refine B.ireturn dX4_isAt_21 rfl rfl ?_
        show B g MX4_readLine 0 0 50 [(0, .ref r0), (1, .int x1)] [.int 0] S P (u2 (u2 I r0 1 3) r0 2 ((u2 I r0 1 3) b16 j19)) _
        refine B.if_eq 63 dX4_readLine_50 (by decide) (fun _ => ?_) (fun q => absurd q (by decide))
        refine B.aload_n 0 dX4_readLine_63 rfl rfl ?_
        refine B.iload_n 1 dX4_readLine_64 rfl rfl ?_
        refine B.callV (M' := MX4_readDuty) (rc := 0) (rs := 0) (mc := 0) (ms := 0) (st := []) [.int x1] dX4_readLine_65 mv_X4_readDuty lk_X4_67 ⟨Nat.le_of_ble_eq_true rfl, Nat.le_of_ble_eq_true rfl⟩ rfl rfl (Nat.le_of_ble_eq_true rfl) t2 ?_
        exact h
      · replace h := h.2 q26
        refine B.iconst 1 dX4_isAt_16 (by decide) ?_
        refine B.goto_ 21 dX4_isAt_17 (by decide) ?_
        refine B.ireturn dX4_isAt_21 rfl rfl ?_
        show B g MX4_readLine 0 0 50 [(0, .ref r0), (1, .int x1)] [.int 1] S P (u2 (u2 I r0 1 3) r0 2 ((u2 I r0 1 3) b16 j19)) _
        refine B.if_eq 63 dX4_readLine_50 (by decide) (fun q => absurd q (by decide)) (fun _ => ?_)
        refine B.aload_n 0 dX4_readLine_53 rfl rfl ?_
        refine B.iload_n 1 dX4_readLine_54 rfl rfl ?_
        refine B.callV (M' := MX4_readCondition) (rc := 0) (rs := 0) (mc := 0) (ms := 0) (st := []) [.int x1] dX4_readLine_55 mv_X4_readCondition lk_X4_64 ⟨Nat.le_of_ble_eq_true rfl, Nat.le_of_ble_eq_true rfl⟩ rfl rfl (Nat.le_of_ble_eq_true rfl) t2 ?_
        exact h
  · replace h := h.2 q1
    refine B.aload_n 0 dX4_readLine_6 rfl rfl ?_
    obtain ⟨t27, h⟩ := h
    obtain ⟨b28, h⟩ := h
    obtain ⟨t29, h⟩ := h
    refine B.getP dX4_readLine_7 fl_4_12 t27 t29 ?_
    refine B.iload_n 1 dX4_readLine_10 rfl rfl ?_
    refine B.iconst 1 dX4_readLine_11 (by decide) ?_
    refine B.iadd dX4_readLine_12 ?_
    obtain ⟨t30, h⟩ := h
    refine B.putI dX4_readLine_13 fw_4_40 t30 ?_
    refine B.aload_n 0 dX4_readLine_16 rfl rfl ?_
    refine B.getP dX4_readLine_17 fl_4_12 t27 t29 ?_
    obtain ⟨b31, h⟩ := h
    obtain ⟨t32, h⟩ := h
    refine B.getP dX4_readLine_20 fl_4_54 t30 t32 ?_
    refine B.iload_n 1 dX4_readLine_23 rfl rfl ?_
    refine B.iconst 0 dX4_readLine_24 (by decide) ?_
    obtain ⟨t33, h⟩ := h
    obtain ⟨j34, h⟩ := h
    obtain ⟨t35, h⟩ := h
    refine B.iastore dX4_readLine_25 t33 t35 ?_
    refine B.aload_n 0 dX4_readLine_26 rfl rfl ?_
    refine B.getP dX4_readLine_27 fl_4_12 t27 t29 ?_
    obtain ⟨b36, h⟩ := h
    obtain ⟨t37, h⟩ := h
    refine B.getP dX4_readLine_30 fl_4_57 t30 t37 ?_
    refine B.iload_n 1 dX4_readLine_33 rfl rfl ?_
    refine B.iconst 0 dX4_readLine_34 (by decide) ?_
    obtain ⟨t38, h⟩ := h
    obtain ⟨j39, h⟩ := h
    obtain ⟨t40, h⟩ := h
    refine B.iastore dX4_readLine_35 t38 t40 ?_
    refine B.goto_ 44 dX4_readLine_36 (by decide) ?_
    refine B.aload_n 0 dX4_readLine_44 rfl rfl ?_
    refine B.bipush 7 dX4_readLine_45 (by decide) ?_
    refine B.callV (M' := MX4_isAt) (rc := 0) (rs := 0) (mc := 0) (ms := 0) (st := []) [.int 7] dX4_readLine_47 mv_X4_isAt lk_X4_43 ⟨Nat.le_of_ble_eq_true rfl, Nat.le_of_ble_eq_true rfl⟩ rfl rfl (Nat.le_of_ble_eq_true rfl) t27 ?_
    refine T_of rfl (Nat.le_of_ble_eq_true rfl) ?_
    show B g MX4_isAt 0 0 0 [(0, .ref r0), (1, .int 7)] [] S P (u2 (u2 (u2 I b28 0 (x1 + 1)) b31 j34 0) b36 j39 0) _
    refine B.aload_n 0 dX4_isAt_0 rfl rfl ?_
    obtain ⟨b41, h⟩ := h
    obtain ⟨t42, h⟩ := h
    refine B.getP dX4_isAt_1 fl_4_33 t27 t42 ?_
    obtain ⟨t43, h⟩ := h
    obtain ⟨b44, h⟩ := h
    obtain ⟨t45, h⟩ := h
    refine B.getP dX4_isAt_4 fl_4_93 t43 t45 ?_
    refine B.aload_n 0 dX4_isAt_7 rfl rfl ?_
    refine B.getI dX4_isAt_8 fl_4_25 t27 ?_
    obtain ⟨t46, h⟩ := h
    obtain ⟨j47, h⟩ := h
    obtain ⟨t48, h⟩ := h
    refine B.iaload dX4_isAt_11 t46 t48 ?_
    refine B.iload_n 1 dX4_isAt_12 rfl rfl ?_
    refine B.icmp_ne 20 dX4_isAt_13 (by decide) (fun q49 => ?_) (fun q49 => ?_)
    · replace h := h.1 q49
      refine B.iconst 0 dX4_isAt_20 (by decide) ?_
      refine B.ireturn dX4_isAt_21 rfl rfl ?_
      show B g MX4_readLine 0 0 50 [(0, .ref r0), (1, .int x1)] [.int 0] S P (u2 (u2 (u2 I b28 0 (x1 + 1)) b31 j34 0) b36 j39 0) _
      refine B.if_eq 63 dX4_readLine_50 (by decide) (fun _ => ?_) (fun q => absurd q (by decide))
      refine B.aload_n 0 dX4_readLine_63 rfl rfl ?_
      refine B.iload_n 1 dX4_readLine_64 rfl rfl ?_
      refine B.callV (M' := MX4_readDuty) (rc := 0) (rs := 0) (mc := 0) (ms := 0) (st := []) [.int x1] dX4_readLine_65 mv_X4_readDuty lk_X4_67 ⟨Nat.le_of_ble_eq_true rfl, Nat.le_of_ble_eq_true rfl⟩ rfl rfl (Nat.le_of_ble_eq_true rfl) t27 ?_
      exact h
    · replace h := h.2 q49
      refine B.iconst 1 dX4_isAt_16 (by decide) ?_
      refine B.goto_ 21 dX4_isAt_17 (by decide) ?_
      refine B.ireturn dX4_isAt_21 rfl rfl ?_
      show B g MX4_readLine 0 0 50 [(0, .ref r0), (1, .int x1)] [.int 1] S P (u2 (u2 (u2 I b28 0 (x1 + 1)) b31 j34 0) b36 j39 0) _
      refine B.if_eq 63 dX4_readLine_50 (by decide) (fun q => absurd q (by decide)) (fun _ => ?_)
      refine B.aload_n 0 dX4_readLine_53 rfl rfl ?_
      refine B.iload_n 1 dX4_readLine_54 rfl rfl ?_
      refine B.callV (M' := MX4_readCondition) (rc := 0) (rs := 0) (mc := 0) (ms := 0) (st := []) [.int x1] dX4_readLine_55 mv_X4_readCondition lk_X4_64 ⟨Nat.le_of_ble_eq_true rfl, Nat.le_of_ble_eq_true rfl⟩ rfl rfl (Nat.le_of_ble_eq_true rfl) t27 ?_
      exact h
theorem s_X4_readLine_58 {g : GT} {S : ST} {P : PT} {I : IT} {Q : QT} {r0 : Nat} {x1 : Int32} {w_s0 : Int32} (h : ((¬ w_s0 = 0 → sT S r0 = 5 ∧ T g MX4_readDuty 0 0 [.ref r0, .int x1] S P I (fun r S' P' I' => B g MX4_readLine 0 0 68 [(0, .ref r0), (1, .int x1)] (r.toList ++ []) S' P' I' Q)) ∧ (w_s0 = 0 → Q (some (.int 0)) S P I))) : B g MX4_readLine 0 0 58 [(0, .ref r0), (1, .int x1)] [.int w_s0] S P I Q := by
  refine B.if_ne 63 dX4_readLine_58 (by decide) (fun q1 => ?_) (fun q1 => ?_)
  · replace h := h.1 q1
    refine B.aload_n 0 dX4_readLine_63 rfl rfl ?_
    refine B.iload_n 1 dX4_readLine_64 rfl rfl ?_
    obtain ⟨t2, h⟩ := h
    refine B.callV (M' := MX4_readDuty) (rc := 0) (rs := 0) (mc := 0) (ms := 0) (st := []) [.int x1] dX4_readLine_65 mv_X4_readDuty lk_X4_67 ⟨Nat.le_of_ble_eq_true rfl, Nat.le_of_ble_eq_true rfl⟩ rfl rfl (Nat.le_of_ble_eq_true rfl) t2 ?_
    exact h
  · replace h := h.2 q1
    refine B.iconst 0 dX4_readLine_61 (by decide) ?_
    refine B.ireturn dX4_readLine_62 rfl rfl ?_
    exact h
theorem s_X4_readLine_68 {g : GT} {S : ST} {P : PT} {I : IT} {Q : QT} {r0 : Nat} {x1 : Int32} {w_s0 : Int32} (h : ((w_s0 = 0 → Q (some (.int 0)) S P I) ∧ (¬ w_s0 = 0 → sT S r0 = 5 ∧ T g MX4_take 0 0 [.ref r0, .int 6] S P I (fun r S' P' I' => B g MX4_readLine 0 0 77 [(0, .ref r0), (1, .int x1)] (r.toList ++ []) S' P' I' Q)))) : B g MX4_readLine 0 0 68 [(0, .ref r0), (1, .int x1)] [.int w_s0] S P I Q := by
  refine B.if_eq 84 dX4_readLine_68 (by decide) (fun q1 => ?_) (fun q1 => ?_)
  · replace h := h.1 q1
    refine B.iconst 0 dX4_readLine_84 (by decide) ?_
    refine B.ireturn dX4_readLine_85 rfl rfl ?_
    exact h
  · replace h := h.2 q1
    refine B.aload_n 0 dX4_readLine_71 rfl rfl ?_
    refine B.bipush 6 dX4_readLine_72 (by decide) ?_
    obtain ⟨t2, h⟩ := h
    refine B.callV (M' := MX4_take) (rc := 0) (rs := 0) (mc := 0) (ms := 0) (st := []) [.int 6] dX4_readLine_74 mv_X4_take lk_X4_70 ⟨Nat.le_of_ble_eq_true rfl, Nat.le_of_ble_eq_true rfl⟩ rfl rfl (Nat.le_of_ble_eq_true rfl) t2 ?_
    exact h
theorem s_X4_readLine_77 {g : GT} {S : ST} {P : PT} {I : IT} {Q : QT} {r0 : Nat} {x1 : Int32} {w_s0 : Int32} (h : ((w_s0 = 0 → Q (some (.int 0)) S P I) ∧ (¬ w_s0 = 0 → Q (some (.int 1)) S P I))) : B g MX4_readLine 0 0 77 [(0, .ref r0), (1, .int x1)] [.int w_s0] S P I Q := by
  refine B.if_eq 84 dX4_readLine_77 (by decide) (fun q1 => ?_) (fun q1 => ?_)
  · replace h := h.1 q1
    refine B.iconst 0 dX4_readLine_84 (by decide) ?_
    refine B.ireturn dX4_readLine_85 rfl rfl ?_
    exact h
  · replace h := h.2 q1
    refine B.iconst 1 dX4_readLine_80 (by decide) ?_
    refine B.goto_ 85 dX4_readLine_81 (by decide) ?_
    refine B.ireturn dX4_readLine_85 rfl rfl ?_
    exact h
theorem s_X4_readCondition_0 {g : GT} {S : ST} {P : PT} {I : IT} {Q : QT} {r0 : Nat} {x1 : Int32} (h : sT S r0 = 5 ∧ T g MX4_take 0 0 [.ref r0, .int 7] S P I (fun r S' P' I' => B g MX4_readCondition 0 0 6 [(0, .ref r0), (1, .int x1)] (r.toList ++ []) S' P' I' Q)) : B g MX4_readCondition 0 0 0 [(0, .ref r0), (1, .int x1)] [] S P I Q := by
  refine B.aload_n 0 dX4_readCondition_0 rfl rfl ?_
  refine B.bipush 7 dX4_readCondition_1 (by decide) ?_
  obtain ⟨t1, h⟩ := h
  refine B.callV (M' := MX4_take) (rc := 0) (rs := 0) (mc := 0) (ms := 0) (st := []) [.int 7] dX4_readCondition_3 mv_X4_take lk_X4_70 ⟨Nat.le_of_ble_eq_true rfl, Nat.le_of_ble_eq_true rfl⟩ rfl rfl (Nat.le_of_ble_eq_true rfl) t1 ?_
  exact h
theorem s_X4_readCondition_6 {g : GT} {S : ST} {P : PT} {I : IT} {Q : QT} {r0 : Nat} {x1 : Int32} {w_s0 : Int32} (h : B g MX4_readCondition 0 0 9 [(0, .ref r0), (1, .int x1), (2, .int w_s0), (3, .int 0)] [] S P I Q) : B g MX4_readCondition 0 0 6 [(0, .ref r0), (1, .int x1)] [.int w_s0] S P I Q := by
  refine B.istore_n (lv' := [(0, .ref r0), (1, .int x1), (2, .int w_s0)]) dX4_readCondition_6 rfl (by decide) rfl ?_
  refine B.iconst 0 dX4_readCondition_7 (by decide) ?_
  refine B.istore_n (lv' := [(0, .ref r0), (1, .int x1), (2, .int w_s0), (3, .int 0)]) dX4_readCondition_8 rfl (by decide) rfl ?_
  exact h
theorem s_X4_readCondition_9 {g : GT} {S : ST} {P : PT} {I : IT} {Q : QT} {r0 : Nat} {x1 : Int32} {x2 : Int32} {x3 : Int32} (h : ((300 ≤ x3 → sT S r0 = 5 ∧ T g MX4_take 0 0 [.ref r0, .int 5] S P I (fun r S' P' I' => B g MX4_readCondition 0 0 49 [(0, .ref r0), (1, .int x1), (2, .int x2), (3, .int x3)] (r.toList ++ []) S' P' I' Q)) ∧ (¬ 300 ≤ x3 → ((x2 = 0 → sT S r0 = 5 ∧ T g MX4_take 0 0 [.ref r0, .int 5] S P I (fun r S' P' I' => B g MX4_readCondition 0 0 49 [(0, .ref r0), (1, .int x1), (2, .int x2), (3, .int x3)] (r.toList ++ []) S' P' I' Q)) ∧ (¬ x2 = 0 → sT S r0 = 5 ∧ T g MX4_readTest 0 0 [.ref r0, .int x1, .int x3] S P I (fun r S' P' I' => B g MX4_readCondition 0 0 26 [(0, .ref r0), (1, .int x1), (2, .int x2), (3, .int x3)] (r.toList ++ []) S' P' I' Q)))))) : B g MX4_readCondition 0 0 9 [(0, .ref r0), (1, .int x1), (2, .int x2), (3, .int x3)] [] S P I Q := by
  refine B.iload_n 3 dX4_readCondition_9 rfl rfl ?_
  refine B.sipush 300 dX4_readCondition_10 (by decide) ?_
  refine B.icmp_ge 44 dX4_readCondition_13 (by decide) (fun q1 => ?_) (fun q1 => ?_)
  · replace h := h.1 q1
    refine B.aload_n 0 dX4_readCondition_44 rfl rfl ?_
    refine B.iconst 5 dX4_readCondition_45 (by decide) ?_
    obtain ⟨t2, h⟩ := h
    refine B.callV (M' := MX4_take) (rc := 0) (rs := 0) (mc := 0) (ms := 0) (st := []) [.int 5] dX4_readCondition_46 mv_X4_take lk_X4_70 ⟨Nat.le_of_ble_eq_true rfl, Nat.le_of_ble_eq_true rfl⟩ rfl rfl (Nat.le_of_ble_eq_true rfl) t2 ?_
    exact h
  · replace h := h.2 q1
    refine B.iload_n 2 dX4_readCondition_16 rfl rfl ?_
    refine B.if_eq 44 dX4_readCondition_17 (by decide) (fun q3 => ?_) (fun q3 => ?_)
    · replace h := h.1 q3
      refine B.aload_n 0 dX4_readCondition_44 rfl rfl ?_
      refine B.iconst 5 dX4_readCondition_45 (by decide) ?_
      obtain ⟨t4, h⟩ := h
      refine B.callV (M' := MX4_take) (rc := 0) (rs := 0) (mc := 0) (ms := 0) (st := []) [.int 5] dX4_readCondition_46 mv_X4_take lk_X4_70 ⟨Nat.le_of_ble_eq_true rfl, Nat.le_of_ble_eq_true rfl⟩ rfl rfl (Nat.le_of_ble_eq_true rfl) t4 ?_
      exact h
    · replace h := h.2 q3
      refine B.aload_n 0 dX4_readCondition_20 rfl rfl ?_
      refine B.iload_n 1 dX4_readCondition_21 rfl rfl ?_
      refine B.iload_n 3 dX4_readCondition_22 rfl rfl ?_
      obtain ⟨t5, h⟩ := h
      refine B.callV (M' := MX4_readTest) (rc := 0) (rs := 0) (mc := 0) (ms := 0) (st := []) [.int x1, .int x3] dX4_readCondition_23 mv_X4_readTest lk_X4_73 ⟨Nat.le_of_ble_eq_true rfl, Nat.le_of_ble_eq_true rfl⟩ rfl rfl (Nat.le_of_ble_eq_true rfl) t5 ?_
      exact h
theorem s_X4_readCondition_26 {g : GT} {S : ST} {P : PT} {I : IT} {Q : QT} {r0 : Nat} {x1 : Int32} {x2 : Int32} {x3 : Int32} {w_s0 : Int32} (h : ((¬ w_s0 = 0 → sT S r0 = 5 ∧ T g MX4_take 0 0 [.ref r0, .int 8] S P I (fun r S' P' I' => B g MX4_readCondition 0 0 37 [(0, .ref r0), (1, .int x1), (2, .int x2), (3, .int x3)] (r.toList ++ []) S' P' I' Q)) ∧ (w_s0 = 0 → Q (some (.int 0)) S P I))) : B g MX4_readCondition 0 0 26 [(0, .ref r0), (1, .int x1), (2, .int x2), (3, .int x3)] [.int w_s0] S P I Q := by
  refine B.if_ne 31 dX4_readCondition_26 (by decide) (fun q1 => ?_) (fun q1 => ?_)
  · replace h := h.1 q1
    refine B.aload_n 0 dX4_readCondition_31 rfl rfl ?_
    refine B.bipush 8 dX4_readCondition_32 (by decide) ?_
    obtain ⟨t2, h⟩ := h
    refine B.callV (M' := MX4_take) (rc := 0) (rs := 0) (mc := 0) (ms := 0) (st := []) [.int 8] dX4_readCondition_34 mv_X4_take lk_X4_70 ⟨Nat.le_of_ble_eq_true rfl, Nat.le_of_ble_eq_true rfl⟩ rfl rfl (Nat.le_of_ble_eq_true rfl) t2 ?_
    exact h
  · replace h := h.2 q1
    refine B.iconst 0 dX4_readCondition_29 (by decide) ?_
    refine B.ireturn dX4_readCondition_30 rfl rfl ?_
    exact h
theorem s_X4_readCondition_37 {g : GT} {S : ST} {P : PT} {I : IT} {Q : QT} {r0 : Nat} {x1 : Int32} {x2 : Int32} {x3 : Int32} {w_s0 : Int32} (h : B g MX4_readCondition 0 0 9 [(0, .ref r0), (1, .int x1), (2, .int w_s0), (3, .int (x3 + 1))] [] S P I Q) : B g MX4_readCondition 0 0 37 [(0, .ref r0), (1, .int x1), (2, .int x2), (3, .int x3)] [.int w_s0] S P I Q := by
  refine B.istore_n (lv' := [(0, .ref r0), (1, .int x1), (2, .int w_s0), (3, .int x3)]) dX4_readCondition_37 rfl (by decide) rfl ?_
  refine B.iinc (lv' := [(0, .ref r0), (1, .int x1), (2, .int w_s0), (3, .int (x3 + 1))]) 3 (x3 + 1) dX4_readCondition_38 rfl rfl (by decide) rfl ?_
  refine B.goto_ 9 dX4_readCondition_41 (by decide) ?_
  exact h
theorem s_X4_readCondition_49 {g : GT} {S : ST} {P : PT} {I : IT} {Q : QT} {r0 : Nat} {x1 : Int32} {x2 : Int32} {x3 : Int32} {w_s0 : Int32} (h : (w_s0 = 0 ∨ w_s0 = 1) ∧ Q (some (.int w_s0)) S P I) : B g MX4_readCondition 0 0 49 [(0, .ref r0), (1, .int x1), (2, .int x2), (3, .int x3)] [.int w_s0] S P I Q := by
  obtain ⟨t1, h⟩ := h
  refine B.ireturn dX4_readCondition_49 rfl (nar_z t1) ?_
  exact h
theorem s_X4_readTest_0 {g : GT} {S : ST} {P : PT} {I : IT} {Q : QT} {r0 : Nat} {x1 : Int32} {x2 : Int32} (h : ((x2 < 4 → sT S r0 = 5 ∧ T g MX4_take 0 0 [.ref r0, .int 9] S P I (fun r S' P' I' => B g MX4_readTest 0 0 16 [(0, .ref r0), (1, .int x1), (2, .int x2)] (r.toList ++ []) S' P' I' Q)) ∧ (¬ x2 < 4 → sT S r0 = 5 ∧ ((¬ (I r0 1) = 0 → T g MX4_take 0 0 [.ref r0, .int 9] S P I (fun r S' P' I' => B g MX4_readTest 0 0 16 [(0, .ref r0), (1, .int x1), (2, .int x2)] (r.toList ++ []) S' P' I' Q)) ∧ ((I r0 1) = 0 → ∃ b5, P r0 3 = b5 + 1 ∧ sT S b5 = 7 ∧ ∃ b8, P b5 3 = b8 + 1 ∧ sT S b8 = 40 ∧ ∃ j11, ix (I r0 4) j11 (sL S b8) ∧ T g MX4_take 0 0 [.ref r0, .int 9] S P (u2 (u2 I r0 1 3) r0 2 ((u2 I r0 1 3) b8 j11)) (fun r S' P' I' => B g MX4_readTest 0 0 16 [(0, .ref r0), (1, .int x1), (2, .int x2)] (r.toList ++ []) S' P' I' Q)))))) : B g MX4_readTest 0 0 0 [(0, .ref r0), (1, .int x1), (2, .int x2)] [] S P I Q := by
  refine B.iload_n 2 dX4_readTest_0 rfl rfl ?_
  refine B.iconst 4 dX4_readTest_1 (by decide) ?_
  refine B.icmp_lt 10 dX4_readTest_2 (by decide) (fun q1 => ?_) (fun q1 => ?_)
  · replace h := h.1 q1
    refine B.aload_n 0 dX4_readTest_10 rfl rfl ?_
    refine B.bipush 9 dX4_readTest_11 (by decide) ?_
    obtain ⟨t2, h⟩ := h
    refine B.callV (M' := MX4_take) (rc := 0) (rs := 0) (mc := 0) (ms := 0) (st := []) [.int 9] dX4_readTest_13 mv_X4_take lk_X4_70 ⟨Nat.le_of_ble_eq_true rfl, Nat.le_of_ble_eq_true rfl⟩ rfl rfl (Nat.le_of_ble_eq_true rfl) t2 ?_
    exact h
  · replace h := h.2 q1
    refine B.aload_n 0 dX4_readTest_5 rfl rfl ?_
    refine B.iconst 3 dX4_readTest_6 (by decide) ?_
    obtain ⟨t3, h⟩ := h
    refine B.callV (M' := MX4_note) (rc := 0) (rs := 0) (mc := 0) (ms := 0) (st := []) [.int 3] dX4_readTest_7 mv_X4_note lk_X4_60 ⟨Nat.le_of_ble_eq_true rfl, Nat.le_of_ble_eq_true rfl⟩ rfl rfl (Nat.le_of_ble_eq_true rfl) t3 ?_
    refine T_of rfl (Nat.le_of_ble_eq_true rfl) ?_
    show B g MX4_note 0 0 0 [(0, .ref r0), (1, .int 3)] [] S P I _
    refine B.aload_n 0 dX4_note_0 rfl rfl ?_
    refine B.getI dX4_note_1 fl_4_18 t3 ?_
    refine B.if_ne 28 dX4_note_4 (by decide) (fun q4 => ?_) (fun q4 => ?_)
    · replace h := h.1 q4
      refine B.return_ dX4_note_28 rfl ?_
      show B g MX4_readTest 0 0 10 [(0, .ref r0), (1, .int x1), (2, .int x2)] [] S P I _
      refine B.aload_n 0 dX4_readTest_10 rfl rfl ?_
      refine B.bipush 9 dX4_readTest_11 (by decide) ?_
      refine B.callV (M' := MX4_take) (rc := 0) (rs := 0) (mc := 0) (ms := 0) (st := []) [.int 9] dX4_readTest_13 mv_X4_take lk_X4_70 ⟨Nat.le_of_ble_eq_true rfl, Nat.le_of_ble_eq_true rfl⟩ rfl rfl (Nat.le_of_ble_eq_true rfl) t3 ?_
      exact h
    · replace h := h.2 q4
      refine B.aload_n 0 dX4_note_7 rfl rfl ?_
      refine B.iload_n 1 dX4_note_8 rfl rfl ?_
      refine B.putI dX4_note_9 fw_4_18 t3 ?_
      refine B.aload_n 0 dX4_note_12 rfl rfl ?_
      refine B.aload_n 0 dX4_note_13 rfl rfl ?_
      obtain ⟨b5, h⟩ := h
      obtain ⟨t6, h⟩ := h
      refine B.getP dX4_note_14 fl_4_33 t3 t6 ?_
      obtain ⟨t7, h⟩ := h
      obtain ⟨b8, h⟩ := h
      obtain ⟨t9, h⟩ := h
      refine B.getP dX4_note_17 fl_4_50 t7 t9 ?_
      refine B.aload_n 0 dX4_note_20 rfl rfl ?_
      refine B.getI dX4_note_21 fl_4_25 t3 ?_
      rw [u2_k (I := I) (a := r0) (k := 1) (b := r0) (j := 4) (x := 3) (by decide)]
      obtain ⟨t10, h⟩ := h
      obtain ⟨j11, h⟩ := h
      obtain ⟨t12, h⟩ := h
      refine B.iaload dX4_note_24 t10 t12 ?_
      refine B.putI dX4_note_25 fw_4_22 t3 ?_
      refine B.return_ dX4_note_28 rfl ?_
      show B g MX4_readTest 0 0 10 [(0, .ref r0), (1, .int x1), (2, .int x2)] [] S P (u2 (u2 I r0 1 3) r0 2 ((u2 I r0 1 3) b8 j11)) _
      refine B.aload_n 0 dX4_readTest_10 rfl rfl ?_
      refine B.bipush 9 dX4_readTest_11 (by decide) ?_
      refine B.callV (M' := MX4_take) (rc := 0) (rs := 0) (mc := 0) (ms := 0) (st := []) [.int 9] dX4_readTest_13 mv_X4_take lk_X4_70 ⟨Nat.le_of_ble_eq_true rfl, Nat.le_of_ble_eq_true rfl⟩ rfl rfl (Nat.le_of_ble_eq_true rfl) t3 ?_
      exact h
theorem s_X4_readTest_16 {g : GT} {S : ST} {P : PT} {I : IT} {Q : QT} {r0 : Nat} {x1 : Int32} {x2 : Int32} {w_s0 : Int32} (h : sT S r0 = 5 ∧ T g MX4_take 0 0 [.ref r0, .int 3] S P I (fun r S' P' I' => B g MX4_readTest 0 0 28 [(0, .ref r0), (1, .int x1), (2, .int x2), (3, .int w_s0), (4, .int (I r0 4))] (r.toList ++ []) S' P' I' Q)) : B g MX4_readTest 0 0 16 [(0, .ref r0), (1, .int x1), (2, .int x2)] [.int w_s0] S P I Q := by
  refine B.istore_n (lv' := [(0, .ref r0), (1, .int x1), (2, .int x2), (3, .int w_s0)]) dX4_readTest_16 rfl (by decide) rfl ?_
  refine B.aload_n 0 dX4_readTest_17 rfl rfl ?_
  obtain ⟨t1, h⟩ := h
  refine B.getI dX4_readTest_18 fl_4_25 t1 ?_
  refine B.istore (lv' := [(0, .ref r0), (1, .int x1), (2, .int x2), (3, .int w_s0), (4, .int (I r0 4))]) dX4_readTest_21 (by decide) rfl ?_
  refine B.aload_n 0 dX4_readTest_23 rfl rfl ?_
  refine B.iconst 3 dX4_readTest_24 (by decide) ?_
  refine B.callV (M' := MX4_take) (rc := 0) (rs := 0) (mc := 0) (ms := 0) (st := []) [.int 3] dX4_readTest_25 mv_X4_take lk_X4_70 ⟨Nat.le_of_ble_eq_true rfl, Nat.le_of_ble_eq_true rfl⟩ rfl rfl (Nat.le_of_ble_eq_true rfl) t1 ?_
  exact h
theorem s_X4_readTest_28 {g : GT} {S : ST} {P : PT} {I : IT} {Q : QT} {r0 : Nat} {x1 : Int32} {x2 : Int32} {x3 : Int32} {x4 : Int32} {w_s0 : Int32} (h : ((w_s0 = 0 → B g MX4_readTest 0 0 51 [(0, .ref r0), (1, .int x1), (2, .int x2), (3, .int x3), (4, .int x4)] [] S P I Q) ∧ (¬ w_s0 = 0 → sT S r0 = 5 ∧ T g MX4_take 0 0 [.ref r0, .int 4] S P I (fun r S' P' I' => B g MX4_readTest 0 0 36 [(0, .ref r0), (1, .int x1), (2, .int x2), (3, .int x3), (4, .int x4)] (r.toList ++ []) S' P' I' Q)))) : B g MX4_readTest 0 0 28 [(0, .ref r0), (1, .int x1), (2, .int x2), (3, .int x3), (4, .int x4)] [.int w_s0] S P I Q := by
  refine B.if_eq 51 dX4_readTest_28 (by decide) (fun q1 => ?_) (fun q1 => ?_)
  · replace h := h.1 q1
    exact h
  · replace h := h.2 q1
    refine B.aload_n 0 dX4_readTest_31 rfl rfl ?_
    refine B.iconst 4 dX4_readTest_32 (by decide) ?_
    obtain ⟨t2, h⟩ := h
    refine B.callV (M' := MX4_take) (rc := 0) (rs := 0) (mc := 0) (ms := 0) (st := []) [.int 4] dX4_readTest_33 mv_X4_take lk_X4_70 ⟨Nat.le_of_ble_eq_true rfl, Nat.le_of_ble_eq_true rfl⟩ rfl rfl (Nat.le_of_ble_eq_true rfl) t2 ?_
    exact h
theorem s_X4_readTest_36 {g : GT} {S : ST} {P : PT} {I : IT} {Q : QT} {r0 : Nat} {x1 : Int32} {x2 : Int32} {x3 : Int32} {x4 : Int32} {w_s0 : Int32} (h : ((w_s0 = 0 → B g MX4_readTest 0 0 51 [(0, .ref r0), (1, .int x1), (2, .int x2), (3, .int x3), (4, .int x4)] [] S P I Q) ∧ (¬ w_s0 = 0 → sT S r0 = 5 ∧ T g MX4_take 0 0 [.ref r0, .int 2] S P I (fun r S' P' I' => B g MX4_readTest 0 0 44 [(0, .ref r0), (1, .int x1), (2, .int x2), (3, .int x3), (4, .int x4)] (r.toList ++ []) S' P' I' Q)))) : B g MX4_readTest 0 0 36 [(0, .ref r0), (1, .int x1), (2, .int x2), (3, .int x3), (4, .int x4)] [.int w_s0] S P I Q := by
  refine B.if_eq 51 dX4_readTest_36 (by decide) (fun q1 => ?_) (fun q1 => ?_)
  · replace h := h.1 q1
    exact h
  · replace h := h.2 q1
    refine B.aload_n 0 dX4_readTest_39 rfl rfl ?_
    refine B.iconst 2 dX4_readTest_40 (by decide) ?_
    obtain ⟨t2, h⟩ := h
    refine B.callV (M' := MX4_take) (rc := 0) (rs := 0) (mc := 0) (ms := 0) (st := []) [.int 2] dX4_readTest_41 mv_X4_take lk_X4_70 ⟨Nat.le_of_ble_eq_true rfl, Nat.le_of_ble_eq_true rfl⟩ rfl rfl (Nat.le_of_ble_eq_true rfl) t2 ?_
    exact h
theorem s_X4_readTest_44 {g : GT} {S : ST} {P : PT} {I : IT} {Q : QT} {r0 : Nat} {x1 : Int32} {x2 : Int32} {x3 : Int32} {x4 : Int32} {w_s0 : Int32} (h : ((w_s0 = 0 → B g MX4_readTest 0 0 51 [(0, .ref r0), (1, .int x1), (2, .int x2), (3, .int x3), (4, .int x4)] [] S P I Q) ∧ (¬ w_s0 = 0 → B g MX4_readTest 0 0 52 [(0, .ref r0), (1, .int x1), (2, .int x2), (3, .int x3), (4, .int x4)] [.int 1] S P I Q))) : B g MX4_readTest 0 0 44 [(0, .ref r0), (1, .int x1), (2, .int x2), (3, .int x3), (4, .int x4)] [.int w_s0] S P I Q := by
  refine B.if_eq 51 dX4_readTest_44 (by decide) (fun q1 => ?_) (fun q1 => ?_)
  · replace h := h.1 q1
    exact h
  · replace h := h.2 q1
    refine B.iconst 1 dX4_readTest_47 (by decide) ?_
    refine B.goto_ 52 dX4_readTest_48 (by decide) ?_
    exact h
theorem s_X4_readTest_51 {g : GT} {S : ST} {P : PT} {I : IT} {Q : QT} {r0 : Nat} {x1 : Int32} {x2 : Int32} {x3 : Int32} {x4 : Int32} (h : B g MX4_readTest 0 0 52 [(0, .ref r0), (1, .int x1), (2, .int x2), (3, .int x3), (4, .int x4)] [.int 0] S P I Q) : B g MX4_readTest 0 0 51 [(0, .ref r0), (1, .int x1), (2, .int x2), (3, .int x3), (4, .int x4)] [] S P I Q := by
  refine B.iconst 0 dX4_readTest_51 (by decide) ?_
  exact h
theorem s_X4_readTest_52 {g : GT} {S : ST} {P : PT} {I : IT} {Q : QT} {r0 : Nat} {x1 : Int32} {x2 : Int32} {x3 : Int32} {x4 : Int32} {w_s0 : Int32} (h : ((w_s0 = 0 → B g MX4_readTest 0 0 79 [(0, .ref r0), (1, .int x1), (2, .int x2), (3, .int x3), (4, .int x4), (5, .int w_s0)] [] S P I Q) ∧ (¬ w_s0 = 0 → ((12 ≤ x1 → B g MX4_readTest 0 0 79 [(0, .ref r0), (1, .int x1), (2, .int x2), (3, .int x3), (4, .int x4), (5, .int w_s0)] [] S P I Q) ∧ (¬ 12 ≤ x1 → ((4 ≤ x2 → B g MX4_readTest 0 0 79 [(0, .ref r0), (1, .int x1), (2, .int x2), (3, .int x3), (4, .int x4), (5, .int w_s0)] [] S P I Q) ∧ (¬ 4 ≤ x2 → sT S r0 = 5 ∧ T g MX4_keepTest 0 0 [.ref r0, .int x1, .int x2, .int x4, .int x3] S P I (fun r S' P' I' => B g MX4_readTest 0 0 79 [(0, .ref r0), (1, .int x1), (2, .int x2), (3, .int x3), (4, .int x4), (5, .int w_s0)] (r.toList ++ []) S' P' I' Q)))))))) : B g MX4_readTest 0 0 52 [(0, .ref r0), (1, .int x1), (2, .int x2), (3, .int x3), (4, .int x4)] [.int w_s0] S P I Q := by
  refine B.istore (lv' := [(0, .ref r0), (1, .int x1), (2, .int x2), (3, .int x3), (4, .int x4), (5, .int w_s0)]) dX4_readTest_52 (by decide) rfl ?_
  refine B.iload 5 dX4_readTest_54 rfl ?_
  refine B.if_eq 79 dX4_readTest_56 (by decide) (fun q1 => ?_) (fun q1 => ?_)
  · replace h := h.1 q1
    exact h
  · replace h := h.2 q1
    refine B.iload_n 1 dX4_readTest_59 rfl rfl ?_
    refine B.bipush 12 dX4_readTest_60 (by decide) ?_
    refine B.icmp_ge 79 dX4_readTest_62 (by decide) (fun q2 => ?_) (fun q2 => ?_)
    · replace h := h.1 q2
      exact h
    · replace h := h.2 q2
      refine B.iload_n 2 dX4_readTest_65 rfl rfl ?_
      refine B.iconst 4 dX4_readTest_66 (by decide) ?_
      refine B.icmp_ge 79 dX4_readTest_67 (by decide) (fun q3 => ?_) (fun q3 => ?_)
      · replace h := h.1 q3
        exact h
      · replace h := h.2 q3
        refine B.aload_n 0 dX4_readTest_70 rfl rfl ?_
        refine B.iload_n 1 dX4_readTest_71 rfl rfl ?_
        refine B.iload_n 2 dX4_readTest_72 rfl rfl ?_
        refine B.iload 4 dX4_readTest_73 rfl ?_
        refine B.iload_n 3 dX4_readTest_75 rfl rfl ?_
        obtain ⟨t4, h⟩ := h
        refine B.callV (M' := MX4_keepTest) (rc := 0) (rs := 0) (mc := 0) (ms := 0) (st := []) [.int x1, .int x2, .int x4, .int x3] dX4_readTest_76 mv_X4_keepTest lk_X4_77 ⟨Nat.le_of_ble_eq_true rfl, Nat.le_of_ble_eq_true rfl⟩ rfl rfl (Nat.le_of_ble_eq_true rfl) t4 ?_
        exact h
theorem s_X4_readTest_79 {g : GT} {S : ST} {P : PT} {I : IT} {Q : QT} {r0 : Nat} {x1 : Int32} {x2 : Int32} {x3 : Int32} {x4 : Int32} {x5 : Int32} (h : (x5 = 0 ∨ x5 = 1) ∧ Q (some (.int x5)) S P I) : B g MX4_readTest 0 0 79 [(0, .ref r0), (1, .int x1), (2, .int x2), (3, .int x3), (4, .int x4), (5, .int x5)] [] S P I Q := by
  refine B.iload 5 dX4_readTest_79 rfl ?_
  obtain ⟨t1, h⟩ := h
  refine B.ireturn dX4_readTest_81 rfl (nar_z t1) ?_
  exact h
theorem s_X4_keepTest_0 {g : GT} {S : ST} {P : PT} {I : IT} {Q : QT} {r0 : Nat} {x1 : Int32} {x2 : Int32} {x3 : Int32} {x4 : Int32} (h : sT S r0 = 5 ∧ ∃ b2, P r0 3 = b2 + 1 ∧ sT S b2 = 7 ∧ ∃ b5, P b2 2 = b5 + 1 ∧ sT S b5 = 40 ∧ ∃ j8, ix (x3 + 1) j8 (sL S b5) ∧ ∃ b10, P r0 0 = b10 + 1 ∧ sT S b10 = 1 ∧ ∃ b13, P b10 3 = b13 + 1 ∧ ∃ j15, ix x3 j15 (sL S b5) ∧ sT S b13 = 40 ∧ ∃ j18, ix ((x1 * 4) + x2) j18 (sL S b13) ∧ ∃ b20, P b10 4 = b20 + 1 ∧ ((x4 = 0 → B g MX4_keepTest 0 0 63 [(0, .ref r0), (1, .int x1), (2, .int x2), (3, .int x3), (4, .int x4), (5, .int ((x1 * 4) + x2)), (6, .int (I b5 j8))] [.int (I b5 j8), .int ((x1 * 4) + x2), .ref b20] S P (u2 I b13 j18 (I b5 j15)) Q) ∧ (¬ x4 = 0 → B g MX4_keepTest 0 0 63 [(0, .ref r0), (1, .int x1), (2, .int x2), (3, .int x3), (4, .int x4), (5, .int ((x1 * 4) + x2)), (6, .int (I b5 j8))] [.int (7 - (I b5 j8)), .int ((x1 * 4) + x2), .ref b20] S P (u2 I b13 j18 (I b5 j15)) Q))) : B g MX4_keepTest 0 0 0 [(0, .ref r0), (1, .int x1), (2, .int x2), (3, .int x3), (4, .int x4)] [] S P I Q := by
  refine B.iload_n 1 dX4_keepTest_0 rfl rfl ?_
  refine B.iconst 4 dX4_keepTest_1 (by decide) ?_
  refine B.imul dX4_keepTest_2 ?_
  refine B.iload_n 2 dX4_keepTest_3 rfl rfl ?_
  refine B.iadd dX4_keepTest_4 ?_
  refine B.istore (lv' := [(0, .ref r0), (1, .int x1), (2, .int x2), (3, .int x3), (4, .int x4), (5, .int ((x1 * 4) + x2))]) dX4_keepTest_5 (by decide) rfl ?_
  refine B.aload_n 0 dX4_keepTest_7 rfl rfl ?_
  obtain ⟨t1, h⟩ := h
  obtain ⟨b2, h⟩ := h
  obtain ⟨t3, h⟩ := h
  refine B.getP dX4_keepTest_8 fl_4_33 t1 t3 ?_
  obtain ⟨t4, h⟩ := h
  obtain ⟨b5, h⟩ := h
  obtain ⟨t6, h⟩ := h
  refine B.getP dX4_keepTest_11 fl_4_81 t4 t6 ?_
  refine B.iload_n 3 dX4_keepTest_14 rfl rfl ?_
  refine B.iconst 1 dX4_keepTest_15 (by decide) ?_
  refine B.iadd dX4_keepTest_16 ?_
  obtain ⟨t7, h⟩ := h
  obtain ⟨j8, h⟩ := h
  obtain ⟨t9, h⟩ := h
  refine B.iaload dX4_keepTest_17 t7 t9 ?_
  refine B.istore (lv' := [(0, .ref r0), (1, .int x1), (2, .int x2), (3, .int x3), (4, .int x4), (5, .int ((x1 * 4) + x2)), (6, .int (I b5 j8))]) dX4_keepTest_18 (by decide) rfl ?_
  refine B.aload_n 0 dX4_keepTest_20 rfl rfl ?_
  obtain ⟨b10, h⟩ := h
  obtain ⟨t11, h⟩ := h
  refine B.getP dX4_keepTest_21 fl_4_12 t1 t11 ?_
  obtain ⟨t12, h⟩ := h
  obtain ⟨b13, h⟩ := h
  obtain ⟨t14, h⟩ := h
  refine B.getP dX4_keepTest_24 fl_4_84 t12 t14 ?_
  refine B.iload 5 dX4_keepTest_27 rfl ?_
  refine B.aload_n 0 dX4_keepTest_29 rfl rfl ?_
  refine B.getP dX4_keepTest_30 fl_4_33 t1 t3 ?_
  refine B.getP dX4_keepTest_33 fl_4_81 t4 t6 ?_
  refine B.iload_n 3 dX4_keepTest_36 rfl rfl ?_
  obtain ⟨j15, h⟩ := h
  obtain ⟨t16, h⟩ := h
  refine B.iaload dX4_keepTest_37 t7 t16 ?_
  obtain ⟨t17, h⟩ := h
  obtain ⟨j18, h⟩ := h
  obtain ⟨t19, h⟩ := h
  refine B.iastore dX4_keepTest_38 t17 t19 ?_
  refine B.aload_n 0 dX4_keepTest_39 rfl rfl ?_
  refine B.getP dX4_keepTest_40 fl_4_12 t1 t11 ?_
  obtain ⟨b20, h⟩ := h
  obtain ⟨t21, h⟩ := h
  refine B.getP dX4_keepTest_43 fl_4_87 t12 t21 ?_
  refine B.iload 5 dX4_keepTest_46 rfl ?_
  refine B.iload 4 dX4_keepTest_48 rfl ?_
  refine B.if_eq 61 dX4_keepTest_50 (by decide) (fun q22 => ?_) (fun q22 => ?_)
  · replace h := h.1 q22
    refine B.iload 6 dX4_keepTest_61 rfl ?_
    exact h
  · replace h := h.2 q22
    refine B.bipush 7 dX4_keepTest_53 (by decide) ?_
    refine B.iload 6 dX4_keepTest_55 rfl ?_
    refine B.isub dX4_keepTest_57 ?_
    refine B.goto_ 63 dX4_keepTest_58 (by decide) ?_
    exact h
theorem s_X4_keepTest_63 {g : GT} {S : ST} {P : PT} {I : IT} {Q : QT} {r0 : Nat} {x1 : Int32} {x2 : Int32} {x3 : Int32} {x4 : Int32} {x5 : Int32} {x6 : Int32} {w_s0 : Int32} {w_s1 : Int32} {a_s2 : Nat} (h : sT S a_s2 = 40 ∧ ∃ j2, ix w_s1 j2 (sL S a_s2) ∧ sT S r0 = 5 ∧ ∃ b5, P r0 0 = b5 + 1 ∧ sT S b5 = 1 ∧ ∃ b8, P b5 5 = b8 + 1 ∧ ∃ b10, P r0 3 = b10 + 1 ∧ sT S b10 = 7 ∧ ∃ b13, P b10 2 = b13 + 1 ∧ sT S b13 = 40 ∧ ∃ j16, ix (x3 + 2) j16 (sL S b13) ∧ sT S b8 = 40 ∧ ∃ j19, ix x5 j19 (sL S b8) ∧ ∃ b21, P b5 2 = b21 + 1 ∧ sT S b21 = 40 ∧ ∃ j24, ix x1 j24 (sL S b21) ∧ Q none S P (u2 (u2 (u2 I a_s2 j2 w_s0) b8 j19 ((u2 I a_s2 j2 w_s0) b13 j16)) b21 j24 (x2 + 1))) : B g MX4_keepTest 0 0 63 [(0, .ref r0), (1, .int x1), (2, .int x2), (3, .int x3), (4, .int x4), (5, .int x5), (6, .int x6)] [.int w_s0, .int w_s1, .ref a_s2] S P I Q := by
  obtain ⟨t1, h⟩ := h
  obtain ⟨j2, h⟩ := h
  obtain ⟨t3, h⟩ := h
  refine B.iastore dX4_keepTest_63 t1 t3 ?_
  refine B.aload_n 0 dX4_keepTest_64 rfl rfl ?_
  obtain ⟨t4, h⟩ := h
  obtain ⟨b5, h⟩ := h
  obtain ⟨t6, h⟩ := h
  refine B.getP dX4_keepTest_65 fl_4_12 t4 t6 ?_
  obtain ⟨t7, h⟩ := h
  obtain ⟨b8, h⟩ := h
  obtain ⟨t9, h⟩ := h
  refine B.getP dX4_keepTest_68 fl_4_90 t7 t9 ?_
  refine B.iload 5 dX4_keepTest_71 rfl ?_
  refine B.aload_n 0 dX4_keepTest_73 rfl rfl ?_
  obtain ⟨b10, h⟩ := h
  obtain ⟨t11, h⟩ := h
  refine B.getP dX4_keepTest_74 fl_4_33 t4 t11 ?_
  obtain ⟨t12, h⟩ := h
  obtain ⟨b13, h⟩ := h
  obtain ⟨t14, h⟩ := h
  refine B.getP dX4_keepTest_77 fl_4_81 t12 t14 ?_
  refine B.iload_n 3 dX4_keepTest_80 rfl rfl ?_
  refine B.iconst 2 dX4_keepTest_81 (by decide) ?_
  refine B.iadd dX4_keepTest_82 ?_
  obtain ⟨t15, h⟩ := h
  obtain ⟨j16, h⟩ := h
  obtain ⟨t17, h⟩ := h
  refine B.iaload dX4_keepTest_83 t15 t17 ?_
  obtain ⟨t18, h⟩ := h
  obtain ⟨j19, h⟩ := h
  obtain ⟨t20, h⟩ := h
  refine B.iastore dX4_keepTest_84 t18 t20 ?_
  refine B.aload_n 0 dX4_keepTest_85 rfl rfl ?_
  refine B.getP dX4_keepTest_86 fl_4_12 t4 t6 ?_
  obtain ⟨b21, h⟩ := h
  obtain ⟨t22, h⟩ := h
  refine B.getP dX4_keepTest_89 fl_4_54 t7 t22 ?_
  refine B.iload_n 1 dX4_keepTest_92 rfl rfl ?_
  refine B.iload_n 2 dX4_keepTest_93 rfl rfl ?_
  refine B.iconst 1 dX4_keepTest_94 (by decide) ?_
  refine B.iadd dX4_keepTest_95 ?_
  obtain ⟨t23, h⟩ := h
  obtain ⟨j24, h⟩ := h
  obtain ⟨t25, h⟩ := h
  refine B.iastore dX4_keepTest_96 t23 t25 ?_
  refine B.return_ dX4_keepTest_97 rfl ?_
  exact h
theorem s_X4_readDuty_0 {g : GT} {S : ST} {P : PT} {I : IT} {Q : QT} {r0 : Nat} {x1 : Int32} (h : sT S r0 = 5 ∧ T g MX4_take 0 0 [.ref r0, .int 11] S P I (fun r S' P' I' => B g MX4_readDuty 0 0 6 [(0, .ref r0), (1, .int x1)] (r.toList ++ []) S' P' I' Q)) : B g MX4_readDuty 0 0 0 [(0, .ref r0), (1, .int x1)] [] S P I Q := by
  refine B.aload_n 0 dX4_readDuty_0 rfl rfl ?_
  refine B.bipush 11 dX4_readDuty_1 (by decide) ?_
  obtain ⟨t1, h⟩ := h
  refine B.callV (M' := MX4_take) (rc := 0) (rs := 0) (mc := 0) (ms := 0) (st := []) [.int 11] dX4_readDuty_3 mv_X4_take lk_X4_70 ⟨Nat.le_of_ble_eq_true rfl, Nat.le_of_ble_eq_true rfl⟩ rfl rfl (Nat.le_of_ble_eq_true rfl) t1 ?_
  exact h
theorem s_X4_readDuty_6 {g : GT} {S : ST} {P : PT} {I : IT} {Q : QT} {r0 : Nat} {x1 : Int32} {w_s0 : Int32} (h : ((¬ w_s0 = 0 → sT S r0 = 5 ∧ ∃ b3, P r0 3 = b3 + 1 ∧ sT S b3 = 7 ∧ ∃ b6, P b3 2 = b6 + 1 ∧ sT S b6 = 40 ∧ ∃ j9, ix (I r0 4) j9 (sL S b6) ∧ ∃ b11, P b3 1 = b11 + 1 ∧ sT S b11 = 40 ∧ ∃ j14, ix (I r0 4) j14 (sL S b11) ∧ ((¬ (I b11 j14) = 2 → B g MX4_readDuty 0 0 48 [(0, .ref r0), (1, .int x1), (2, .int (I b6 j9))] [] S P I Q) ∧ ((I b11 j14) = 2 → (((I b6 j9) ≤ 100 → B g MX4_readDuty 0 0 48 [(0, .ref r0), (1, .int x1), (2, .int (I b6 j9))] [] S P I Q) ∧ (¬ (I b6 j9) ≤ 100 → ((¬ (I r0 1) = 0 → B g MX4_readDuty 0 0 48 [(0, .ref r0), (1, .int x1), (2, .int (I b6 j9))] [] S P I Q) ∧ ((I r0 1) = 0 → ∃ b19, P b3 3 = b19 + 1 ∧ sT S b19 = 40 ∧ ∃ j22, ix (I r0 4) j22 (sL S b19) ∧ B g MX4_readDuty 0 0 48 [(0, .ref r0), (1, .int x1), (2, .int (I b6 j9))] [] S P (u2 (u2 I r0 1 2) r0 2 ((u2 I r0 1 2) b19 j22)) Q))))))) ∧ (w_s0 = 0 → sT S r0 = 5 ∧ T g MX4_take 0 0 [.ref r0, .int 10] S P I (fun r S' P' I' => B g MX4_readDuty 0 0 15 [(0, .ref r0), (1, .int x1)] (r.toList ++ []) S' P' I' Q)))) : B g MX4_readDuty 0 0 6 [(0, .ref r0), (1, .int x1)] [.int w_s0] S P I Q := by
  refine B.if_ne 16 dX4_readDuty_6 (by decide) (fun q1 => ?_) (fun q1 => ?_)
  · replace h := h.1 q1
    refine B.aload_n 0 dX4_readDuty_16 rfl rfl ?_
    obtain ⟨t2, h⟩ := h
    obtain ⟨b3, h⟩ := h
    obtain ⟨t4, h⟩ := h
    refine B.getP dX4_readDuty_17 fl_4_33 t2 t4 ?_
    obtain ⟨t5, h⟩ := h
    obtain ⟨b6, h⟩ := h
    obtain ⟨t7, h⟩ := h
    refine B.getP dX4_readDuty_20 fl_4_81 t5 t7 ?_
    refine B.aload_n 0 dX4_readDuty_23 rfl rfl ?_
    refine B.getI dX4_readDuty_24 fl_4_25 t2 ?_
    obtain ⟨t8, h⟩ := h
    obtain ⟨j9, h⟩ := h
    obtain ⟨t10, h⟩ := h
    refine B.iaload dX4_readDuty_27 t8 t10 ?_
    refine B.istore_n (lv' := [(0, .ref r0), (1, .int x1), (2, .int (I b6 j9))]) dX4_readDuty_28 rfl (by decide) rfl ?_
    refine B.aload_n 0 dX4_readDuty_29 rfl rfl ?_
    refine B.iconst 2 dX4_readDuty_30 (by decide) ?_
    refine B.callV (M' := MX4_isAt) (rc := 0) (rs := 0) (mc := 0) (ms := 0) (st := []) [.int 2] dX4_readDuty_31 mv_X4_isAt lk_X4_43 ⟨Nat.le_of_ble_eq_true rfl, Nat.le_of_ble_eq_true rfl⟩ rfl rfl (Nat.le_of_ble_eq_true rfl) t2 ?_
    refine T_of rfl (Nat.le_of_ble_eq_true rfl) ?_
    show B g MX4_isAt 0 0 0 [(0, .ref r0), (1, .int 2)] [] S P I _
    refine B.aload_n 0 dX4_isAt_0 rfl rfl ?_
    refine B.getP dX4_isAt_1 fl_4_33 t2 t4 ?_
    obtain ⟨b11, h⟩ := h
    obtain ⟨t12, h⟩ := h
    refine B.getP dX4_isAt_4 fl_4_93 t5 t12 ?_
    refine B.aload_n 0 dX4_isAt_7 rfl rfl ?_
    refine B.getI dX4_isAt_8 fl_4_25 t2 ?_
    obtain ⟨t13, h⟩ := h
    obtain ⟨j14, h⟩ := h
    obtain ⟨t15, h⟩ := h
    refine B.iaload dX4_isAt_11 t13 t15 ?_
    refine B.iload_n 1 dX4_isAt_12 rfl rfl ?_
    refine B.icmp_ne 20 dX4_isAt_13 (by decide) (fun q16 => ?_) (fun q16 => ?_)
    · replace h := h.1 q16
      refine B.iconst 0 dX4_isAt_20 (by decide) ?_
      refine B.ireturn dX4_isAt_21 rfl rfl ?_
      show B g MX4_readDuty 0 0 34 [(0, .ref r0), (1, .int x1), (2, .int (I b6 j9))] [.int 0] S P I _
      refine B.if_eq 48 dX4_readDuty_34 (by decide) (fun _ => ?_) (fun q => absurd q (by decide))
      exact h
    · replace h := h.2 q16
      refine B.iconst 1 dX4_isAt_16 (by decide) ?_
      refine B.goto_ 21 dX4_isAt_17 (by decide) ?_
      refine B.ireturn dX4_isAt_21 rfl rfl ?_
      show B g MX4_readDuty 0 0 34 [(0, .ref r0), (1, .int x1), (2, .int (I b6 j9))] [.int 1] S P I _
      refine B.if_eq 48 dX4_readDuty_34 (by decide) (fun q => absurd q (by decide)) (fun _ => ?_)
      refine B.iload_n 2 dX4_readDuty_37 rfl rfl ?_
      refine B.bipush 100 dX4_readDuty_38 (by decide) ?_
      refine B.icmp_le 48 dX4_readDuty_40 (by decide) (fun q17 => ?_) (fun q17 => ?_)
      · replace h := h.1 q17
        exact h
      · replace h := h.2 q17
        refine B.aload_n 0 dX4_readDuty_43 rfl rfl ?_
        refine B.iconst 2 dX4_readDuty_44 (by decide) ?_
        refine B.callV (M' := MX4_note) (rc := 0) (rs := 0) (mc := 0) (ms := 0) (st := []) [.int 2] dX4_readDuty_45 mv_X4_note lk_X4_60 ⟨Nat.le_of_ble_eq_true rfl, Nat.le_of_ble_eq_true rfl⟩ rfl rfl (Nat.le_of_ble_eq_true rfl) t2 ?_
        refine T_of rfl (Nat.le_of_ble_eq_true rfl) ?_
        show B g MX4_note 0 0 0 [(0, .ref r0), (1, .int 2)] [] S P I _
        refine B.aload_n 0 dX4_note_0 rfl rfl ?_
        refine B.getI dX4_note_1 fl_4_18 t2 ?_
        refine B.if_ne 28 dX4_note_4 (by decide) (fun q18 => ?_) (fun q18 => ?_)
        · replace h := h.1 q18
          refine B.return_ dX4_note_28 rfl ?_
          show B g MX4_readDuty 0 0 48 [(0, .ref r0), (1, .int x1), (2, .int (I b6 j9))] [] S P I _
          exact h
        · replace h := h.2 q18
          refine B.aload_n 0 dX4_note_7 rfl rfl ?_
          refine B.iload_n 1 dX4_note_8 rfl rfl ?_
          refine B.putI dX4_note_9 fw_4_18 t2 ?_
          refine B.aload_n 0 dX4_note_12 rfl rfl ?_
          refine B.aload_n 0 dX4_note_13 rfl rfl ?_
          refine B.getP dX4_note_14 fl_4_33 t2 t4 ?_
          obtain ⟨b19, h⟩ := h
          obtain ⟨t20, h⟩ := h
          refine B.getP dX4_note_17 fl_4_50 t5 t20 ?_
          refine B.aload_n 0 dX4_note_20 rfl rfl ?_
          refine B.getI dX4_note_21 fl_4_25 t2 ?_
          rw [u2_k (I := I) (a := r0) (k := 1) (b := r0) (j := 4) (x := 2) (by decide)]
          obtain ⟨t21, h⟩ := h
          obtain ⟨j22, h⟩ := h
          obtain ⟨t23, h⟩ := h
          refine B.iaload dX4_note_24 t21 t23 ?_
          refine B.putI dX4_note_25 fw_4_22 t2 ?_
          refine B.return_ dX4_note_28 rfl ?_
          show B g MX4_readDuty 0 0 48 [(0, .ref r0), (1, .int x1), (2, .int (I b6 j9))] [] S P (u2 (u2 I r0 1 2) r0 2 ((u2 I r0 1 2) b19 j22)) _
          exact h
  · replace h := h.2 q1
    refine B.aload_n 0 dX4_readDuty_9 rfl rfl ?_
    refine B.bipush 10 dX4_readDuty_10 (by decide) ?_
    obtain ⟨t24, h⟩ := h
    refine B.callV (M' := MX4_take) (rc := 0) (rs := 0) (mc := 0) (ms := 0) (st := []) [.int 10] dX4_readDuty_12 mv_X4_take lk_X4_70 ⟨Nat.le_of_ble_eq_true rfl, Nat.le_of_ble_eq_true rfl⟩ rfl rfl (Nat.le_of_ble_eq_true rfl) t24 ?_
    exact h
theorem s_X4_readDuty_15 {g : GT} {S : ST} {P : PT} {I : IT} {Q : QT} {r0 : Nat} {x1 : Int32} {w_s0 : Int32} (h : (w_s0 = 0 ∨ w_s0 = 1) ∧ Q (some (.int w_s0)) S P I) : B g MX4_readDuty 0 0 15 [(0, .ref r0), (1, .int x1)] [.int w_s0] S P I Q := by
  obtain ⟨t1, h⟩ := h
  refine B.ireturn dX4_readDuty_15 rfl (nar_z t1) ?_
  exact h
theorem s_X4_readDuty_48 {g : GT} {S : ST} {P : PT} {I : IT} {Q : QT} {r0 : Nat} {x1 : Int32} {x2 : Int32} (h : ((12 ≤ x1 → sT S r0 = 5 ∧ T g MX4_take 0 0 [.ref r0, .int 2] S P I (fun r S' P' I' => B g MX4_readDuty 0 0 69 [(0, .ref r0), (1, .int x1), (2, .int x2)] (r.toList ++ []) S' P' I' Q)) ∧ (¬ 12 ≤ x1 → sT S r0 = 5 ∧ ∃ b4, P r0 0 = b4 + 1 ∧ sT S b4 = 1 ∧ ∃ b7, P b4 1 = b7 + 1 ∧ sT S b7 = 40 ∧ ∃ j10, ix x1 j10 (sL S b7) ∧ T g MX4_take 0 0 [.ref r0, .int 2] S P (u2 I b7 j10 x2) (fun r S' P' I' => B g MX4_readDuty 0 0 69 [(0, .ref r0), (1, .int x1), (2, .int x2)] (r.toList ++ []) S' P' I' Q)))) : B g MX4_readDuty 0 0 48 [(0, .ref r0), (1, .int x1), (2, .int x2)] [] S P I Q := by
  refine B.iload_n 1 dX4_readDuty_48 rfl rfl ?_
  refine B.bipush 12 dX4_readDuty_49 (by decide) ?_
  refine B.icmp_ge 64 dX4_readDuty_51 (by decide) (fun q1 => ?_) (fun q1 => ?_)
  · replace h := h.1 q1
    refine B.aload_n 0 dX4_readDuty_64 rfl rfl ?_
    refine B.iconst 2 dX4_readDuty_65 (by decide) ?_
    obtain ⟨t2, h⟩ := h
    refine B.callV (M' := MX4_take) (rc := 0) (rs := 0) (mc := 0) (ms := 0) (st := []) [.int 2] dX4_readDuty_66 mv_X4_take lk_X4_70 ⟨Nat.le_of_ble_eq_true rfl, Nat.le_of_ble_eq_true rfl⟩ rfl rfl (Nat.le_of_ble_eq_true rfl) t2 ?_
    exact h
  · replace h := h.2 q1
    refine B.aload_n 0 dX4_readDuty_54 rfl rfl ?_
    obtain ⟨t3, h⟩ := h
    obtain ⟨b4, h⟩ := h
    obtain ⟨t5, h⟩ := h
    refine B.getP dX4_readDuty_55 fl_4_12 t3 t5 ?_
    obtain ⟨t6, h⟩ := h
    obtain ⟨b7, h⟩ := h
    obtain ⟨t8, h⟩ := h
    refine B.getP dX4_readDuty_58 fl_4_57 t6 t8 ?_
    refine B.iload_n 1 dX4_readDuty_61 rfl rfl ?_
    refine B.iload_n 2 dX4_readDuty_62 rfl rfl ?_
    obtain ⟨t9, h⟩ := h
    obtain ⟨j10, h⟩ := h
    obtain ⟨t11, h⟩ := h
    refine B.iastore dX4_readDuty_63 t9 t11 ?_
    refine B.aload_n 0 dX4_readDuty_64 rfl rfl ?_
    refine B.iconst 2 dX4_readDuty_65 (by decide) ?_
    refine B.callV (M' := MX4_take) (rc := 0) (rs := 0) (mc := 0) (ms := 0) (st := []) [.int 2] dX4_readDuty_66 mv_X4_take lk_X4_70 ⟨Nat.le_of_ble_eq_true rfl, Nat.le_of_ble_eq_true rfl⟩ rfl rfl (Nat.le_of_ble_eq_true rfl) t3 ?_
    exact h
theorem s_X4_readDuty_69 {g : GT} {S : ST} {P : PT} {I : IT} {Q : QT} {r0 : Nat} {x1 : Int32} {x2 : Int32} {w_s0 : Int32} (h : (w_s0 = 0 ∨ w_s0 = 1) ∧ Q (some (.int w_s0)) S P I) : B g MX4_readDuty 0 0 69 [(0, .ref r0), (1, .int x1), (2, .int x2)] [.int w_s0] S P I Q := by
  obtain ⟨t1, h⟩ := h
  refine B.ireturn dX4_readDuty_69 rfl (nar_z t1) ?_
  exact h
theorem s_X4_note_0 {g : GT} {S : ST} {P : PT} {I : IT} {Q : QT} {r0 : Nat} {x1 : Int32} (h : sT S r0 = 5 ∧ ((¬ (I r0 1) = 0 → Q none S P I) ∧ ((I r0 1) = 0 → ∃ b3, P r0 3 = b3 + 1 ∧ sT S b3 = 7 ∧ ∃ b6, P b3 3 = b6 + 1 ∧ sT S b6 = 40 ∧ ∃ j9, ix (I r0 4) j9 (sL S b6) ∧ Q none S P (u2 (u2 I r0 1 x1) r0 2 ((u2 I r0 1 x1) b6 j9))))) : B g MX4_note 0 0 0 [(0, .ref r0), (1, .int x1)] [] S P I Q := by
  refine B.aload_n 0 dX4_note_0 rfl rfl ?_
  obtain ⟨t1, h⟩ := h
  refine B.getI dX4_note_1 fl_4_18 t1 ?_
  refine B.if_ne 28 dX4_note_4 (by decide) (fun q2 => ?_) (fun q2 => ?_)
  · replace h := h.1 q2
    refine B.return_ dX4_note_28 rfl ?_
    exact h
  · replace h := h.2 q2
    refine B.aload_n 0 dX4_note_7 rfl rfl ?_
    refine B.iload_n 1 dX4_note_8 rfl rfl ?_
    refine B.putI dX4_note_9 fw_4_18 t1 ?_
    refine B.aload_n 0 dX4_note_12 rfl rfl ?_
    refine B.aload_n 0 dX4_note_13 rfl rfl ?_
    obtain ⟨b3, h⟩ := h
    obtain ⟨t4, h⟩ := h
    refine B.getP dX4_note_14 fl_4_33 t1 t4 ?_
    obtain ⟨t5, h⟩ := h
    obtain ⟨b6, h⟩ := h
    obtain ⟨t7, h⟩ := h
    refine B.getP dX4_note_17 fl_4_50 t5 t7 ?_
    refine B.aload_n 0 dX4_note_20 rfl rfl ?_
    refine B.getI dX4_note_21 fl_4_25 t1 ?_
    rw [u2_k (I := I) (a := r0) (k := 1) (b := r0) (j := 4) (x := x1) (by decide)]
    obtain ⟨t8, h⟩ := h
    obtain ⟨j9, h⟩ := h
    obtain ⟨t10, h⟩ := h
    refine B.iaload dX4_note_24 t8 t10 ?_
    refine B.putI dX4_note_25 fw_4_22 t1 ?_
    refine B.return_ dX4_note_28 rfl ?_
    exact h
theorem s_X4_isAt_0 {g : GT} {S : ST} {P : PT} {I : IT} {Q : QT} {r0 : Nat} {x1 : Int32} (h : sT S r0 = 5 ∧ ∃ b2, P r0 3 = b2 + 1 ∧ sT S b2 = 7 ∧ ∃ b5, P b2 1 = b5 + 1 ∧ sT S b5 = 40 ∧ ∃ j8, ix (I r0 4) j8 (sL S b5) ∧ ((¬ (I b5 j8) = x1 → Q (some (.int 0)) S P I) ∧ ((I b5 j8) = x1 → Q (some (.int 1)) S P I))) : B g MX4_isAt 0 0 0 [(0, .ref r0), (1, .int x1)] [] S P I Q := by
  refine B.aload_n 0 dX4_isAt_0 rfl rfl ?_
  obtain ⟨t1, h⟩ := h
  obtain ⟨b2, h⟩ := h
  obtain ⟨t3, h⟩ := h
  refine B.getP dX4_isAt_1 fl_4_33 t1 t3 ?_
  obtain ⟨t4, h⟩ := h
  obtain ⟨b5, h⟩ := h
  obtain ⟨t6, h⟩ := h
  refine B.getP dX4_isAt_4 fl_4_93 t4 t6 ?_
  refine B.aload_n 0 dX4_isAt_7 rfl rfl ?_
  refine B.getI dX4_isAt_8 fl_4_25 t1 ?_
  obtain ⟨t7, h⟩ := h
  obtain ⟨j8, h⟩ := h
  obtain ⟨t9, h⟩ := h
  refine B.iaload dX4_isAt_11 t7 t9 ?_
  refine B.iload_n 1 dX4_isAt_12 rfl rfl ?_
  refine B.icmp_ne 20 dX4_isAt_13 (by decide) (fun q10 => ?_) (fun q10 => ?_)
  · replace h := h.1 q10
    refine B.iconst 0 dX4_isAt_20 (by decide) ?_
    refine B.ireturn dX4_isAt_21 rfl rfl ?_
    exact h
  · replace h := h.2 q10
    refine B.iconst 1 dX4_isAt_16 (by decide) ?_
    refine B.goto_ 21 dX4_isAt_17 (by decide) ?_
    refine B.ireturn dX4_isAt_21 rfl rfl ?_
    exact h
theorem s_X4_take_0 {g : GT} {S : ST} {P : PT} {I : IT} {Q : QT} {r0 : Nat} {x1 : Int32} (h : sT S r0 = 5 ∧ ∃ b2, P r0 3 = b2 + 1 ∧ sT S b2 = 7 ∧ ∃ b5, P b2 1 = b5 + 1 ∧ sT S b5 = 40 ∧ ∃ j8, ix (I r0 4) j8 (sL S b5) ∧ ((¬ (I b5 j8) = x1 → Q (some (.int 0)) S P I) ∧ ((I b5 j8) = x1 → (((I r0 4) < 300 → Q (some (.int 1)) S P (u2 I r0 4 ((I r0 4) + 1))) ∧ (¬ (I r0 4) < 300 → Q (some (.int 0)) S P I))))) : B g MX4_take 0 0 0 [(0, .ref r0), (1, .int x1)] [] S P I Q := by
  refine B.aload_n 0 dX4_take_0 rfl rfl ?_
  refine B.iload_n 1 dX4_take_1 rfl rfl ?_
  obtain ⟨t1, h⟩ := h
  refine B.callV (M' := MX4_isAt) (rc := 0) (rs := 0) (mc := 0) (ms := 0) (st := []) [.int x1] dX4_take_2 mv_X4_isAt lk_X4_43 ⟨Nat.le_of_ble_eq_true rfl, Nat.le_of_ble_eq_true rfl⟩ rfl rfl (Nat.le_of_ble_eq_true rfl) t1 ?_
  refine T_of rfl (Nat.le_of_ble_eq_true rfl) ?_
  show B g MX4_isAt 0 0 0 [(0, .ref r0), (1, .int x1)] [] S P I _
  refine B.aload_n 0 dX4_isAt_0 rfl rfl ?_
  obtain ⟨b2, h⟩ := h
  obtain ⟨t3, h⟩ := h
  refine B.getP dX4_isAt_1 fl_4_33 t1 t3 ?_
  obtain ⟨t4, h⟩ := h
  obtain ⟨b5, h⟩ := h
  obtain ⟨t6, h⟩ := h
  refine B.getP dX4_isAt_4 fl_4_93 t4 t6 ?_
  refine B.aload_n 0 dX4_isAt_7 rfl rfl ?_
  refine B.getI dX4_isAt_8 fl_4_25 t1 ?_
  obtain ⟨t7, h⟩ := h
  obtain ⟨j8, h⟩ := h
  obtain ⟨t9, h⟩ := h
  refine B.iaload dX4_isAt_11 t7 t9 ?_
  refine B.iload_n 1 dX4_isAt_12 rfl rfl ?_
  refine B.icmp_ne 20 dX4_isAt_13 (by decide) (fun q10 => ?_) (fun q10 => ?_)
  · replace h := h.1 q10
    refine B.iconst 0 dX4_isAt_20 (by decide) ?_
    refine B.ireturn dX4_isAt_21 rfl rfl ?_
    show B g MX4_take 0 0 5 [(0, .ref r0), (1, .int x1)] [.int 0] S P I _
    refine B.if_eq 18 dX4_take_5 (by decide) (fun _ => ?_) (fun q => absurd q (by decide))
    refine B.iconst 0 dX4_take_18 (by decide) ?_
    refine B.ireturn dX4_take_19 rfl rfl ?_
    exact h
  · replace h := h.2 q10
    refine B.iconst 1 dX4_isAt_16 (by decide) ?_
    refine B.goto_ 21 dX4_isAt_17 (by decide) ?_
    refine B.ireturn dX4_isAt_21 rfl rfl ?_
    show B g MX4_take 0 0 5 [(0, .ref r0), (1, .int x1)] [.int 1] S P I _
    refine B.if_eq 18 dX4_take_5 (by decide) (fun q => absurd q (by decide)) (fun _ => ?_)
    refine B.aload_n 0 dX4_take_8 rfl rfl ?_
    refine B.getI dX4_take_9 fl_4_25 t1 ?_
    refine B.sipush 300 dX4_take_12 (by decide) ?_
    refine B.icmp_lt 20 dX4_take_15 (by decide) (fun q11 => ?_) (fun q11 => ?_)
    · replace h := h.1 q11
      refine B.aload_n 0 dX4_take_20 rfl rfl ?_
      refine B.dup dX4_take_21 rfl ?_
      refine B.getI dX4_take_22 fl_4_25 t1 ?_
      refine B.iconst 1 dX4_take_25 (by decide) ?_
      refine B.iadd dX4_take_26 ?_
      refine B.putI dX4_take_27 fw_4_25 t1 ?_
      refine B.iconst 1 dX4_take_30 (by decide) ?_
      refine B.ireturn dX4_take_31 rfl rfl ?_
      exact h
    · replace h := h.2 q11
      refine B.iconst 0 dX4_take_18 (by decide) ?_
      refine B.ireturn dX4_take_19 rfl rfl ?_
      exact h
theorem s_X5_copyFrom_0 {g : GT} {S : ST} {P : PT} {I : IT} {Q : QT} {r0 : Nat} {r1 : Nat} (h : sT S r1 = 6 ∧ ∃ b2, P r1 0 = b2 + 1 ∧ sT S r0 = 6 ∧ ∃ b5, P r0 0 = b5 + 1 ∧ sT S b2 = 41 ∧ sT S b5 = 41 ∧ 300 ≤ sL S b2 ∧ 300 ≤ sL S b5 ∧ (∀ k, k < 300 → fits (a_ty 1) (.int (I b2 k)) = true) ∧ Q none S P (u2 (cpI I b2 b5 300) r0 1 ((cpI I b2 b5 300) r1 1))) : B g MX5_copyFrom 0 0 0 [(0, .ref r0), (1, .ref r1)] [] S P I Q := by
  refine B.aload_n 1 dX5_copyFrom_0 rfl rfl ?_
  obtain ⟨t1, h⟩ := h
  obtain ⟨b2, h⟩ := h
  obtain ⟨t3, h⟩ := h
  refine B.getP dX5_copyFrom_1 fl_5_9 t1 t3 ?_
  refine B.iconst 0 dX5_copyFrom_4 (by decide) ?_
  refine B.aload_n 0 dX5_copyFrom_5 rfl rfl ?_
  obtain ⟨t4, h⟩ := h
  obtain ⟨b5, h⟩ := h
  obtain ⟨t6, h⟩ := h
  refine B.getP dX5_copyFrom_6 fl_5_9 t4 t6 ?_
  refine B.iconst 0 dX5_copyFrom_9 (by decide) ?_
  refine B.sipush 300 dX5_copyFrom_10 (by decide) ?_
  obtain ⟨t7, h⟩ := h
  obtain ⟨t8, h⟩ := h
  obtain ⟨t9, h⟩ := h
  obtain ⟨t10, h⟩ := h
  obtain ⟨t11, h⟩ := h
  refine B.copy (t := 1) (n := 300) (by decide) t11 rfl dX5_copyFrom_13 lk_X5_19 (by decide) (by decide) (Nat.le_of_ble_eq_true rfl) t7 t8 (by decide) (by decide) t9 t10 ?_
  refine B.aload_n 0 dX5_copyFrom_16 rfl rfl ?_
  refine B.aload_n 1 dX5_copyFrom_17 rfl rfl ?_
  refine B.getI dX5_copyFrom_18 fl_5_15 t1 ?_
  refine B.putI dX5_copyFrom_21 fw_5_15 t4 ?_
  refine B.return_ dX5_copyFrom_24 rfl ?_
  exact h
theorem s_X5_append_0 {g : GT} {S : ST} {P : PT} {I : IT} {Q : QT} {r0 : Nat} {x1 : Int32} (h : B g MX5_append 0 0 3 [(0, .ref r0), (1, .int x1), (2, .int 24)] [] S P I Q) : B g MX5_append 0 0 0 [(0, .ref r0), (1, .int x1)] [] S P I Q := by
  refine B.bipush 24 dX5_append_0 (by decide) ?_
  refine B.istore_n (lv' := [(0, .ref r0), (1, .int x1), (2, .int 24)]) dX5_append_2 rfl (by decide) rfl ?_
  exact h
theorem s_X5_append_3 {g : GT} {S : ST} {P : PT} {I : IT} {Q : QT} {r0 : Nat} {x1 : Int32} {x2 : Int32} (h : ((x2 < 0 → Q none S P I) ∧ (¬ x2 < 0 → sT S r0 = 6 ∧ ((300 ≤ (I r0 1) → Q none S P I) ∧ (¬ 300 ≤ (I r0 1) → ∃ b4, P r0 0 = b4 + 1 ∧ sT S b4 = 41 ∧ ∃ j7, ix (I r0 1) j7 (sL S b4) ∧ B g MX5_append 0 0 3 [(0, .ref r0), (1, .int x1), (2, .int (x2 + (-8)))] [] S P (u2 (u2 I b4 j7 ((x1 >>> (x2 &&& 31))).toInt8.toInt32) r0 1 (((u2 I b4 j7 ((x1 >>> (x2 &&& 31))).toInt8.toInt32) r0 1) + 1)) Q))))) : B g MX5_append 0 0 3 [(0, .ref r0), (1, .int x1), (2, .int x2)] [] S P I Q := by
  refine B.iload_n 2 dX5_append_3 rfl rfl ?_
  refine B.if_lt 46 dX5_append_4 (by decide) (fun q1 => ?_) (fun q1 => ?_)
  · replace h := h.1 q1
    refine B.return_ dX5_append_46 rfl ?_
    exact h
  · replace h := h.2 q1
    refine B.aload_n 0 dX5_append_7 rfl rfl ?_
    obtain ⟨t2, h⟩ := h
    refine B.getI dX5_append_8 fl_5_15 t2 ?_
    refine B.sipush 300 dX5_append_11 (by decide) ?_
    refine B.icmp_ge 46 dX5_append_14 (by decide) (fun q3 => ?_) (fun q3 => ?_)
    · replace h := h.1 q3
      refine B.return_ dX5_append_46 rfl ?_
      exact h
    · replace h := h.2 q3
      refine B.aload_n 0 dX5_append_17 rfl rfl ?_
      obtain ⟨b4, h⟩ := h
      obtain ⟨t5, h⟩ := h
      refine B.getP dX5_append_18 fl_5_9 t2 t5 ?_
      refine B.aload_n 0 dX5_append_21 rfl rfl ?_
      refine B.getI dX5_append_22 fl_5_15 t2 ?_
      refine B.iload_n 1 dX5_append_25 rfl rfl ?_
      refine B.iload_n 2 dX5_append_26 rfl rfl ?_
      refine B.ishr dX5_append_27 ?_
      refine B.i2b dX5_append_28 ?_
      obtain ⟨t6, h⟩ := h
      obtain ⟨j7, h⟩ := h
      obtain ⟨t8, h⟩ := h
      refine B.bastore dX5_append_29 t6 t8 (pk_nb _) ?_
      refine B.aload_n 0 dX5_append_30 rfl rfl ?_
      refine B.dup dX5_append_31 rfl ?_
      refine B.getI dX5_append_32 fl_5_15 t2 ?_
      refine B.iconst 1 dX5_append_35 (by decide) ?_
      refine B.iadd dX5_append_36 ?_
      refine B.putI dX5_append_37 fw_5_15 t2 ?_
      refine B.iinc (lv' := [(0, .ref r0), (1, .int x1), (2, .int (x2 + (-8)))]) 2 (x2 + (-8)) dX5_append_40 rfl rfl (by decide) rfl ?_
      refine B.goto_ 3 dX5_append_43 (by decide) ?_
      exact h
theorem s_X6_scan_0 {g : GT} {S : ST} {P : PT} {I : IT} {Q : QT} {r0 : Nat} (h : sT S r0 = 7 ∧ B g MX6_scan 0 0 9 [(0, .ref r0), (1, .int 2), (2, .int 0)] [] S P (u2 I r0 5 0) Q) : B g MX6_scan 0 0 0 [(0, .ref r0)] [] S P I Q := by
  refine B.aload_n 0 dX6_scan_0 rfl rfl ?_
  refine B.iconst 0 dX6_scan_1 (by decide) ?_
  obtain ⟨t1, h⟩ := h
  refine B.putI dX6_scan_2 fw_6_25 t1 ?_
  refine B.iconst 2 dX6_scan_5 (by decide) ?_
  refine B.istore_n (lv' := [(0, .ref r0), (1, .int 2)]) dX6_scan_6 rfl (by decide) rfl ?_
  refine B.iconst 0 dX6_scan_7 (by decide) ?_
  refine B.istore_n (lv' := [(0, .ref r0), (1, .int 2), (2, .int 0)]) dX6_scan_8 rfl (by decide) rfl ?_
  exact h
theorem s_X6_scan_9 {g : GT} {S : ST} {P : PT} {I : IT} {Q : QT} {r0 : Nat} {x1 : Int32} {x2 : Int32} (h : ((300 < x2 → Q none S P I) ∧ (¬ 300 < x2 → ((x1 = 0 → Q none S P I) ∧ (¬ x1 = 0 → ((x1 = 1 → Q none S P I) ∧ (¬ x1 = 1 → sT S r0 = 7 ∧ T g MX6_scanOne 0 0 [.ref r0] S P (u2 I r0 6 0) (fun r S' P' I' => B g MX6_scan 0 0 34 [(0, .ref r0), (1, .int x1), (2, .int x2)] (r.toList ++ []) S' P' I' Q)))))))) : B g MX6_scan 0 0 9 [(0, .ref r0), (1, .int x1), (2, .int x2)] [] S P I Q := by
  refine B.iload_n 2 dX6_scan_9 rfl rfl ?_
  refine B.sipush 300 dX6_scan_10 (by decide) ?_
  refine B.icmp_gt 68 dX6_scan_13 (by decide) (fun q1 => ?_) (fun q1 => ?_)
  · replace h := h.1 q1
    refine B.return_ dX6_scan_68 rfl ?_
    exact h
  · replace h := h.2 q1
    refine B.iload_n 1 dX6_scan_16 rfl rfl ?_
    refine B.if_eq 68 dX6_scan_17 (by decide) (fun q2 => ?_) (fun q2 => ?_)
    · replace h := h.1 q2
      refine B.return_ dX6_scan_68 rfl ?_
      exact h
    · replace h := h.2 q2
      refine B.iload_n 1 dX6_scan_20 rfl rfl ?_
      refine B.iconst 1 dX6_scan_21 (by decide) ?_
      refine B.icmp_eq 68 dX6_scan_22 (by decide) (fun q3 => ?_) (fun q3 => ?_)
      · replace h := h.1 q3
        refine B.return_ dX6_scan_68 rfl ?_
        exact h
      · replace h := h.2 q3
        refine B.aload_n 0 dX6_scan_25 rfl rfl ?_
        refine B.iconst 0 dX6_scan_26 (by decide) ?_
        obtain ⟨t4, h⟩ := h
        refine B.putI dX6_scan_27 fw_6_28 t4 ?_
        refine B.aload_n 0 dX6_scan_30 rfl rfl ?_
        refine B.callV (M' := MX6_scanOne) (rc := 0) (rs := 0) (mc := 0) (ms := 0) (st := []) [] dX6_scan_31 mv_X6_scanOne lk_X6_35 ⟨Nat.le_of_ble_eq_true rfl, Nat.le_of_ble_eq_true rfl⟩ rfl rfl (Nat.le_of_ble_eq_true rfl) t4 ?_
        exact h
theorem s_X6_scan_34 {g : GT} {S : ST} {P : PT} {I : IT} {Q : QT} {r0 : Nat} {x1 : Int32} {x2 : Int32} {w_s0 : Int32} (h : sT S r0 = 7 ∧ ∃ b2, P r0 1 = b2 + 1 ∧ sT S b2 = 40 ∧ ∃ j5, ix x2 j5 (sL S b2) ∧ ∃ b7, P r0 2 = b7 + 1 ∧ sT S b7 = 40 ∧ ∃ j10, ix x2 j10 (sL S b7) ∧ ∃ b12, P r0 3 = b12 + 1 ∧ sT S b12 = 40 ∧ ∃ j15, ix x2 j15 (sL S b12) ∧ B g MX6_scan 0 0 9 [(0, .ref r0), (1, .int w_s0), (2, .int (x2 + 1))] [] S P (u2 (u2 (u2 I b2 j5 w_s0) b7 j10 ((u2 I b2 j5 w_s0) r0 6)) b12 j15 ((u2 (u2 I b2 j5 w_s0) b7 j10 ((u2 I b2 j5 w_s0) r0 6)) r0 4)) Q) : B g MX6_scan 0 0 34 [(0, .ref r0), (1, .int x1), (2, .int x2)] [.int w_s0] S P I Q := by
  refine B.istore_n (lv' := [(0, .ref r0), (1, .int w_s0), (2, .int x2)]) dX6_scan_34 rfl (by decide) rfl ?_
  refine B.aload_n 0 dX6_scan_35 rfl rfl ?_
  obtain ⟨t1, h⟩ := h
  obtain ⟨b2, h⟩ := h
  obtain ⟨t3, h⟩ := h
  refine B.getP dX6_scan_36 fl_6_9 t1 t3 ?_
  refine B.iload_n 2 dX6_scan_39 rfl rfl ?_
  refine B.iload_n 1 dX6_scan_40 rfl rfl ?_
  obtain ⟨t4, h⟩ := h
  obtain ⟨j5, h⟩ := h
  obtain ⟨t6, h⟩ := h
  refine B.iastore dX6_scan_41 t4 t6 ?_
  refine B.aload_n 0 dX6_scan_42 rfl rfl ?_
  obtain ⟨b7, h⟩ := h
  obtain ⟨t8, h⟩ := h
  refine B.getP dX6_scan_43 fl_6_15 t1 t8 ?_
  refine B.iload_n 2 dX6_scan_46 rfl rfl ?_
  refine B.aload_n 0 dX6_scan_47 rfl rfl ?_
  refine B.getI dX6_scan_48 fl_6_28 t1 ?_
  obtain ⟨t9, h⟩ := h
  obtain ⟨j10, h⟩ := h
  obtain ⟨t11, h⟩ := h
  refine B.iastore dX6_scan_51 t9 t11 ?_
  refine B.aload_n 0 dX6_scan_52 rfl rfl ?_
  obtain ⟨b12, h⟩ := h
  obtain ⟨t13, h⟩ := h
  refine B.getP dX6_scan_53 fl_6_18 t1 t13 ?_
  refine B.iload_n 2 dX6_scan_56 rfl rfl ?_
  refine B.aload_n 0 dX6_scan_57 rfl rfl ?_
  refine B.getI dX6_scan_58 fl_6_21 t1 ?_
  obtain ⟨t14, h⟩ := h
  obtain ⟨j15, h⟩ := h
  obtain ⟨t16, h⟩ := h
  refine B.iastore dX6_scan_61 t14 t16 ?_
  refine B.iinc (lv' := [(0, .ref r0), (1, .int w_s0), (2, .int (x2 + 1))]) 2 (x2 + 1) dX6_scan_62 rfl rfl (by decide) rfl ?_
  refine B.goto_ 9 dX6_scan_65 (by decide) ?_
  exact h
theorem s_X6_scanOne_0 {g : GT} {S : ST} {P : PT} {I : IT} {Q : QT} {r0 : Nat} (h : sT S r0 = 7 ∧ ∃ b2, P r0 0 = b2 + 1 ∧ sT S b2 = 6 ∧ (((I b2 1) ≤ (I r0 5) → B g MX6_scanOne 0 0 45 [(0, .ref r0)] [] S P I Q) ∧ (¬ (I b2 1) ≤ (I r0 5) → ∃ b6, P b2 0 = b6 + 1 ∧ sT S b6 = 41 ∧ ∃ j9, ix (I r0 5) j9 (sL S b6) ∧ (((isBk (I b6 j9)) = 0 → B g MX6_scanOne 0 0 45 [(0, .ref r0)] [] S P I Q) ∧ (¬ (isBk (I b6 j9)) = 0 → B g MX6_scanOne 0 0 0 [(0, .ref r0)] [] S P (u2 I r0 5 ((I r0 5) + 1)) Q))))) : B g MX6_scanOne 0 0 0 [(0, .ref r0)] [] S P I Q := by
  refine B.aload_n 0 dX6_scanOne_0 rfl rfl ?_
  obtain ⟨t1, h⟩ := h
  refine B.getI dX6_scanOne_1 fl_6_25 t1 ?_
  refine B.aload_n 0 dX6_scanOne_4 rfl rfl ?_
  obtain ⟨b2, h⟩ := h
  obtain ⟨t3, h⟩ := h
  refine B.getP dX6_scanOne_5 fl_6_31 t1 t3 ?_
  obtain ⟨t4, h⟩ := h
  refine B.getI dX6_scanOne_8 fl_6_39 t4 ?_
  refine B.icmp_ge 45 dX6_scanOne_11 (by decide) (fun q5 => ?_) (fun q5 => ?_)
  · replace h := h.1 q5
    exact h
  · replace h := h.2 q5
    refine B.aload_n 0 dX6_scanOne_14 rfl rfl ?_
    refine B.getP dX6_scanOne_15 fl_6_31 t1 t3 ?_
    obtain ⟨b6, h⟩ := h
    obtain ⟨t7, h⟩ := h
    refine B.getP dX6_scanOne_18 fl_6_44 t4 t7 ?_
    refine B.aload_n 0 dX6_scanOne_21 rfl rfl ?_
    refine B.getI dX6_scanOne_22 fl_6_25 t1 ?_
    obtain ⟨t8, h⟩ := h
    obtain ⟨j9, h⟩ := h
    obtain ⟨t10, h⟩ := h
    refine B.baload dX6_scanOne_25 t8 t10 ?_
    refine B.callS (M' := MX6_isBlank) (rc := 0) (rs := 0) (mc := 0) (ms := 0) (st := []) [.int (I b6 j9)] dX6_scanOne_26 ms_X6_isBlank lk_X6_48 ⟨Nat.le_of_ble_eq_true rfl, Nat.le_of_ble_eq_true rfl⟩ rfl rfl (Nat.le_of_ble_eq_true rfl) (t_isBlank ?_)
    show B g MX6_scanOne 0 0 29 [(0, .ref r0)] [.int (isBk (I b6 j9))] S P I _
    refine B.if_eq 45 dX6_scanOne_29 (by decide) (fun q11 => ?_) (fun q11 => ?_)
    · replace h := h.1 q11
      exact h
    · replace h := h.2 q11
      refine B.aload_n 0 dX6_scanOne_32 rfl rfl ?_
      refine B.dup dX6_scanOne_33 rfl ?_
      refine B.getI dX6_scanOne_34 fl_6_25 t1 ?_
      refine B.iconst 1 dX6_scanOne_37 (by decide) ?_
      refine B.iadd dX6_scanOne_38 ?_
      refine B.putI dX6_scanOne_39 fw_6_25 t1 ?_
      refine B.goto_ 0 dX6_scanOne_42 (by decide) ?_
      exact h
theorem s_X6_scanOne_45 {g : GT} {S : ST} {P : PT} {I : IT} {Q : QT} {r0 : Nat} (h : sT S r0 = 7 ∧ ∃ b2, P r0 0 = b2 + 1 ∧ sT S b2 = 6 ∧ (((I r0 5) < (I b2 1) → ∃ b6, P b2 0 = b6 + 1 ∧ sT S b6 = 41 ∧ ∃ j9, ix (I r0 5) j9 (sL S b6) ∧ (((isLt ((u2 I r0 4 (I r0 5)) b6 j9)) = 0 → (((isDg ((u2 I r0 4 (I r0 5)) b6 j9)) = 0 → T g MX6_scanSign 0 0 [.ref r0] S P (u2 I r0 4 (I r0 5)) (fun r S' P' I' => B g MX6_scanOne 0 0 121 [(0, .ref r0)] (r.toList ++ []) S' P' I' Q)) ∧ (¬ (isDg ((u2 I r0 4 (I r0 5)) b6 j9)) = 0 → T g MX6_scanNumber 0 0 [.ref r0] S P (u2 I r0 4 (I r0 5)) (fun r S' P' I' => B g MX6_scanOne 0 0 114 [(0, .ref r0)] (r.toList ++ []) S' P' I' Q)))) ∧ (¬ (isLt ((u2 I r0 4 (I r0 5)) b6 j9)) = 0 → T g MX6_scanWord 0 0 [.ref r0] S P (u2 I r0 4 (I r0 5)) (fun r S' P' I' => B g MX6_scanOne 0 0 91 [(0, .ref r0)] (r.toList ++ []) S' P' I' Q)))) ∧ (¬ (I r0 5) < (I b2 1) → Q (some (.int 0)) S P (u2 I r0 4 (I r0 5))))) : B g MX6_scanOne 0 0 45 [(0, .ref r0)] [] S P I Q := by
  refine B.aload_n 0 dX6_scanOne_45 rfl rfl ?_
  refine B.aload_n 0 dX6_scanOne_46 rfl rfl ?_
  obtain ⟨t1, h⟩ := h
  refine B.getI dX6_scanOne_47 fl_6_25 t1 ?_
  refine B.putI dX6_scanOne_50 fw_6_21 t1 ?_
  refine B.aload_n 0 dX6_scanOne_53 rfl rfl ?_
  refine B.getI dX6_scanOne_54 fl_6_25 t1 ?_
  rw [u2_k (I := I) (a := r0) (k := 4) (b := r0) (j := 5) (x := (I r0 5)) (by decide)]
  refine B.aload_n 0 dX6_scanOne_57 rfl rfl ?_
  obtain ⟨b2, h⟩ := h
  obtain ⟨t3, h⟩ := h
  refine B.getP dX6_scanOne_58 fl_6_31 t1 t3 ?_
  obtain ⟨t4, h⟩ := h
  refine B.getI dX6_scanOne_61 fl_6_39 t4 ?_
  rw [u2_k (I := I) (a := r0) (k := 4) (b := b2) (j := 1) (x := (I r0 5)) (by decide)]
  refine B.icmp_lt 69 dX6_scanOne_64 (by decide) (fun q5 => ?_) (fun q5 => ?_)
  · replace h := h.1 q5
    refine B.aload_n 0 dX6_scanOne_69 rfl rfl ?_
    refine B.getP dX6_scanOne_70 fl_6_31 t1 t3 ?_
    obtain ⟨b6, h⟩ := h
    obtain ⟨t7, h⟩ := h
    refine B.getP dX6_scanOne_73 fl_6_44 t4 t7 ?_
    refine B.aload_n 0 dX6_scanOne_76 rfl rfl ?_
    refine B.getI dX6_scanOne_77 fl_6_25 t1 ?_
    rw [u2_k (I := I) (a := r0) (k := 4) (b := r0) (j := 5) (x := (I r0 5)) (by decide)]
    obtain ⟨t8, h⟩ := h
    obtain ⟨j9, h⟩ := h
    obtain ⟨t10, h⟩ := h
    refine B.baload dX6_scanOne_80 t8 t10 ?_
    refine B.callS (M' := MX6_isLetter) (rc := 0) (rs := 0) (mc := 0) (ms := 0) (st := []) [.int ((u2 I r0 4 (I r0 5)) b6 j9)] dX6_scanOne_81 ms_X6_isLetter lk_X6_52 ⟨Nat.le_of_ble_eq_true rfl, Nat.le_of_ble_eq_true rfl⟩ rfl rfl (Nat.le_of_ble_eq_true rfl) (t_isLetter6 ?_)
    show B g MX6_scanOne 0 0 84 [(0, .ref r0)] [.int (isLt ((u2 I r0 4 (I r0 5)) b6 j9))] S P (u2 I r0 4 (I r0 5)) _
    refine B.if_eq 92 dX6_scanOne_84 (by decide) (fun q11 => ?_) (fun q11 => ?_)
    · replace h := h.1 q11
      refine B.aload_n 0 dX6_scanOne_92 rfl rfl ?_
      refine B.getP dX6_scanOne_93 fl_6_31 t1 t3 ?_
      refine B.getP dX6_scanOne_96 fl_6_44 t4 t7 ?_
      refine B.aload_n 0 dX6_scanOne_99 rfl rfl ?_
      refine B.getI dX6_scanOne_100 fl_6_25 t1 ?_
      rw [u2_k (I := I) (a := r0) (k := 4) (b := r0) (j := 5) (x := (I r0 5)) (by decide)]
      refine B.baload dX6_scanOne_103 t8 t10 ?_
      refine B.callS (M' := MX6_isDigit) (rc := 0) (rs := 0) (mc := 0) (ms := 0) (st := []) [.int ((u2 I r0 4 (I r0 5)) b6 j9)] dX6_scanOne_104 ms_X6_isDigit lk_X6_58 ⟨Nat.le_of_ble_eq_true rfl, Nat.le_of_ble_eq_true rfl⟩ rfl rfl (Nat.le_of_ble_eq_true rfl) (t_isDigit6 ?_)
      show B g MX6_scanOne 0 0 107 [(0, .ref r0)] [.int (isDg ((u2 I r0 4 (I r0 5)) b6 j9))] S P (u2 I r0 4 (I r0 5)) _
      refine B.if_eq 117 dX6_scanOne_107 (by decide) (fun q12 => ?_) (fun q12 => ?_)
      · replace h := h.1 q12
        refine B.aload_n 0 dX6_scanOne_117 rfl rfl ?_
        refine B.callV (M' := MX6_scanSign) (rc := 0) (rs := 0) (mc := 0) (ms := 0) (st := []) [] dX6_scanOne_118 mv_X6_scanSign lk_X6_64 ⟨Nat.le_of_ble_eq_true rfl, Nat.le_of_ble_eq_true rfl⟩ rfl rfl (Nat.le_of_ble_eq_true rfl) t1 ?_
        exact h
      · replace h := h.2 q12
        refine B.aload_n 0 dX6_scanOne_110 rfl rfl ?_
        refine B.callV (M' := MX6_scanNumber) (rc := 0) (rs := 0) (mc := 0) (ms := 0) (st := []) [] dX6_scanOne_111 mv_X6_scanNumber lk_X6_61 ⟨Nat.le_of_ble_eq_true rfl, Nat.le_of_ble_eq_true rfl⟩ rfl rfl (Nat.le_of_ble_eq_true rfl) t1 ?_
        exact h
    · replace h := h.2 q11
      refine B.aload_n 0 dX6_scanOne_87 rfl rfl ?_
      refine B.callV (M' := MX6_scanWord) (rc := 0) (rs := 0) (mc := 0) (ms := 0) (st := []) [] dX6_scanOne_88 mv_X6_scanWord lk_X6_55 ⟨Nat.le_of_ble_eq_true rfl, Nat.le_of_ble_eq_true rfl⟩ rfl rfl (Nat.le_of_ble_eq_true rfl) t1 ?_
      exact h
  · replace h := h.2 q5
    refine B.iconst 0 dX6_scanOne_67 (by decide) ?_
    refine B.ireturn dX6_scanOne_68 rfl rfl ?_
    exact h
theorem s_X6_scanOne_91 {g : GT} {S : ST} {P : PT} {I : IT} {Q : QT} {r0 : Nat} {w_s0 : Int32} (h : Q (some (.int w_s0)) S P I) : B g MX6_scanOne 0 0 91 [(0, .ref r0)] [.int w_s0] S P I Q := by
  refine B.ireturn dX6_scanOne_91 rfl rfl ?_
  exact h
theorem s_X6_scanOne_114 {g : GT} {S : ST} {P : PT} {I : IT} {Q : QT} {r0 : Nat} {w_s0 : Int32} (h : B g MX6_scanOne 0 0 121 [(0, .ref r0)] [.int w_s0] S P I Q) : B g MX6_scanOne 0 0 114 [(0, .ref r0)] [.int w_s0] S P I Q := by
  refine B.goto_ 121 dX6_scanOne_114 (by decide) ?_
  exact h
theorem s_X6_scanOne_121 {g : GT} {S : ST} {P : PT} {I : IT} {Q : QT} {r0 : Nat} {w_s0 : Int32} (h : Q (some (.int w_s0)) S P I) : B g MX6_scanOne 0 0 121 [(0, .ref r0)] [.int w_s0] S P I Q := by
  refine B.ireturn dX6_scanOne_121 rfl rfl ?_
  exact h
theorem s_X6_scanWord_0 {g : GT} {S : ST} {P : PT} {I : IT} {Q : QT} {r0 : Nat} (h : sT S r0 = 7 ∧ ∃ b2, P r0 0 = b2 + 1 ∧ sT S b2 = 6 ∧ (((I b2 1) ≤ (I r0 5) → T g MX6_wordIs 0 0 [.ref r0, .ref (gK g 0)] S P I (fun r S' P' I' => B g MX6_scanWord 0 0 51 [(0, .ref r0)] (r.toList ++ []) S' P' I' Q)) ∧ (¬ (I b2 1) ≤ (I r0 5) → ∃ b6, P b2 0 = b6 + 1 ∧ sT S b6 = 41 ∧ ∃ j9, ix (I r0 5) j9 (sL S b6) ∧ (((isLt (I b6 j9)) = 0 → T g MX6_wordIs 0 0 [.ref r0, .ref (gK g 0)] S P I (fun r S' P' I' => B g MX6_scanWord 0 0 51 [(0, .ref r0)] (r.toList ++ []) S' P' I' Q)) ∧ (¬ (isLt (I b6 j9)) = 0 → B g MX6_scanWord 0 0 0 [(0, .ref r0)] [] S P (u2 I r0 5 ((I r0 5) + 1)) Q))))) : B g MX6_scanWord 0 0 0 [(0, .ref r0)] [] S P I Q := by
  refine B.aload_n 0 dX6_scanWord_0 rfl rfl ?_
  obtain ⟨t1, h⟩ := h
  refine B.getI dX6_scanWord_1 fl_6_25 t1 ?_
  refine B.aload_n 0 dX6_scanWord_4 rfl rfl ?_
  obtain ⟨b2, h⟩ := h
  obtain ⟨t3, h⟩ := h
  refine B.getP dX6_scanWord_5 fl_6_31 t1 t3 ?_
  obtain ⟨t4, h⟩ := h
  refine B.getI dX6_scanWord_8 fl_6_39 t4 ?_
  refine B.icmp_ge 45 dX6_scanWord_11 (by decide) (fun q5 => ?_) (fun q5 => ?_)
  · replace h := h.1 q5
    refine B.aload_n 0 dX6_scanWord_45 rfl rfl ?_
    refine B.ldcS 0 dX6_scanWord_46 (by decide) ⟨rfl, rfl⟩ ?_
    refine B.callV (M' := MX6_wordIs) (rc := 0) (rs := 0) (mc := 0) (ms := 0) (st := []) [.ref (gK g 0)] dX6_scanWord_48 mv_X6_wordIs lk_X6_69 ⟨Nat.le_of_ble_eq_true rfl, Nat.le_of_ble_eq_true rfl⟩ rfl rfl (Nat.le_of_ble_eq_true rfl) t1 ?_
    exact h
  · replace h := h.2 q5
    refine B.aload_n 0 dX6_scanWord_14 rfl rfl ?_
    refine B.getP dX6_scanWord_15 fl_6_31 t1 t3 ?_
    obtain ⟨b6, h⟩ := h
    obtain ⟨t7, h⟩ := h
    refine B.getP dX6_scanWord_18 fl_6_44 t4 t7 ?_
    refine B.aload_n 0 dX6_scanWord_21 rfl rfl ?_
    refine B.getI dX6_scanWord_22 fl_6_25 t1 ?_
    obtain ⟨t8, h⟩ := h
    obtain ⟨j9, h⟩ := h
    obtain ⟨t10, h⟩ := h
    refine B.baload dX6_scanWord_25 t8 t10 ?_
    refine B.callS (M' := MX6_isLetter) (rc := 0) (rs := 0) (mc := 0) (ms := 0) (st := []) [.int (I b6 j9)] dX6_scanWord_26 ms_X6_isLetter lk_X6_52 ⟨Nat.le_of_ble_eq_true rfl, Nat.le_of_ble_eq_true rfl⟩ rfl rfl (Nat.le_of_ble_eq_true rfl) (t_isLetter6 ?_)
    show B g MX6_scanWord 0 0 29 [(0, .ref r0)] [.int (isLt (I b6 j9))] S P I _
    refine B.if_eq 45 dX6_scanWord_29 (by decide) (fun q11 => ?_) (fun q11 => ?_)
    · replace h := h.1 q11
      refine B.aload_n 0 dX6_scanWord_45 rfl rfl ?_
      refine B.ldcS 0 dX6_scanWord_46 (by decide) ⟨rfl, rfl⟩ ?_
      refine B.callV (M' := MX6_wordIs) (rc := 0) (rs := 0) (mc := 0) (ms := 0) (st := []) [.ref (gK g 0)] dX6_scanWord_48 mv_X6_wordIs lk_X6_69 ⟨Nat.le_of_ble_eq_true rfl, Nat.le_of_ble_eq_true rfl⟩ rfl rfl (Nat.le_of_ble_eq_true rfl) t1 ?_
      exact h
    · replace h := h.2 q11
      refine B.aload_n 0 dX6_scanWord_32 rfl rfl ?_
      refine B.dup dX6_scanWord_33 rfl ?_
      refine B.getI dX6_scanWord_34 fl_6_25 t1 ?_
      refine B.iconst 1 dX6_scanWord_37 (by decide) ?_
      refine B.iadd dX6_scanWord_38 ?_
      refine B.putI dX6_scanWord_39 fw_6_25 t1 ?_
      refine B.goto_ 0 dX6_scanWord_42 (by decide) ?_
      exact h
theorem s_X6_scanWord_51 {g : GT} {S : ST} {P : PT} {I : IT} {Q : QT} {r0 : Nat} {w_s0 : Int32} (h : ((w_s0 = 0 → sT S r0 = 7 ∧ T g MX6_wordIs 0 0 [.ref r0, .ref (gK g 1)] S P I (fun r S' P' I' => B g MX6_scanWord 0 0 63 [(0, .ref r0)] (r.toList ++ []) S' P' I' Q)) ∧ (¬ w_s0 = 0 → Q (some (.int 7)) S P I))) : B g MX6_scanWord 0 0 51 [(0, .ref r0)] [.int w_s0] S P I Q := by
  refine B.if_eq 57 dX6_scanWord_51 (by decide) (fun q1 => ?_) (fun q1 => ?_)
  · replace h := h.1 q1
    refine B.aload_n 0 dX6_scanWord_57 rfl rfl ?_
    refine B.ldcS 1 dX6_scanWord_58 (by decide) ⟨rfl, rfl⟩ ?_
    obtain ⟨t2, h⟩ := h
    refine B.callV (M' := MX6_wordIs) (rc := 0) (rs := 0) (mc := 0) (ms := 0) (st := []) [.ref (gK g 1)] dX6_scanWord_60 mv_X6_wordIs lk_X6_69 ⟨Nat.le_of_ble_eq_true rfl, Nat.le_of_ble_eq_true rfl⟩ rfl rfl (Nat.le_of_ble_eq_true rfl) t2 ?_
    exact h
  · replace h := h.2 q1
    refine B.bipush 7 dX6_scanWord_54 (by decide) ?_
    refine B.ireturn dX6_scanWord_56 rfl rfl ?_
    exact h
theorem s_X6_scanWord_63 {g : GT} {S : ST} {P : PT} {I : IT} {Q : QT} {r0 : Nat} {w_s0 : Int32} (h : ((w_s0 = 0 → sT S r0 = 7 ∧ T g MX6_wordIs 0 0 [.ref r0, .ref (gK g 2)] S P I (fun r S' P' I' => B g MX6_scanWord 0 0 75 [(0, .ref r0)] (r.toList ++ []) S' P' I' Q)) ∧ (¬ w_s0 = 0 → Q (some (.int 8)) S P I))) : B g MX6_scanWord 0 0 63 [(0, .ref r0)] [.int w_s0] S P I Q := by
  refine B.if_eq 69 dX6_scanWord_63 (by decide) (fun q1 => ?_) (fun q1 => ?_)
  · replace h := h.1 q1
    refine B.aload_n 0 dX6_scanWord_69 rfl rfl ?_
    refine B.ldcS 2 dX6_scanWord_70 (by decide) ⟨rfl, rfl⟩ ?_
    obtain ⟨t2, h⟩ := h
    refine B.callV (M' := MX6_wordIs) (rc := 0) (rs := 0) (mc := 0) (ms := 0) (st := []) [.ref (gK g 2)] dX6_scanWord_72 mv_X6_wordIs lk_X6_69 ⟨Nat.le_of_ble_eq_true rfl, Nat.le_of_ble_eq_true rfl⟩ rfl rfl (Nat.le_of_ble_eq_true rfl) t2 ?_
    exact h
  · replace h := h.2 q1
    refine B.bipush 8 dX6_scanWord_66 (by decide) ?_
    refine B.ireturn dX6_scanWord_68 rfl rfl ?_
    exact h
theorem s_X6_scanWord_75 {g : GT} {S : ST} {P : PT} {I : IT} {Q : QT} {r0 : Nat} {w_s0 : Int32} (h : ((w_s0 = 0 → sT S r0 = 7 ∧ T g MX6_wordIs 0 0 [.ref r0, .ref (gK g 3)] S P I (fun r S' P' I' => B g MX6_scanWord 0 0 87 [(0, .ref r0)] (r.toList ++ []) S' P' I' Q)) ∧ (¬ w_s0 = 0 → Q (some (.int 9)) S P I))) : B g MX6_scanWord 0 0 75 [(0, .ref r0)] [.int w_s0] S P I Q := by
  refine B.if_eq 81 dX6_scanWord_75 (by decide) (fun q1 => ?_) (fun q1 => ?_)
  · replace h := h.1 q1
    refine B.aload_n 0 dX6_scanWord_81 rfl rfl ?_
    refine B.ldcS 3 dX6_scanWord_82 (by decide) ⟨rfl, rfl⟩ ?_
    obtain ⟨t2, h⟩ := h
    refine B.callV (M' := MX6_wordIs) (rc := 0) (rs := 0) (mc := 0) (ms := 0) (st := []) [.ref (gK g 3)] dX6_scanWord_84 mv_X6_wordIs lk_X6_69 ⟨Nat.le_of_ble_eq_true rfl, Nat.le_of_ble_eq_true rfl⟩ rfl rfl (Nat.le_of_ble_eq_true rfl) t2 ?_
    exact h
  · replace h := h.2 q1
    refine B.bipush 9 dX6_scanWord_78 (by decide) ?_
    refine B.ireturn dX6_scanWord_80 rfl rfl ?_
    exact h
theorem s_X6_scanWord_87 {g : GT} {S : ST} {P : PT} {I : IT} {Q : QT} {r0 : Nat} {w_s0 : Int32} (h : ((w_s0 = 0 → sT S r0 = 7 ∧ T g MX6_wordIs 0 0 [.ref r0, .ref (gK g 4)] S P I (fun r S' P' I' => B g MX6_scanWord 0 0 99 [(0, .ref r0)] (r.toList ++ []) S' P' I' Q)) ∧ (¬ w_s0 = 0 → Q (some (.int 10)) S P I))) : B g MX6_scanWord 0 0 87 [(0, .ref r0)] [.int w_s0] S P I Q := by
  refine B.if_eq 93 dX6_scanWord_87 (by decide) (fun q1 => ?_) (fun q1 => ?_)
  · replace h := h.1 q1
    refine B.aload_n 0 dX6_scanWord_93 rfl rfl ?_
    refine B.ldcS 4 dX6_scanWord_94 (by decide) ⟨rfl, rfl⟩ ?_
    obtain ⟨t2, h⟩ := h
    refine B.callV (M' := MX6_wordIs) (rc := 0) (rs := 0) (mc := 0) (ms := 0) (st := []) [.ref (gK g 4)] dX6_scanWord_96 mv_X6_wordIs lk_X6_69 ⟨Nat.le_of_ble_eq_true rfl, Nat.le_of_ble_eq_true rfl⟩ rfl rfl (Nat.le_of_ble_eq_true rfl) t2 ?_
    exact h
  · replace h := h.2 q1
    refine B.bipush 10 dX6_scanWord_90 (by decide) ?_
    refine B.ireturn dX6_scanWord_92 rfl rfl ?_
    exact h
theorem s_X6_scanWord_99 {g : GT} {S : ST} {P : PT} {I : IT} {Q : QT} {r0 : Nat} {w_s0 : Int32} (h : ((w_s0 = 0 → sT S r0 = 7 ∧ T g MX6_subjectOfWord 0 0 [.ref r0] S P I (fun r S' P' I' => B g MX6_scanWord 0 0 110 [(0, .ref r0)] (r.toList ++ [.ref r0]) S' P' I' Q)) ∧ (¬ w_s0 = 0 → Q (some (.int 11)) S P I))) : B g MX6_scanWord 0 0 99 [(0, .ref r0)] [.int w_s0] S P I Q := by
  refine B.if_eq 105 dX6_scanWord_99 (by decide) (fun q1 => ?_) (fun q1 => ?_)
  · replace h := h.1 q1
    refine B.aload_n 0 dX6_scanWord_105 rfl rfl ?_
    refine B.aload_n 0 dX6_scanWord_106 rfl rfl ?_
    obtain ⟨t2, h⟩ := h
    refine B.callV (M' := MX6_subjectOfWord) (rc := 0) (rs := 0) (mc := 0) (ms := 0) (st := [.ref r0]) [] dX6_scanWord_107 mv_X6_subjectOfWord lk_X6_81 ⟨Nat.le_of_ble_eq_true rfl, Nat.le_of_ble_eq_true rfl⟩ rfl rfl (Nat.le_of_ble_eq_true rfl) t2 ?_
    exact h
  · replace h := h.2 q1
    refine B.bipush 11 dX6_scanWord_102 (by decide) ?_
    refine B.ireturn dX6_scanWord_104 rfl rfl ?_
    exact h
theorem s_X6_scanWord_110 {g : GT} {S : ST} {P : PT} {I : IT} {Q : QT} {r0 : Nat} {w_s0 : Int32} {a_s1 : Nat} (h : sT S a_s1 = 7 ∧ sT S r0 = 7 ∧ ((¬ ((u2 I a_s1 6 w_s0) r0 6) = (-1) → Q (some (.int 3)) S P (u2 I a_s1 6 w_s0)) ∧ (((u2 I a_s1 6 w_s0) r0 6) = (-1) → Q (some (.int 1)) S P (u2 I a_s1 6 w_s0)))) : B g MX6_scanWord 0 0 110 [(0, .ref r0)] [.int w_s0, .ref a_s1] S P I Q := by
  obtain ⟨t1, h⟩ := h
  refine B.putI dX6_scanWord_110 fw_6_28 t1 ?_
  refine B.aload_n 0 dX6_scanWord_113 rfl rfl ?_
  obtain ⟨t2, h⟩ := h
  refine B.getI dX6_scanWord_114 fl_6_28 t2 ?_
  refine B.iconst (-1) dX6_scanWord_117 (by decide) ?_
  refine B.icmp_ne 125 dX6_scanWord_118 (by decide) (fun q3 => ?_) (fun q3 => ?_)
  · replace h := h.1 q3
    refine B.iconst 3 dX6_scanWord_125 (by decide) ?_
    refine B.ireturn dX6_scanWord_126 rfl rfl ?_
    exact h
  · replace h := h.2 q3
    refine B.iconst 1 dX6_scanWord_121 (by decide) ?_
    refine B.goto_ 126 dX6_scanWord_122 (by decide) ?_
    refine B.ireturn dX6_scanWord_126 rfl rfl ?_
    exact h
theorem s_X6_subjectOfWord_0 {g : GT} {S : ST} {P : PT} {I : IT} {Q : QT} {r0 : Nat} (h : sT S r0 = 7 ∧ T g MX6_wordIs 0 0 [.ref r0, .ref (gK g 5)] S P I (fun r S' P' I' => B g MX6_subjectOfWord 0 0 6 [(0, .ref r0)] (r.toList ++ []) S' P' I' Q)) : B g MX6_subjectOfWord 0 0 0 [(0, .ref r0)] [] S P I Q := by
  refine B.aload_n 0 dX6_subjectOfWord_0 rfl rfl ?_
  refine B.ldcS 5 dX6_subjectOfWord_1 (by decide) ⟨rfl, rfl⟩ ?_
  obtain ⟨t1, h⟩ := h
  refine B.callV (M' := MX6_wordIs) (rc := 0) (rs := 0) (mc := 0) (ms := 0) (st := []) [.ref (gK g 5)] dX6_subjectOfWord_3 mv_X6_wordIs lk_X6_69 ⟨Nat.le_of_ble_eq_true rfl, Nat.le_of_ble_eq_true rfl⟩ rfl rfl (Nat.le_of_ble_eq_true rfl) t1 ?_
  exact h
theorem s_X6_subjectOfWord_6 {g : GT} {S : ST} {P : PT} {I : IT} {Q : QT} {r0 : Nat} {w_s0 : Int32} (h : ((w_s0 = 0 → sT S r0 = 7 ∧ T g MX6_wordIs 0 0 [.ref r0, .ref (gK g 6)] S P I (fun r S' P' I' => B g MX6_subjectOfWord 0 0 17 [(0, .ref r0)] (r.toList ++ []) S' P' I' Q)) ∧ (¬ w_s0 = 0 → Q (some (.int 0)) S P I))) : B g MX6_subjectOfWord 0 0 6 [(0, .ref r0)] [.int w_s0] S P I Q := by
  refine B.if_eq 11 dX6_subjectOfWord_6 (by decide) (fun q1 => ?_) (fun q1 => ?_)
  · replace h := h.1 q1
    refine B.aload_n 0 dX6_subjectOfWord_11 rfl rfl ?_
    refine B.ldcS 6 dX6_subjectOfWord_12 (by decide) ⟨rfl, rfl⟩ ?_
    obtain ⟨t2, h⟩ := h
    refine B.callV (M' := MX6_wordIs) (rc := 0) (rs := 0) (mc := 0) (ms := 0) (st := []) [.ref (gK g 6)] dX6_subjectOfWord_14 mv_X6_wordIs lk_X6_69 ⟨Nat.le_of_ble_eq_true rfl, Nat.le_of_ble_eq_true rfl⟩ rfl rfl (Nat.le_of_ble_eq_true rfl) t2 ?_
    exact h
  · replace h := h.2 q1
    refine B.iconst 0 dX6_subjectOfWord_9 (by decide) ?_
    refine B.ireturn dX6_subjectOfWord_10 rfl rfl ?_
    exact h
theorem s_X6_subjectOfWord_17 {g : GT} {S : ST} {P : PT} {I : IT} {Q : QT} {r0 : Nat} {w_s0 : Int32} (h : ((w_s0 = 0 → sT S r0 = 7 ∧ T g MX6_wordIs 0 0 [.ref r0, .ref (gK g 7)] S P I (fun r S' P' I' => B g MX6_subjectOfWord 0 0 28 [(0, .ref r0)] (r.toList ++ []) S' P' I' Q)) ∧ (¬ w_s0 = 0 → Q (some (.int 1)) S P I))) : B g MX6_subjectOfWord 0 0 17 [(0, .ref r0)] [.int w_s0] S P I Q := by
  refine B.if_eq 22 dX6_subjectOfWord_17 (by decide) (fun q1 => ?_) (fun q1 => ?_)
  · replace h := h.1 q1
    refine B.aload_n 0 dX6_subjectOfWord_22 rfl rfl ?_
    refine B.ldcS 7 dX6_subjectOfWord_23 (by decide) ⟨rfl, rfl⟩ ?_
    obtain ⟨t2, h⟩ := h
    refine B.callV (M' := MX6_wordIs) (rc := 0) (rs := 0) (mc := 0) (ms := 0) (st := []) [.ref (gK g 7)] dX6_subjectOfWord_25 mv_X6_wordIs lk_X6_69 ⟨Nat.le_of_ble_eq_true rfl, Nat.le_of_ble_eq_true rfl⟩ rfl rfl (Nat.le_of_ble_eq_true rfl) t2 ?_
    exact h
  · replace h := h.2 q1
    refine B.iconst 1 dX6_subjectOfWord_20 (by decide) ?_
    refine B.ireturn dX6_subjectOfWord_21 rfl rfl ?_
    exact h
theorem s_X6_subjectOfWord_28 {g : GT} {S : ST} {P : PT} {I : IT} {Q : QT} {r0 : Nat} {w_s0 : Int32} (h : ((w_s0 = 0 → sT S r0 = 7 ∧ T g MX6_wordIs 0 0 [.ref r0, .ref (gK g 8)] S P I (fun r S' P' I' => B g MX6_subjectOfWord 0 0 39 [(0, .ref r0)] (r.toList ++ []) S' P' I' Q)) ∧ (¬ w_s0 = 0 → Q (some (.int 2)) S P I))) : B g MX6_subjectOfWord 0 0 28 [(0, .ref r0)] [.int w_s0] S P I Q := by
  refine B.if_eq 33 dX6_subjectOfWord_28 (by decide) (fun q1 => ?_) (fun q1 => ?_)
  · replace h := h.1 q1
    refine B.aload_n 0 dX6_subjectOfWord_33 rfl rfl ?_
    refine B.ldcS 8 dX6_subjectOfWord_34 (by decide) ⟨rfl, rfl⟩ ?_
    obtain ⟨t2, h⟩ := h
    refine B.callV (M' := MX6_wordIs) (rc := 0) (rs := 0) (mc := 0) (ms := 0) (st := []) [.ref (gK g 8)] dX6_subjectOfWord_36 mv_X6_wordIs lk_X6_69 ⟨Nat.le_of_ble_eq_true rfl, Nat.le_of_ble_eq_true rfl⟩ rfl rfl (Nat.le_of_ble_eq_true rfl) t2 ?_
    exact h
  · replace h := h.2 q1
    refine B.iconst 2 dX6_subjectOfWord_31 (by decide) ?_
    refine B.ireturn dX6_subjectOfWord_32 rfl rfl ?_
    exact h
theorem s_X6_subjectOfWord_39 {g : GT} {S : ST} {P : PT} {I : IT} {Q : QT} {r0 : Nat} {w_s0 : Int32} (h : ((w_s0 = 0 → sT S r0 = 7 ∧ T g MX6_wordIs 0 0 [.ref r0, .ref (gK g 9)] S P I (fun r S' P' I' => B g MX6_subjectOfWord 0 0 50 [(0, .ref r0)] (r.toList ++ []) S' P' I' Q)) ∧ (¬ w_s0 = 0 → Q (some (.int 3)) S P I))) : B g MX6_subjectOfWord 0 0 39 [(0, .ref r0)] [.int w_s0] S P I Q := by
  refine B.if_eq 44 dX6_subjectOfWord_39 (by decide) (fun q1 => ?_) (fun q1 => ?_)
  · replace h := h.1 q1
    refine B.aload_n 0 dX6_subjectOfWord_44 rfl rfl ?_
    refine B.ldcS 9 dX6_subjectOfWord_45 (by decide) ⟨rfl, rfl⟩ ?_
    obtain ⟨t2, h⟩ := h
    refine B.callV (M' := MX6_wordIs) (rc := 0) (rs := 0) (mc := 0) (ms := 0) (st := []) [.ref (gK g 9)] dX6_subjectOfWord_47 mv_X6_wordIs lk_X6_69 ⟨Nat.le_of_ble_eq_true rfl, Nat.le_of_ble_eq_true rfl⟩ rfl rfl (Nat.le_of_ble_eq_true rfl) t2 ?_
    exact h
  · replace h := h.2 q1
    refine B.iconst 3 dX6_subjectOfWord_42 (by decide) ?_
    refine B.ireturn dX6_subjectOfWord_43 rfl rfl ?_
    exact h
theorem s_X6_subjectOfWord_50 {g : GT} {S : ST} {P : PT} {I : IT} {Q : QT} {r0 : Nat} {w_s0 : Int32} (h : ((w_s0 = 0 → sT S r0 = 7 ∧ T g MX6_wordIs 0 0 [.ref r0, .ref (gK g 10)] S P I (fun r S' P' I' => B g MX6_subjectOfWord 0 0 61 [(0, .ref r0)] (r.toList ++ []) S' P' I' Q)) ∧ (¬ w_s0 = 0 → Q (some (.int 4)) S P I))) : B g MX6_subjectOfWord 0 0 50 [(0, .ref r0)] [.int w_s0] S P I Q := by
  refine B.if_eq 55 dX6_subjectOfWord_50 (by decide) (fun q1 => ?_) (fun q1 => ?_)
  · replace h := h.1 q1
    refine B.aload_n 0 dX6_subjectOfWord_55 rfl rfl ?_
    refine B.ldcS 10 dX6_subjectOfWord_56 (by decide) ⟨rfl, rfl⟩ ?_
    obtain ⟨t2, h⟩ := h
    refine B.callV (M' := MX6_wordIs) (rc := 0) (rs := 0) (mc := 0) (ms := 0) (st := []) [.ref (gK g 10)] dX6_subjectOfWord_58 mv_X6_wordIs lk_X6_69 ⟨Nat.le_of_ble_eq_true rfl, Nat.le_of_ble_eq_true rfl⟩ rfl rfl (Nat.le_of_ble_eq_true rfl) t2 ?_
    exact h
  · replace h := h.2 q1
    refine B.iconst 4 dX6_subjectOfWord_53 (by decide) ?_
    refine B.ireturn dX6_subjectOfWord_54 rfl rfl ?_
    exact h
theorem s_X6_subjectOfWord_61 {g : GT} {S : ST} {P : PT} {I : IT} {Q : QT} {r0 : Nat} {w_s0 : Int32} (h : ((w_s0 = 0 → sT S r0 = 7 ∧ T g MX6_wordIs 0 0 [.ref r0, .ref (gK g 11)] S P I (fun r S' P' I' => B g MX6_subjectOfWord 0 0 72 [(0, .ref r0)] (r.toList ++ []) S' P' I' Q)) ∧ (¬ w_s0 = 0 → Q (some (.int 5)) S P I))) : B g MX6_subjectOfWord 0 0 61 [(0, .ref r0)] [.int w_s0] S P I Q := by
  refine B.if_eq 66 dX6_subjectOfWord_61 (by decide) (fun q1 => ?_) (fun q1 => ?_)
  · replace h := h.1 q1
    refine B.aload_n 0 dX6_subjectOfWord_66 rfl rfl ?_
    refine B.ldcS 11 dX6_subjectOfWord_67 (by decide) ⟨rfl, rfl⟩ ?_
    obtain ⟨t2, h⟩ := h
    refine B.callV (M' := MX6_wordIs) (rc := 0) (rs := 0) (mc := 0) (ms := 0) (st := []) [.ref (gK g 11)] dX6_subjectOfWord_69 mv_X6_wordIs lk_X6_69 ⟨Nat.le_of_ble_eq_true rfl, Nat.le_of_ble_eq_true rfl⟩ rfl rfl (Nat.le_of_ble_eq_true rfl) t2 ?_
    exact h
  · replace h := h.2 q1
    refine B.iconst 5 dX6_subjectOfWord_64 (by decide) ?_
    refine B.ireturn dX6_subjectOfWord_65 rfl rfl ?_
    exact h
theorem s_X6_subjectOfWord_72 {g : GT} {S : ST} {P : PT} {I : IT} {Q : QT} {r0 : Nat} {w_s0 : Int32} (h : ((w_s0 = 0 → Q (some (.int (-1))) S P I) ∧ (¬ w_s0 = 0 → Q (some (.int 6)) S P I))) : B g MX6_subjectOfWord 0 0 72 [(0, .ref r0)] [.int w_s0] S P I Q := by
  refine B.if_eq 80 dX6_subjectOfWord_72 (by decide) (fun q1 => ?_) (fun q1 => ?_)
  · replace h := h.1 q1
    refine B.iconst (-1) dX6_subjectOfWord_80 (by decide) ?_
    refine B.ireturn dX6_subjectOfWord_81 rfl rfl ?_
    exact h
  · replace h := h.2 q1
    refine B.bipush 6 dX6_subjectOfWord_75 (by decide) ?_
    refine B.goto_ 81 dX6_subjectOfWord_77 (by decide) ?_
    refine B.ireturn dX6_subjectOfWord_81 rfl rfl ?_
    exact h
theorem s_X6_scanNumber_0 {g : GT} {S : ST} {P : PT} {I : IT} {Q : QT} {r0 : Nat} (h : sT S r0 = 7 ∧ ∃ b2, P r0 0 = b2 + 1 ∧ sT S b2 = 6 ∧ (((I b2 1) ≤ (I r0 5) → B g MX6_scanNumber 0 0 72 [(0, .ref r0)] [] S P I Q) ∧ (¬ (I b2 1) ≤ (I r0 5) → ∃ b6, P b2 0 = b6 + 1 ∧ sT S b6 = 41 ∧ ∃ j9, ix (I r0 5) j9 (sL S b6) ∧ (((isDg (I b6 j9)) = 0 → B g MX6_scanNumber 0 0 72 [(0, .ref r0)] [] S P I Q) ∧ (¬ (isDg (I b6 j9)) = 0 → B g MX6_scanNumber 0 0 0 [(0, .ref r0)] [] S P (u2 (u2 I r0 6 (((10 * (I r0 6)) + (I b6 j9)) - 48)) r0 5 ((I r0 5) + 1)) Q))))) : B g MX6_scanNumber 0 0 0 [(0, .ref r0)] [] S P I Q := by
  refine B.aload_n 0 dX6_scanNumber_0 rfl rfl ?_
  obtain ⟨t1, h⟩ := h
  refine B.getI dX6_scanNumber_1 fl_6_25 t1 ?_
  refine B.aload_n 0 dX6_scanNumber_4 rfl rfl ?_
  obtain ⟨b2, h⟩ := h
  obtain ⟨t3, h⟩ := h
  refine B.getP dX6_scanNumber_5 fl_6_31 t1 t3 ?_
  obtain ⟨t4, h⟩ := h
  refine B.getI dX6_scanNumber_8 fl_6_39 t4 ?_
  refine B.icmp_ge 72 dX6_scanNumber_11 (by decide) (fun q5 => ?_) (fun q5 => ?_)
  · replace h := h.1 q5
    exact h
  · replace h := h.2 q5
    refine B.aload_n 0 dX6_scanNumber_14 rfl rfl ?_
    refine B.getP dX6_scanNumber_15 fl_6_31 t1 t3 ?_
    obtain ⟨b6, h⟩ := h
    obtain ⟨t7, h⟩ := h
    refine B.getP dX6_scanNumber_18 fl_6_44 t4 t7 ?_
    refine B.aload_n 0 dX6_scanNumber_21 rfl rfl ?_
    refine B.getI dX6_scanNumber_22 fl_6_25 t1 ?_
    obtain ⟨t8, h⟩ := h
    obtain ⟨j9, h⟩ := h
    obtain ⟨t10, h⟩ := h
    refine B.baload dX6_scanNumber_25 t8 t10 ?_
    refine B.callS (M' := MX6_isDigit) (rc := 0) (rs := 0) (mc := 0) (ms := 0) (st := []) [.int (I b6 j9)] dX6_scanNumber_26 ms_X6_isDigit lk_X6_58 ⟨Nat.le_of_ble_eq_true rfl, Nat.le_of_ble_eq_true rfl⟩ rfl rfl (Nat.le_of_ble_eq_true rfl) (t_isDigit6 ?_)
    show B g MX6_scanNumber 0 0 29 [(0, .ref r0)] [.int (isDg (I b6 j9))] S P I _
    refine B.if_eq 72 dX6_scanNumber_29 (by decide) (fun q11 => ?_) (fun q11 => ?_)
    · replace h := h.1 q11
      exact h
    · replace h := h.2 q11
      refine B.aload_n 0 dX6_scanNumber_32 rfl rfl ?_
      refine B.bipush 10 dX6_scanNumber_33 (by decide) ?_
      refine B.aload_n 0 dX6_scanNumber_35 rfl rfl ?_
      refine B.getI dX6_scanNumber_36 fl_6_28 t1 ?_
      refine B.imul dX6_scanNumber_39 ?_
      refine B.aload_n 0 dX6_scanNumber_40 rfl rfl ?_
      refine B.getP dX6_scanNumber_41 fl_6_31 t1 t3 ?_
      refine B.getP dX6_scanNumber_44 fl_6_44 t4 t7 ?_
      refine B.aload_n 0 dX6_scanNumber_47 rfl rfl ?_
      refine B.getI dX6_scanNumber_48 fl_6_25 t1 ?_
      refine B.baload dX6_scanNumber_51 t8 t10 ?_
      refine B.iadd dX6_scanNumber_52 ?_
      refine B.bipush 48 dX6_scanNumber_53 (by decide) ?_
      refine B.isub dX6_scanNumber_55 ?_
      refine B.putI dX6_scanNumber_56 fw_6_28 t1 ?_
      refine B.aload_n 0 dX6_scanNumber_59 rfl rfl ?_
      refine B.dup dX6_scanNumber_60 rfl ?_
      refine B.getI dX6_scanNumber_61 fl_6_25 t1 ?_
      rw [u2_k (I := I) (a := r0) (k := 6) (b := r0) (j := 5) (x := (((10 * (I r0 6)) + (I b6 j9)) - 48)) (by decide)]
      refine B.iconst 1 dX6_scanNumber_64 (by decide) ?_
      refine B.iadd dX6_scanNumber_65 ?_
      refine B.putI dX6_scanNumber_66 fw_6_25 t1 ?_
      refine B.goto_ 0 dX6_scanNumber_69 (by decide) ?_
      exact h
theorem s_X6_scanNumber_72 {g : GT} {S : ST} {P : PT} {I : IT} {Q : QT} {r0 : Nat} (h : sT S r0 = 7 ∧ ((((I r0 5) - (I r0 4)) ≤ 3 → Q (some (.int 2)) S P I) ∧ (¬ ((I r0 5) - (I r0 4)) ≤ 3 → Q (some (.int 1)) S P I))) : B g MX6_scanNumber 0 0 72 [(0, .ref r0)] [] S P I Q := by
  refine B.aload_n 0 dX6_scanNumber_72 rfl rfl ?_
  obtain ⟨t1, h⟩ := h
  refine B.getI dX6_scanNumber_73 fl_6_25 t1 ?_
  refine B.aload_n 0 dX6_scanNumber_76 rfl rfl ?_
  refine B.getI dX6_scanNumber_77 fl_6_21 t1 ?_
  refine B.isub dX6_scanNumber_80 ?_
  refine B.iconst 3 dX6_scanNumber_81 (by decide) ?_
  refine B.icmp_le 89 dX6_scanNumber_82 (by decide) (fun q2 => ?_) (fun q2 => ?_)
  · replace h := h.1 q2
    refine B.iconst 2 dX6_scanNumber_89 (by decide) ?_
    refine B.ireturn dX6_scanNumber_90 rfl rfl ?_
    exact h
  · replace h := h.2 q2
    refine B.iconst 1 dX6_scanNumber_85 (by decide) ?_
    refine B.goto_ 90 dX6_scanNumber_86 (by decide) ?_
    refine B.ireturn dX6_scanNumber_90 rfl rfl ?_
    exact h
theorem s_X6_scanSign_0 {g : GT} {S : ST} {P : PT} {I : IT} {Q : QT} {r0 : Nat} (h : sT S r0 = 7 ∧ ∃ b2, P r0 0 = b2 + 1 ∧ sT S b2 = 6 ∧ ∃ b5, P b2 0 = b5 + 1 ∧ sT S b5 = 41 ∧ ∃ j8, ix (I r0 5) j8 (sL S b5) ∧ (((I b5 j8) = 58 → Q (some (.int 5)) S P (u2 I r0 5 ((I r0 5) + 1))) ∧ ((I b5 j8) = 59 → Q (some (.int 6)) S P (u2 I r0 5 ((I r0 5) + 1))) ∧ ((I b5 j8) = 60 → Q (some (.int 4)) S P (u2 (u2 I r0 5 ((I r0 5) + 1)) r0 6 1)) ∧ ((I b5 j8) = 61 → Q (some (.int 4)) S P (u2 (u2 I r0 5 ((I r0 5) + 1)) r0 6 2)) ∧ ((I b5 j8) = 62 → Q (some (.int 4)) S P (u2 (u2 I r0 5 ((I r0 5) + 1)) r0 6 4)) ∧ (¬ (I b5 j8) = 58 → ¬ (I b5 j8) = 59 → ¬ (I b5 j8) = 60 → ¬ (I b5 j8) = 61 → ¬ (I b5 j8) = 62 → Q (some (.int 1)) S P (u2 I r0 5 ((I r0 5) + 1))))) : B g MX6_scanSign 0 0 0 [(0, .ref r0)] [] S P I Q := by
  refine B.aload_n 0 dX6_scanSign_0 rfl rfl ?_
  obtain ⟨t1, h⟩ := h
  obtain ⟨b2, h⟩ := h
  obtain ⟨t3, h⟩ := h
  refine B.getP dX6_scanSign_1 fl_6_31 t1 t3 ?_
  obtain ⟨t4, h⟩ := h
  obtain ⟨b5, h⟩ := h
  obtain ⟨t6, h⟩ := h
  refine B.getP dX6_scanSign_4 fl_6_44 t4 t6 ?_
  refine B.aload_n 0 dX6_scanSign_7 rfl rfl ?_
  refine B.getI dX6_scanSign_8 fl_6_25 t1 ?_
  obtain ⟨t7, h⟩ := h
  obtain ⟨j8, h⟩ := h
  obtain ⟨t9, h⟩ := h
  refine B.baload dX6_scanSign_11 t7 t9 ?_
  refine B.istore_n (lv' := [(0, .ref r0), (1, .int (I b5 j8))]) dX6_scanSign_12 rfl (by decide) rfl ?_
  refine B.aload_n 0 dX6_scanSign_13 rfl rfl ?_
  refine B.dup dX6_scanSign_14 rfl ?_
  refine B.getI dX6_scanSign_15 fl_6_25 t1 ?_
  refine B.iconst 1 dX6_scanSign_18 (by decide) ?_
  refine B.iadd dX6_scanSign_19 ?_
  refine B.putI dX6_scanSign_20 fw_6_25 t1 ?_
  refine B.iload_n 1 dX6_scanSign_23 rfl rfl ?_
  rcases Decidable.em ((I b5 j8) = 58) with q10 | q10_0
  · replace h := h.1 q10
    refine B.tableIn 60 dX6_scanSign_24 (by rw [q10]; decide) (by rw [q10]; decide) (by rw [q10]; rfl) (by decide) ?_
    refine B.iconst 5 dX6_scanSign_60 (by decide) ?_
    refine B.ireturn dX6_scanSign_61 rfl rfl ?_
    exact h
  replace h := h.2
  rcases Decidable.em ((I b5 j8) = 59) with q10 | q10_1
  · replace h := h.1 q10
    refine B.tableIn 62 dX6_scanSign_24 (by rw [q10]; decide) (by rw [q10]; decide) (by rw [q10]; rfl) (by decide) ?_
    refine B.bipush 6 dX6_scanSign_62 (by decide) ?_
    refine B.ireturn dX6_scanSign_64 rfl rfl ?_
    exact h
  replace h := h.2
  rcases Decidable.em ((I b5 j8) = 60) with q10 | q10_2
  · replace h := h.1 q10
    refine B.tableIn 65 dX6_scanSign_24 (by rw [q10]; decide) (by rw [q10]; decide) (by rw [q10]; rfl) (by decide) ?_
    refine B.aload_n 0 dX6_scanSign_65 rfl rfl ?_
    refine B.iconst 1 dX6_scanSign_66 (by decide) ?_
    refine B.putI dX6_scanSign_67 fw_6_28 t1 ?_
    refine B.iconst 4 dX6_scanSign_70 (by decide) ?_
    refine B.ireturn dX6_scanSign_71 rfl rfl ?_
    exact h
  replace h := h.2
  rcases Decidable.em ((I b5 j8) = 61) with q10 | q10_3
  · replace h := h.1 q10
    refine B.tableIn 79 dX6_scanSign_24 (by rw [q10]; decide) (by rw [q10]; decide) (by rw [q10]; rfl) (by decide) ?_
    refine B.aload_n 0 dX6_scanSign_79 rfl rfl ?_
    refine B.iconst 2 dX6_scanSign_80 (by decide) ?_
    refine B.putI dX6_scanSign_81 fw_6_28 t1 ?_
    refine B.iconst 4 dX6_scanSign_84 (by decide) ?_
    refine B.ireturn dX6_scanSign_85 rfl rfl ?_
    exact h
  replace h := h.2
  rcases Decidable.em ((I b5 j8) = 62) with q10 | q10_4
  · replace h := h.1 q10
    refine B.tableIn 72 dX6_scanSign_24 (by rw [q10]; decide) (by rw [q10]; decide) (by rw [q10]; rfl) (by decide) ?_
    refine B.aload_n 0 dX6_scanSign_72 rfl rfl ?_
    refine B.iconst 4 dX6_scanSign_73 (by decide) ?_
    refine B.putI dX6_scanSign_74 fw_6_28 t1 ?_
    refine B.iconst 4 dX6_scanSign_77 (by decide) ?_
    refine B.ireturn dX6_scanSign_78 rfl rfl ?_
    exact h
  replace h := h.2
  replace h := h q10_0 q10_1 q10_2 q10_3 q10_4
  have qo : ((I b5 j8)).toInt < 58 ∨ 62 < ((I b5 j8)).toInt := by
    refine tsw_out (lo := 58) (hi := 62) (by decide) (by decide) (fun c h1 h2 => ?_)
    obtain rfl | rfl | rfl | rfl | rfl : c = 58 ∨ c = 59 ∨ c = 60 ∨ c = 61 ∨ c = 62 := by omega
    · exact q10_0
    · exact q10_1
    · exact q10_2
    · exact q10_3
    · exact q10_4
  refine B.tableOut 86 dX6_scanSign_24 qo (by decide) ?_
  refine B.iconst 1 dX6_scanSign_86 (by decide) ?_
  refine B.ireturn dX6_scanSign_87 rfl rfl ?_
  exact h
