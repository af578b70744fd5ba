theorem s_X7_copyFrom_0 {g : GT} {S : ST} {P : PT} {I : IT} {Q : QT} {r0 : Nat} {r1 : Nat} (h : sT S r0 = 8 ∧ ∃ b2, P r0 0 = b2 + 1 ∧ sT S r1 = 8 ∧ ∃ b5, P r1 0 = b5 + 1 ∧ sT S b2 = 6 ∧ T g MX5_copyFrom 0 0 [.ref b2, .ref b5] S P I (fun r S' P' I' => B g MX7_copyFrom 0 0 11 [(0, .ref r0), (1, .ref r1)] (r.toList ++ []) S' P' I' Q)) : B g MX7_copyFrom 0 0 0 [(0, .ref r0), (1, .ref r1)] [] S P I Q := by
  refine B.aload_n 0 dX7_copyFrom_0 rfl rfl ?_
  obtain ⟨t1, h⟩ := h
  obtain ⟨b2, h⟩ := h
  obtain ⟨t3, h⟩ := h
  refine B.getP dX7_copyFrom_1 fl_7_12 t1 t3 ?_
  refine B.aload_n 1 dX7_copyFrom_4 rfl rfl ?_
  obtain ⟨t4, h⟩ := h
  obtain ⟨b5, h⟩ := h
  obtain ⟨t6, h⟩ := h
  refine B.getP dX7_copyFrom_5 fl_7_12 t4 t6 ?_
  obtain ⟨t7, h⟩ := h
  refine B.callV (M' := MX5_copyFrom) (rc := 0) (rs := 0) (mc := 0) (ms := 0) (st := []) [.ref b5] dX7_copyFrom_8 mv_X5_copyFrom lk_X7_72 ⟨Nat.le_of_ble_eq_true rfl, Nat.le_of_ble_eq_true rfl⟩ rfl rfl (Nat.le_of_ble_eq_true rfl) t7 ?_
  exact h
theorem s_X7_copyFrom_11 {g : GT} {S : ST} {P : PT} {I : IT} {Q : QT} {r0 : Nat} {r1 : Nat} (h : sT S r0 = 8 ∧ ∃ b2, P r0 1 = b2 + 1 ∧ sT S r1 = 8 ∧ ∃ b5, P r1 1 = b5 + 1 ∧ sT S b2 = 1 ∧ T g MX0_copyFrom 0 0 [.ref b2, .ref b5] S P I (fun r S' P' I' => B g MX7_copyFrom 0 0 22 [(0, .ref r0), (1, .ref r1)] (r.toList ++ []) S' P' I' Q)) : B g MX7_copyFrom 0 0 11 [(0, .ref r0), (1, .ref r1)] [] S P I Q := by
  refine B.aload_n 0 dX7_copyFrom_11 rfl rfl ?_
  obtain ⟨t1, h⟩ := h
  obtain ⟨b2, h⟩ := h
  obtain ⟨t3, h⟩ := h
  refine B.getP dX7_copyFrom_12 fl_7_21 t1 t3 ?_
  refine B.aload_n 1 dX7_copyFrom_15 rfl rfl ?_
  obtain ⟨t4, h⟩ := h
  obtain ⟨b5, h⟩ := h
  obtain ⟨t6, h⟩ := h
  refine B.getP dX7_copyFrom_16 fl_7_21 t4 t6 ?_
  obtain ⟨t7, h⟩ := h
  refine B.callV (M' := MX0_copyFrom) (rc := 0) (rs := 0) (mc := 0) (ms := 0) (st := []) [.ref b5] dX7_copyFrom_19 mv_X0_copyFrom lk_X7_76 ⟨Nat.le_of_ble_eq_true rfl, Nat.le_of_ble_eq_true rfl⟩ rfl rfl (Nat.le_of_ble_eq_true rfl) t7 ?_
  exact h
theorem s_X7_copyFrom_22 {g : GT} {S : ST} {P : PT} {I : IT} {Q : QT} {r0 : Nat} {r1 : Nat} (h : sT S r1 = 8 ∧ sT S r0 = 8 ∧ B g MX7_copyFrom 0 0 40 [(0, .ref r0), (1, .ref r1), (2, .int 0)] [] S P (u2 (u2 I r0 2 (I r1 2)) r0 3 (I r1 3)) Q) : B g MX7_copyFrom 0 0 22 [(0, .ref r0), (1, .ref r1)] [] S P I Q := by
  refine B.aload_n 0 dX7_copyFrom_22 rfl rfl ?_
  refine B.aload_n 1 dX7_copyFrom_23 rfl rfl ?_
  obtain ⟨t1, h⟩ := h
  refine B.getI dX7_copyFrom_24 fl_7_25 t1 ?_
  obtain ⟨t2, h⟩ := h
  refine B.putI dX7_copyFrom_27 fw_7_25 t2 ?_
  refine B.aload_n 0 dX7_copyFrom_30 rfl rfl ?_
  refine B.aload_n 1 dX7_copyFrom_31 rfl rfl ?_
  refine B.getI dX7_copyFrom_32 fl_7_29 t1 ?_
  rw [u2_k (I := I) (a := r0) (k := 2) (b := r1) (j := 3) (x := (I r1 2)) (by decide)]
  refine B.putI dX7_copyFrom_35 fw_7_29 t2 ?_
  refine B.iconst 0 dX7_copyFrom_38 (by decide) ?_
  refine B.istore_n (lv' := [(0, .ref r0), (1, .ref r1), (2, .int 0)]) dX7_copyFrom_39 rfl (by decide) rfl ?_
  exact h
theorem s_X7_copyFrom_40 {g : GT} {S : ST} {P : PT} {I : IT} {Q : QT} {r0 : Nat} {r1 : Nat} {x2 : Int32} (h : ((8 ≤ x2 → sT S r1 = 8 ∧ sT S r0 = 8 ∧ ∃ b4, P r1 6 = b4 + 1 ∧ ∃ b6, P r0 6 = b6 + 1 ∧ sT S b4 = 40 ∧ sT S b6 = 40 ∧ 5 ≤ sL S b4 ∧ 5 ≤ sL S b6 ∧ ∃ b12, P r1 7 = b12 + 1 ∧ ∃ b14, P r0 7 = b14 + 1 ∧ sT S b12 = 40 ∧ sT S b14 = 40 ∧ 5 ≤ sL S b12 ∧ 5 ≤ sL S b14 ∧ ∃ b20, P r1 8 = b20 + 1 ∧ ∃ b22, P r0 8 = b22 + 1 ∧ sT S b20 = 40 ∧ sT S b22 = 40 ∧ 4 ≤ sL S b20 ∧ 4 ≤ sL S b22 ∧ ∃ b28, P r0 9 = b28 + 1 ∧ ∃ b30, P r1 9 = b30 + 1 ∧ sT S b28 = 3 ∧ T g MX2_copyFrom 0 0 [.ref b28, .ref b30] S P (cpI (cpI (cpI (u2 I r0 5 (I r1 5)) b4 b6 5) b12 b14 5) b20 b22 4) (fun r S' P' I' => B g MX7_copyFrom 0 0 128 [(0, .ref r0), (1, .ref r1), (2, .int x2)] (r.toList ++ []) S' P' I' Q)) ∧ (¬ 8 ≤ x2 → sT S r0 = 8 ∧ ∃ b34, P r0 4 = b34 + 1 ∧ sT S b34 = 43 ∧ ∃ j37, ix x2 j37 (sL S b34) ∧ ∃ b39, P b34 j37 = b39 + 1 ∧ sT S r1 = 8 ∧ ∃ b42, P r1 4 = b42 + 1 ∧ sT S b42 = 43 ∧ ∃ j45, ix x2 j45 (sL S b42) ∧ ∃ b47, P b42 j45 = b47 + 1 ∧ sT S b39 = 2 ∧ T g MX1_copyFrom 0 0 [.ref b39, .ref b47] S P I (fun r S' P' I' => B g MX7_copyFrom 0 0 61 [(0, .ref r0), (1, .ref r1), (2, .int x2)] (r.toList ++ []) S' P' I' Q)))) : B g MX7_copyFrom 0 0 40 [(0, .ref r0), (1, .ref r1), (2, .int x2)] [] S P I Q := by
  refine B.iload_n 2 dX7_copyFrom_40 rfl rfl ?_
  refine B.bipush 8 dX7_copyFrom_41 (by decide) ?_
  refine B.icmp_ge 67 dX7_copyFrom_43 (by decide) (fun q1 => ?_) (fun q1 => ?_)
  · replace h := h.1 q1
    refine B.aload_n 0 dX7_copyFrom_67 rfl rfl ?_
    refine B.aload_n 1 dX7_copyFrom_68 rfl rfl ?_
    obtain ⟨t2, h⟩ := h
    refine B.getI dX7_copyFrom_69 fl_7_38 t2 ?_
    obtain ⟨t3, h⟩ := h
    refine B.putI dX7_copyFrom_72 fw_7_38 t3 ?_
    refine B.aload_n 1 dX7_copyFrom_75 rfl rfl ?_
    obtain ⟨b4, h⟩ := h
    obtain ⟨t5, h⟩ := h
    refine B.getP dX7_copyFrom_76 fl_7_41 t2 t5 ?_
    refine B.iconst 0 dX7_copyFrom_79 (by decide) ?_
    refine B.aload_n 0 dX7_copyFrom_80 rfl rfl ?_
    obtain ⟨b6, h⟩ := h
    obtain ⟨t7, h⟩ := h
    refine B.getP dX7_copyFrom_81 fl_7_41 t3 t7 ?_
    refine B.iconst 0 dX7_copyFrom_84 (by decide) ?_
    refine B.iconst 5 dX7_copyFrom_85 (by decide) ?_
    obtain ⟨t8, h⟩ := h
    obtain ⟨t9, h⟩ := h
    obtain ⟨t10, h⟩ := h
    obtain ⟨t11, h⟩ := h
    refine B.copy (t := 0) (n := 5) (by decide) (fun _ _ => rfl) rfl dX7_copyFrom_86 lk_X7_82 (by decide) (by decide) (Nat.le_of_ble_eq_true rfl) t8 t9 (by decide) (by decide) t10 t11 ?_
    refine B.aload_n 1 dX7_copyFrom_89 rfl rfl ?_
    obtain ⟨b12, h⟩ := h
    obtain ⟨t13, h⟩ := h
    refine B.getP dX7_copyFrom_90 fl_7_45 t2 t13 ?_
    refine B.iconst 0 dX7_copyFrom_93 (by decide) ?_
    refine B.aload_n 0 dX7_copyFrom_94 rfl rfl ?_
    obtain ⟨b14, h⟩ := h
    obtain ⟨t15, h⟩ := h
    refine B.getP dX7_copyFrom_95 fl_7_45 t3 t15 ?_
    refine B.iconst 0 dX7_copyFrom_98 (by decide) ?_
    refine B.iconst 5 dX7_copyFrom_99 (by decide) ?_
    obtain ⟨t16, h⟩ := h
    obtain ⟨t17, h⟩ := h
    obtain ⟨t18, h⟩ := h
    obtain ⟨t19, h⟩ := h
    refine B.copy (t := 0) (n := 5) (by decide) (fun _ _ => rfl) rfl dX7_copyFrom_100 lk_X7_82 (by decide) (by decide) (Nat.le_of_ble_eq_true rfl) t16 t17 (by decide) (by decide) t18 t19 ?_
    refine B.aload_n 1 dX7_copyFrom_103 rfl rfl ?_
    obtain ⟨b20, h⟩ := h
    obtain ⟨t21, h⟩ := h
    refine B.getP dX7_copyFrom_104 fl_7_48 t2 t21 ?_
    refine B.iconst 0 dX7_copyFrom_107 (by decide) ?_
    refine B.aload_n 0 dX7_copyFrom_108 rfl rfl ?_
    obtain ⟨b22, h⟩ := h
    obtain ⟨t23, h⟩ := h
    refine B.getP dX7_copyFrom_109 fl_7_48 t3 t23 ?_
    refine B.iconst 0 dX7_copyFrom_112 (by decide) ?_
    refine B.iconst 4 dX7_copyFrom_113 (by decide) ?_
    obtain ⟨t24, h⟩ := h
    obtain ⟨t25, h⟩ := h
    obtain ⟨t26, h⟩ := h
    obtain ⟨t27, h⟩ := h
    refine B.copy (t := 0) (n := 4) (by decide) (fun _ _ => rfl) rfl dX7_copyFrom_114 lk_X7_82 (by decide) (by decide) (Nat.le_of_ble_eq_true rfl) t24 t25 (by decide) (by decide) t26 t27 ?_
    refine B.aload_n 0 dX7_copyFrom_117 rfl rfl ?_
    obtain ⟨b28, h⟩ := h
    obtain ⟨t29, h⟩ := h
    refine B.getP dX7_copyFrom_118 fl_7_54 t3 t29 ?_
    refine B.aload_n 1 dX7_copyFrom_121 rfl rfl ?_
    obtain ⟨b30, h⟩ := h
    obtain ⟨t31, h⟩ := h
    refine B.getP dX7_copyFrom_122 fl_7_54 t2 t31 ?_
    obtain ⟨t32, h⟩ := h
    refine B.callV (M' := MX2_copyFrom) (rc := 0) (rs := 0) (mc := 0) (ms := 0) (st := []) [.ref b30] dX7_copyFrom_125 mv_X2_copyFrom lk_X7_88 ⟨Nat.le_of_ble_eq_true rfl, Nat.le_of_ble_eq_true rfl⟩ rfl rfl (Nat.le_of_ble_eq_true rfl) t32 ?_
    exact h
  · replace h := h.2 q1
    refine B.aload_n 0 dX7_copyFrom_46 rfl rfl ?_
    obtain ⟨t33, h⟩ := h
    obtain ⟨b34, h⟩ := h
    obtain ⟨t35, h⟩ := h
    refine B.getP dX7_copyFrom_47 fl_7_34 t33 t35 ?_
    refine B.iload_n 2 dX7_copyFrom_50 rfl rfl ?_
    obtain ⟨t36, h⟩ := h
    obtain ⟨j37, h⟩ := h
    obtain ⟨t38, h⟩ := h
    obtain ⟨b39, h⟩ := h
    obtain ⟨t40, h⟩ := h
    refine B.aaload 3 (by decide) dX7_copyFrom_51 t36 t38 t40 ?_
    refine B.aload_n 1 dX7_copyFrom_52 rfl rfl ?_
    obtain ⟨t41, h⟩ := h
    obtain ⟨b42, h⟩ := h
    obtain ⟨t43, h⟩ := h
    refine B.getP dX7_copyFrom_53 fl_7_34 t41 t43 ?_
    refine B.iload_n 2 dX7_copyFrom_56 rfl rfl ?_
    obtain ⟨t44, h⟩ := h
    obtain ⟨j45, h⟩ := h
    obtain ⟨t46, h⟩ := h
    obtain ⟨b47, h⟩ := h
    obtain ⟨t48, h⟩ := h
    refine B.aaload 3 (by decide) dX7_copyFrom_57 t44 t46 t48 ?_
    obtain ⟨t49, h⟩ := h
    refine B.callV (M' := MX1_copyFrom) (rc := 0) (rs := 0) (mc := 0) (ms := 0) (st := []) [.ref b47] dX7_copyFrom_58 mv_X1_copyFrom lk_X7_79 ⟨Nat.le_of_ble_eq_true rfl, Nat.le_of_ble_eq_true rfl⟩ rfl rfl (Nat.le_of_ble_eq_true rfl) t49 ?_
    exact h
theorem s_X7_copyFrom_61 {g : GT} {S : ST} {P : PT} {I : IT} {Q : QT} {r0 : Nat} {r1 : Nat} {x2 : Int32} (h : B g MX7_copyFrom 0 0 40 [(0, .ref r0), (1, .ref r1), (2, .int (x2 + 1))] [] S P I Q) : B g MX7_copyFrom 0 0 61 [(0, .ref r0), (1, .ref r1), (2, .int x2)] [] S P I Q := by
  refine B.iinc (lv' := [(0, .ref r0), (1, .ref r1), (2, .int (x2 + 1))]) 2 (x2 + 1) dX7_copyFrom_61 rfl rfl (by decide) rfl ?_
  refine B.goto_ 40 dX7_copyFrom_64 (by decide) ?_
  exact h
theorem s_X7_copyFrom_128 {g : GT} {S : ST} {P : PT} {I : IT} {Q : QT} {r0 : Nat} {r1 : Nat} {x2 : Int32} (h : B g MX7_copyFrom 0 0 130 [(0, .ref r0), (1, .ref r1), (2, .int 0)] [] S P I Q) : B g MX7_copyFrom 0 0 128 [(0, .ref r0), (1, .ref r1), (2, .int x2)] [] S P I Q := by
  refine B.iconst 0 dX7_copyFrom_128 (by decide) ?_
  refine B.istore_n (lv' := [(0, .ref r0), (1, .ref r1), (2, .int 0)]) dX7_copyFrom_129 rfl (by decide) rfl ?_
  exact h
theorem s_X7_copyFrom_130 {g : GT} {S : ST} {P : PT} {I : IT} {Q : QT} {r0 : Nat} {r1 : Nat} {x2 : Int32} (h : ((24 ≤ x2 → sT S r1 = 8 ∧ sT S r0 = 8 ∧ Q none S P (u2 (u2 I r0 11 (I r1 11)) r0 12 (I r1 12))) ∧ (¬ 24 ≤ x2 → sT S r0 = 8 ∧ ∃ b5, P r0 10 = b5 + 1 ∧ sT S b5 = 44 ∧ ∃ j8, ix x2 j8 (sL S b5) ∧ ∃ b10, P b5 j8 = b10 + 1 ∧ sT S r1 = 8 ∧ ∃ b13, P r1 10 = b13 + 1 ∧ sT S b13 = 44 ∧ ∃ j16, ix x2 j16 (sL S b13) ∧ ∃ b18, P b13 j16 = b18 + 1 ∧ sT S b10 = 4 ∧ T g MX3_copyFrom 0 0 [.ref b10, .ref b18] S P I (fun r S' P' I' => B g MX7_copyFrom 0 0 151 [(0, .ref r0), (1, .ref r1), (2, .int x2)] (r.toList ++ []) S' P' I' Q)))) : B g MX7_copyFrom 0 0 130 [(0, .ref r0), (1, .ref r1), (2, .int x2)] [] S P I Q := by
  refine B.iload_n 2 dX7_copyFrom_130 rfl rfl ?_
  refine B.bipush 24 dX7_copyFrom_131 (by decide) ?_
  refine B.icmp_ge 157 dX7_copyFrom_133 (by decide) (fun q1 => ?_) (fun q1 => ?_)
  · replace h := h.1 q1
    refine B.aload_n 0 dX7_copyFrom_157 rfl rfl ?_
    refine B.aload_n 1 dX7_copyFrom_158 rfl rfl ?_
    obtain ⟨t2, h⟩ := h
    refine B.getI dX7_copyFrom_159 fl_7_64 t2 ?_
    obtain ⟨t3, h⟩ := h
    refine B.putI dX7_copyFrom_162 fw_7_64 t3 ?_
    refine B.aload_n 0 dX7_copyFrom_165 rfl rfl ?_
    refine B.aload_n 1 dX7_copyFrom_166 rfl rfl ?_
    refine B.getI dX7_copyFrom_167 fl_7_67 t2 ?_
    rw [u2_k (I := I) (a := r0) (k := 11) (b := r1) (j := 12) (x := (I r1 11)) (by decide)]
    refine B.putI dX7_copyFrom_170 fw_7_67 t3 ?_
    refine B.return_ dX7_copyFrom_173 rfl ?_
    exact h
  · replace h := h.2 q1
    refine B.aload_n 0 dX7_copyFrom_136 rfl rfl ?_
    obtain ⟨t4, h⟩ := h
    obtain ⟨b5, h⟩ := h
    obtain ⟨t6, h⟩ := h
    refine B.getP dX7_copyFrom_137 fl_7_60 t4 t6 ?_
    refine B.iload_n 2 dX7_copyFrom_140 rfl rfl ?_
    obtain ⟨t7, h⟩ := h
    obtain ⟨j8, h⟩ := h
    obtain ⟨t9, h⟩ := h
    obtain ⟨b10, h⟩ := h
    obtain ⟨t11, h⟩ := h
    refine B.aaload 4 (by decide) dX7_copyFrom_141 t7 t9 t11 ?_
    refine B.aload_n 1 dX7_copyFrom_142 rfl rfl ?_
    obtain ⟨t12, h⟩ := h
    obtain ⟨b13, h⟩ := h
    obtain ⟨t14, h⟩ := h
    refine B.getP dX7_copyFrom_143 fl_7_60 t12 t14 ?_
    refine B.iload_n 2 dX7_copyFrom_146 rfl rfl ?_
    obtain ⟨t15, h⟩ := h
    obtain ⟨j16, h⟩ := h
    obtain ⟨t17, h⟩ := h
    obtain ⟨b18, h⟩ := h
    obtain ⟨t19, h⟩ := h
    refine B.aaload 4 (by decide) dX7_copyFrom_147 t15 t17 t19 ?_
    obtain ⟨t20, h⟩ := h
    refine B.callV (M' := MX3_copyFrom) (rc := 0) (rs := 0) (mc := 0) (ms := 0) (st := []) [.ref b18] dX7_copyFrom_148 mv_X3_copyFrom lk_X7_91 ⟨Nat.le_of_ble_eq_true rfl, Nat.le_of_ble_eq_true rfl⟩ rfl rfl (Nat.le_of_ble_eq_true rfl) t20 ?_
    exact h
theorem s_X7_copyFrom_151 {g : GT} {S : ST} {P : PT} {I : IT} {Q : QT} {r0 : Nat} {r1 : Nat} {x2 : Int32} (h : B g MX7_copyFrom 0 0 130 [(0, .ref r0), (1, .ref r1), (2, .int (x2 + 1))] [] S P I Q) : B g MX7_copyFrom 0 0 151 [(0, .ref r0), (1, .ref r1), (2, .int x2)] [] S P I Q := by
  refine B.iinc (lv' := [(0, .ref r0), (1, .ref r1), (2, .int (x2 + 1))]) 2 (x2 + 1) dX7_copyFrom_151 rfl rfl (by decide) rfl ?_
  refine B.goto_ 130 dX7_copyFrom_154 (by decide) ?_
  exact h
theorem s_X7_hasHouse_0 {g : GT} {S : ST} {P : PT} {I : IT} {Q : QT} {r0 : Nat} {x1 : Int32} (h : sT S r0 = 8 ∧ Q (some (.int (wi x1 0 ((I r0 5) - 1)))) S P I) : B g MX7_hasHouse 0 0 0 [(0, .ref r0), (1, .int x1)] [] S P I Q := by
  refine B.iload_n 1 dX7_hasHouse_0 rfl rfl ?_
  refine B.iconst 0 dX7_hasHouse_1 (by decide) ?_
  refine B.aload_n 0 dX7_hasHouse_2 rfl rfl ?_
  obtain ⟨t1, h⟩ := h
  refine B.getI dX7_hasHouse_3 fl_7_38 t1 ?_
  refine B.iconst 1 dX7_hasHouse_6 (by decide) ?_
  refine B.isub dX7_hasHouse_7 ?_
  refine B.callSN (M' := MX8_within) (rc := 0) (rs := 0) (mc := 0) (ms := 0) (st := []) [.int x1, .int 0, .int ((I r0 5) - 1)] "KilnVillage" dX7_hasHouse_8 ms_X8_within ⟨604, by decide +kernel⟩ ⟨Nat.le_of_ble_eq_true rfl, Nat.le_of_ble_eq_true rfl⟩ rfl rfl (Nat.le_of_ble_eq_true rfl) (t_within ?_)
  show B g MX7_hasHouse 0 0 11 [(0, .ref r0), (1, .int x1)] [.int (wi x1 0 ((I r0 5) - 1))] S P I _
  refine B.ireturn dX7_hasHouse_11 rfl (nar_z (wi_01 _ _ _)) ?_
  exact h
theorem s_X7_standingPots_0 {g : GT} {S : ST} {P : PT} {I : IT} {Q : QT} {r0 : Nat} (h : B g MX7_standingPots 0 0 4 [(0, .ref r0), (1, .int 0), (2, .int 0)] [] S P I Q) : B g MX7_standingPots 0 0 0 [(0, .ref r0)] [] S P I Q := by
  refine B.iconst 0 dX7_standingPots_0 (by decide) ?_
  refine B.istore_n (lv' := [(0, .ref r0), (1, .int 0)]) dX7_standingPots_1 rfl (by decide) rfl ?_
  refine B.iconst 0 dX7_standingPots_2 (by decide) ?_
  refine B.istore_n (lv' := [(0, .ref r0), (1, .int 0), (2, .int 0)]) dX7_standingPots_3 rfl (by decide) rfl ?_
  exact h
theorem s_X7_standingPots_4 {g : GT} {S : ST} {P : PT} {I : IT} {Q : QT} {r0 : Nat} {x1 : Int32} {x2 : Int32} (h : sT S r0 = 8 ∧ (((I r0 11) ≤ x2 → Q (some (.int x1)) S P I) ∧ (¬ (I r0 11) ≤ x2 → ∃ b3, P r0 10 = b3 + 1 ∧ sT S b3 = 44 ∧ ∃ j6, ix x2 j6 (sL S b3) ∧ ∃ b8, P b3 j6 = b8 + 1 ∧ sT S b8 = 4 ∧ (((I b8 4) = (-1) → B g MX7_standingPots 0 0 4 [(0, .ref r0), (1, .int x1), (2, .int (x2 + 1))] [] S P I Q) ∧ (¬ (I b8 4) = (-1) → B g MX7_standingPots 0 0 4 [(0, .ref r0), (1, .int (x1 + 1)), (2, .int (x2 + 1))] [] S P I Q))))) : B g MX7_standingPots 0 0 4 [(0, .ref r0), (1, .int x1), (2, .int x2)] [] S P I Q := by
  refine B.iload_n 2 dX7_standingPots_4 rfl rfl ?_
  refine B.aload_n 0 dX7_standingPots_5 rfl rfl ?_
  obtain ⟨t1, h⟩ := h
  refine B.getI dX7_standingPots_6 fl_7_64 t1 ?_
  refine B.icmp_ge 33 dX7_standingPots_9 (by decide) (fun q2 => ?_) (fun q2 => ?_)
  · replace h := h.1 q2
    refine B.iload_n 1 dX7_standingPots_33 rfl rfl ?_
    refine B.ireturn dX7_standingPots_34 rfl rfl ?_
    exact h
  · replace h := h.2 q2
    refine B.aload_n 0 dX7_standingPots_12 rfl rfl ?_
    obtain ⟨b3, h⟩ := h
    obtain ⟨t4, h⟩ := h
    refine B.getP dX7_standingPots_13 fl_7_60 t1 t4 ?_
    refine B.iload_n 2 dX7_standingPots_16 rfl rfl ?_
    obtain ⟨t5, h⟩ := h
    obtain ⟨j6, h⟩ := h
    obtain ⟨t7, h⟩ := h
    obtain ⟨b8, h⟩ := h
    obtain ⟨t9, h⟩ := h
    refine B.aaload 4 (by decide) dX7_standingPots_17 t5 t7 t9 ?_
    obtain ⟨t10, h⟩ := h
    refine B.callV (M' := MX3_stands) (rc := 0) (rs := 0) (mc := 0) (ms := 0) (st := []) [] dX7_standingPots_18 mv_X3_stands lk_X7_98 ⟨Nat.le_of_ble_eq_true rfl, Nat.le_of_ble_eq_true rfl⟩ rfl rfl (Nat.le_of_ble_eq_true rfl) t10 ?_
    refine T_of rfl (Nat.le_of_ble_eq_true rfl) ?_
    show B g MX3_stands 0 0 0 [(0, .ref b8)] [] S P I _
    refine B.aload_n 0 dX3_stands_0 rfl rfl ?_
    refine B.getI dX3_stands_1 fl_3_24 t10 ?_
    refine B.iconst (-1) dX3_stands_4 (by decide) ?_
    refine B.icmp_eq 12 dX3_stands_5 (by decide) (fun q11 => ?_) (fun q11 => ?_)
    · replace h := h.1 q11
      refine B.iconst 0 dX3_stands_12 (by decide) ?_
      refine B.ireturn dX3_stands_13 rfl rfl ?_
      show B g MX7_standingPots 0 0 21 [(0, .ref r0), (1, .int x1), (2, .int x2)] [.int 0] S P I _
      refine B.if_eq 27 dX7_standingPots_21 (by decide) (fun _ => ?_) (fun q => absurd q (by decide))
      refine B.iinc (lv' := [(0, .ref r0), (1, .int x1), (2, .int (x2 + 1))]) 2 (x2 + 1) dX7_standingPots_27 rfl rfl (by decide) rfl ?_
      refine B.goto_ 4 dX7_standingPots_30 (by decide) ?_
      exact h
    · replace h := h.2 q11
      refine B.iconst 1 dX3_stands_8 (by decide) ?_
      refine B.goto_ 13 dX3_stands_9 (by decide) ?_
      refine B.ireturn dX3_stands_13 rfl rfl ?_
      show B g MX7_standingPots 0 0 21 [(0, .ref r0), (1, .int x1), (2, .int x2)] [.int 1] S P I _
      refine B.if_eq 27 dX7_standingPots_21 (by decide) (fun q => absurd q (by decide)) (fun _ => ?_)
      refine B.iinc (lv' := [(0, .ref r0), (1, .int (x1 + 1)), (2, .int x2)]) 1 (x1 + 1) dX7_standingPots_24 rfl rfl (by decide) rfl ?_
      refine B.iinc (lv' := [(0, .ref r0), (1, .int (x1 + 1)), (2, .int (x2 + 1))]) 2 (x2 + 1) dX7_standingPots_27 rfl rfl (by decide) rfl ?_
      refine B.goto_ 4 dX7_standingPots_30 (by decide) ?_
      exact h
theorem s_X7_potsOf_0 {g : GT} {S : ST} {P : PT} {I : IT} {Q : QT} {r0 : Nat} {x1 : Int32} {x2 : Int32} (h : B g MX7_potsOf 0 0 5 [(0, .ref r0), (1, .int x1), (2, .int x2), (3, .int 0), (4, .int 0)] [] S P I Q) : B g MX7_potsOf 0 0 0 [(0, .ref r0), (1, .int x1), (2, .int x2)] [] S P I Q := by
  refine B.iconst 0 dX7_potsOf_0 (by decide) ?_
  refine B.istore_n (lv' := [(0, .ref r0), (1, .int x1), (2, .int x2), (3, .int 0)]) dX7_potsOf_1 rfl (by decide) rfl ?_
  refine B.iconst 0 dX7_potsOf_2 (by decide) ?_
  refine B.istore (lv' := [(0, .ref r0), (1, .int x1), (2, .int x2), (3, .int 0), (4, .int 0)]) dX7_potsOf_3 (by decide) rfl ?_
  exact h
theorem s_X7_potsOf_5 {g : GT} {S : ST} {P : PT} {I : IT} {Q : QT} {r0 : Nat} {x1 : Int32} {x2 : Int32} {x3 : Int32} {x4 : Int32} (h : sT S r0 = 8 ∧ (((I r0 11) ≤ x4 → Q (some (.int x3)) S P I) ∧ (¬ (I r0 11) ≤ x4 → ∃ b3, P r0 10 = b3 + 1 ∧ sT S b3 = 44 ∧ ∃ j6, ix x4 j6 (sL S b3) ∧ ∃ b8, P b3 j6 = b8 + 1 ∧ sT S b8 = 4 ∧ ((¬ (I b8 0) = x1 → B g MX7_potsOf 0 0 5 [(0, .ref r0), (1, .int x1), (2, .int x2), (3, .int x3), (4, .int (x4 + 1))] [] S P I Q) ∧ ((I b8 0) = x1 → (((I b8 4) = (-1) → ((¬ x2 = 0 → B g MX7_potsOf 0 0 5 [(0, .ref r0), (1, .int x1), (2, .int x2), (3, .int x3), (4, .int (x4 + 1))] [] S P I Q) ∧ (x2 = 0 → B g MX7_potsOf 0 0 5 [(0, .ref r0), (1, .int x1), (2, .int x2), (3, .int (x3 + 1)), (4, .int (x4 + 1))] [] S P I Q))) ∧ (¬ (I b8 4) = (-1) → B g MX7_potsOf 0 0 5 [(0, .ref r0), (1, .int x1), (2, .int x2), (3, .int (x3 + 1)), (4, .int (x4 + 1))] [] S P I Q))))))) : B g MX7_potsOf 0 0 5 [(0, .ref r0), (1, .int x1), (2, .int x2), (3, .int x3), (4, .int x4)] [] S P I Q := by
  refine B.iload 4 dX7_potsOf_5 rfl ?_
  refine B.aload_n 0 dX7_potsOf_7 rfl rfl ?_
  obtain ⟨t1, h⟩ := h
  refine B.getI dX7_potsOf_8 fl_7_64 t1 ?_
  refine B.icmp_ge 54 dX7_potsOf_11 (by decide) (fun q2 => ?_) (fun q2 => ?_)
  · replace h := h.1 q2
    refine B.iload_n 3 dX7_potsOf_54 rfl rfl ?_
    refine B.ireturn dX7_potsOf_55 rfl rfl ?_
    exact h
  · replace h := h.2 q2
    refine B.aload_n 0 dX7_potsOf_14 rfl rfl ?_
    obtain ⟨b3, h⟩ := h
    obtain ⟨t4, h⟩ := h
    refine B.getP dX7_potsOf_15 fl_7_60 t1 t4 ?_
    refine B.iload 4 dX7_potsOf_18 rfl ?_
    obtain ⟨t5, h⟩ := h
    obtain ⟨j6, h⟩ := h
    obtain ⟨t7, h⟩ := h
    obtain ⟨b8, h⟩ := h
    obtain ⟨t9, h⟩ := h
    refine B.aaload 4 (by decide) dX7_potsOf_20 t5 t7 t9 ?_
    obtain ⟨t10, h⟩ := h
    refine B.getI dX7_potsOf_21 fl_7_102 t10 ?_
    refine B.iload_n 1 dX7_potsOf_24 rfl rfl ?_
    refine B.icmp_ne 48 dX7_potsOf_25 (by decide) (fun q11 => ?_) (fun q11 => ?_)
    · replace h := h.1 q11
      refine B.iinc (lv' := [(0, .ref r0), (1, .int x1), (2, .int x2), (3, .int x3), (4, .int (x4 + 1))]) 4 (x4 + 1) dX7_potsOf_48 rfl rfl (by decide) rfl ?_
      refine B.goto_ 5 dX7_potsOf_51 (by decide) ?_
      exact h
    · replace h := h.2 q11
      refine B.aload_n 0 dX7_potsOf_28 rfl rfl ?_
      refine B.getP dX7_potsOf_29 fl_7_60 t1 t4 ?_
      refine B.iload 4 dX7_potsOf_32 rfl ?_
      refine B.aaload 4 (by decide) dX7_potsOf_34 t5 t7 t9 ?_
      refine B.callV (M' := MX3_stands) (rc := 0) (rs := 0) (mc := 0) (ms := 0) (st := []) [] dX7_potsOf_35 mv_X3_stands lk_X7_98 ⟨Nat.le_of_ble_eq_true rfl, Nat.le_of_ble_eq_true rfl⟩ rfl rfl (Nat.le_of_ble_eq_true rfl) t10 ?_
      refine T_of rfl (Nat.le_of_ble_eq_true rfl) ?_
      show B g MX3_stands 0 0 0 [(0, .ref b8)] [] S P I _
      refine B.aload_n 0 dX3_stands_0 rfl rfl ?_
      refine B.getI dX3_stands_1 fl_3_24 t10 ?_
      refine B.iconst (-1) dX3_stands_4 (by decide) ?_
      refine B.icmp_eq 12 dX3_stands_5 (by decide) (fun q12 => ?_) (fun q12 => ?_)
      · replace h := h.1 q12
        refine B.iconst 0 dX3_stands_12 (by decide) ?_
        refine B.ireturn dX3_stands_13 rfl rfl ?_
        show B g MX7_potsOf 0 0 38 [(0, .ref r0), (1, .int x1), (2, .int x2), (3, .int x3), (4, .int x4)] [.int 0] S P I _
        refine B.if_ne 45 dX7_potsOf_38 (by decide) (fun q => absurd q (by decide)) (fun _ => ?_)
        refine B.iload_n 2 dX7_potsOf_41 rfl rfl ?_
        refine B.if_ne 48 dX7_potsOf_42 (by decide) (fun q13 => ?_) (fun q13 => ?_)
        · replace h := h.1 q13
          refine B.iinc (lv' := [(0, .ref r0), (1, .int x1), (2, .int x2), (3, .int x3), (4, .int (x4 + 1))]) 4 (x4 + 1) dX7_potsOf_48 rfl rfl (by decide) rfl ?_
          refine B.goto_ 5 dX7_potsOf_51 (by decide) ?_
          exact h
        · replace h := h.2 q13
          refine B.iinc (lv' := [(0, .ref r0), (1, .int x1), (2, .int x2), (3, .int (x3 + 1)), (4, .int x4)]) 3 (x3 + 1) dX7_potsOf_45 rfl rfl (by decide) rfl ?_
          refine B.iinc (lv' := [(0, .ref r0), (1, .int x1), (2, .int x2), (3, .int (x3 + 1)), (4, .int (x4 + 1))]) 4 (x4 + 1) dX7_potsOf_48 rfl rfl (by decide) rfl ?_
          refine B.goto_ 5 dX7_potsOf_51 (by decide) ?_
          exact h
      · replace h := h.2 q12
        refine B.iconst 1 dX3_stands_8 (by decide) ?_
        refine B.goto_ 13 dX3_stands_9 (by decide) ?_
        refine B.ireturn dX3_stands_13 rfl rfl ?_
        show B g MX7_potsOf 0 0 38 [(0, .ref r0), (1, .int x1), (2, .int x2), (3, .int x3), (4, .int x4)] [.int 1] S P I _
        refine B.if_ne 45 dX7_potsOf_38 (by decide) (fun _ => ?_) (fun q => absurd q (by decide))
        refine B.iinc (lv' := [(0, .ref r0), (1, .int x1), (2, .int x2), (3, .int (x3 + 1)), (4, .int x4)]) 3 (x3 + 1) dX7_potsOf_45 rfl rfl (by decide) rfl ?_
        refine B.iinc (lv' := [(0, .ref r0), (1, .int x1), (2, .int x2), (3, .int (x3 + 1)), (4, .int (x4 + 1))]) 4 (x4 + 1) dX7_potsOf_48 rfl rfl (by decide) rfl ?_
        refine B.goto_ 5 dX7_potsOf_51 (by decide) ?_
        exact h
theorem s_X7_dryWaiting_0 {g : GT} {S : ST} {P : PT} {I : IT} {Q : QT} {r0 : Nat} {x1 : Int32} (h : B g MX7_dryWaiting 0 0 2 [(0, .ref r0), (1, .int x1), (2, .int 0)] [] S P I Q) : B g MX7_dryWaiting 0 0 0 [(0, .ref r0), (1, .int x1)] [] S P I Q := by
  refine B.iconst 0 dX7_dryWaiting_0 (by decide) ?_
  refine B.istore_n (lv' := [(0, .ref r0), (1, .int x1), (2, .int 0)]) dX7_dryWaiting_1 rfl (by decide) rfl ?_
  exact h
theorem s_X7_dryWaiting_2 {g : GT} {S : ST} {P : PT} {I : IT} {Q : QT} {r0 : Nat} {x1 : Int32} {x2 : Int32} (h : sT S r0 = 8 ∧ (((I r0 11) ≤ x2 → Q none S P I) ∧ (¬ (I r0 11) ≤ x2 → ∃ b3, P r0 10 = b3 + 1 ∧ sT S b3 = 44 ∧ ∃ j6, ix x2 j6 (sL S b3) ∧ ∃ b8, P b3 j6 = b8 + 1 ∧ sT S b8 = 4 ∧ (((I b8 4) = (-1) → B g MX7_dryWaiting 0 0 2 [(0, .ref r0), (1, .int x1), (2, .int (x2 + 1))] [] S P (u2 I b8 3 (imax 0 ((I b8 3) - x1))) Q) ∧ (¬ (I b8 4) = (-1) → B g MX7_dryWaiting 0 0 2 [(0, .ref r0), (1, .int x1), (2, .int (x2 + 1))] [] S P I Q))))) : B g MX7_dryWaiting 0 0 2 [(0, .ref r0), (1, .int x1), (2, .int x2)] [] S P I Q := by
  refine B.iload_n 2 dX7_dryWaiting_2 rfl rfl ?_
  refine B.aload_n 0 dX7_dryWaiting_3 rfl rfl ?_
  obtain ⟨t1, h⟩ := h
  refine B.getI dX7_dryWaiting_4 fl_7_64 t1 ?_
  refine B.icmp_ge 52 dX7_dryWaiting_7 (by decide) (fun q2 => ?_) (fun q2 => ?_)
  · replace h := h.1 q2
    refine B.return_ dX7_dryWaiting_52 rfl ?_
    exact h
  · replace h := h.2 q2
    refine B.aload_n 0 dX7_dryWaiting_10 rfl rfl ?_
    obtain ⟨b3, h⟩ := h
    obtain ⟨t4, h⟩ := h
    refine B.getP dX7_dryWaiting_11 fl_7_60 t1 t4 ?_
    refine B.iload_n 2 dX7_dryWaiting_14 rfl rfl ?_
    obtain ⟨t5, h⟩ := h
    obtain ⟨j6, h⟩ := h
    obtain ⟨t7, h⟩ := h
    obtain ⟨b8, h⟩ := h
    obtain ⟨t9, h⟩ := h
    refine B.aaload 4 (by decide) dX7_dryWaiting_15 t5 t7 t9 ?_
    obtain ⟨t10, h⟩ := h
    refine B.callV (M' := MX3_stands) (rc := 0) (rs := 0) (mc := 0) (ms := 0) (st := []) [] dX7_dryWaiting_16 mv_X3_stands lk_X7_98 ⟨Nat.le_of_ble_eq_true rfl, Nat.le_of_ble_eq_true rfl⟩ rfl rfl (Nat.le_of_ble_eq_true rfl) t10 ?_
    refine T_of rfl (Nat.le_of_ble_eq_true rfl) ?_
    show B g MX3_stands 0 0 0 [(0, .ref b8)] [] S P I _
    refine B.aload_n 0 dX3_stands_0 rfl rfl ?_
    refine B.getI dX3_stands_1 fl_3_24 t10 ?_
    refine B.iconst (-1) dX3_stands_4 (by decide) ?_
    refine B.icmp_eq 12 dX3_stands_5 (by decide) (fun q11 => ?_) (fun q11 => ?_)
    · replace h := h.1 q11
      refine B.iconst 0 dX3_stands_12 (by decide) ?_
      refine B.ireturn dX3_stands_13 rfl rfl ?_
      show B g MX7_dryWaiting 0 0 19 [(0, .ref r0), (1, .int x1), (2, .int x2)] [.int 0] S P I _
      refine B.if_ne 46 dX7_dryWaiting_19 (by decide) (fun q => absurd q (by decide)) (fun _ => ?_)
      refine B.aload_n 0 dX7_dryWaiting_22 rfl rfl ?_
      refine B.getP dX7_dryWaiting_23 fl_7_60 t1 t4 ?_
      refine B.iload_n 2 dX7_dryWaiting_26 rfl rfl ?_
      refine B.aaload 4 (by decide) dX7_dryWaiting_27 t5 t7 t9 ?_
      refine B.iconst 0 dX7_dryWaiting_28 (by decide) ?_
      refine B.aload_n 0 dX7_dryWaiting_29 rfl rfl ?_
      refine B.getP dX7_dryWaiting_30 fl_7_60 t1 t4 ?_
      refine B.iload_n 2 dX7_dryWaiting_33 rfl rfl ?_
      refine B.aaload 4 (by decide) dX7_dryWaiting_34 t5 t7 t9 ?_
      refine B.getI dX7_dryWaiting_35 fl_7_105 t10 ?_
      refine B.iload_n 1 dX7_dryWaiting_38 rfl rfl ?_
      refine B.isub dX7_dryWaiting_39 ?_
      refine B.mmax dX7_dryWaiting_40 lk_X7_108 (by decide) (by decide) (Nat.le_of_ble_eq_true rfl) ?_
      refine B.putI dX7_dryWaiting_43 fw_7_105 t10 ?_
      refine B.iinc (lv' := [(0, .ref r0), (1, .int x1), (2, .int (x2 + 1))]) 2 (x2 + 1) dX7_dryWaiting_46 rfl rfl (by decide) rfl ?_
      refine B.goto_ 2 dX7_dryWaiting_49 (by decide) ?_
      exact h
    · replace h := h.2 q11
      refine B.iconst 1 dX3_stands_8 (by decide) ?_
      refine B.goto_ 13 dX3_stands_9 (by decide) ?_
      refine B.ireturn dX3_stands_13 rfl rfl ?_
      show B g MX7_dryWaiting 0 0 19 [(0, .ref r0), (1, .int x1), (2, .int x2)] [.int 1] S P I _
      refine B.if_ne 46 dX7_dryWaiting_19 (by decide) (fun _ => ?_) (fun q => absurd q (by decide))
      refine B.iinc (lv' := [(0, .ref r0), (1, .int x1), (2, .int (x2 + 1))]) 2 (x2 + 1) dX7_dryWaiting_46 rfl rfl (by decide) rfl ?_
      refine B.goto_ 2 dX7_dryWaiting_49 (by decide) ?_
      exact h
theorem s_X7_dealPlaces_0 {g : GT} {S : ST} {P : PT} {I : IT} {Q : QT} {r0 : Nat} (h : B g MX7_dealPlaces 0 0 4 [(0, .ref r0), (1, .int 0), (2, .int 0)] [] S P I Q) : B g MX7_dealPlaces 0 0 0 [(0, .ref r0)] [] S P I Q := by
  refine B.iconst 0 dX7_dealPlaces_0 (by decide) ?_
  refine B.istore_n (lv' := [(0, .ref r0), (1, .int 0)]) dX7_dealPlaces_1 rfl (by decide) rfl ?_
  refine B.iconst 0 dX7_dealPlaces_2 (by decide) ?_
  refine B.istore_n (lv' := [(0, .ref r0), (1, .int 0), (2, .int 0)]) dX7_dealPlaces_3 rfl (by decide) rfl ?_
  exact h
theorem s_X7_dealPlaces_4 {g : GT} {S : ST} {P : PT} {I : IT} {Q : QT} {r0 : Nat} {x1 : Int32} {x2 : Int32} (h : ((24 ≤ x2 → Q (some (.int x1)) S P I) ∧ (¬ 24 ≤ x2 → sT S r0 = 8 ∧ ∃ b3, P r0 9 = b3 + 1 ∧ sT S b3 = 3 ∧ T g MX2_bestFreePlace 0 0 [.ref b3] S P I (fun r S' P' I' => B g MX7_dealPlaces 0 0 17 [(0, .ref r0), (1, .int x1), (2, .int x2)] (r.toList ++ []) S' P' I' Q)))) : B g MX7_dealPlaces 0 0 4 [(0, .ref r0), (1, .int x1), (2, .int x2)] [] S P I Q := by
  refine B.iload_n 2 dX7_dealPlaces_4 rfl rfl ?_
  refine B.bipush 24 dX7_dealPlaces_5 (by decide) ?_
  refine B.icmp_ge 116 dX7_dealPlaces_7 (by decide) (fun q1 => ?_) (fun q1 => ?_)
  · replace h := h.1 q1
    refine B.iload_n 1 dX7_dealPlaces_116 rfl rfl ?_
    refine B.ireturn dX7_dealPlaces_117 rfl rfl ?_
    exact h
  · replace h := h.2 q1
    refine B.aload_n 0 dX7_dealPlaces_10 rfl rfl ?_
    obtain ⟨t2, h⟩ := h
    obtain ⟨b3, h⟩ := h
    obtain ⟨t4, h⟩ := h
    refine B.getP dX7_dealPlaces_11 fl_7_54 t2 t4 ?_
    obtain ⟨t5, h⟩ := h
    refine B.callV (M' := MX2_bestFreePlace) (rc := 0) (rs := 0) (mc := 0) (ms := 0) (st := []) [] dX7_dealPlaces_14 mv_X2_bestFreePlace lk_X7_114 ⟨Nat.le_of_ble_eq_true rfl, Nat.le_of_ble_eq_true rfl⟩ rfl rfl (Nat.le_of_ble_eq_true rfl) t5 ?_
    exact h
theorem s_X7_dealPlaces_17 {g : GT} {S : ST} {P : PT} {I : IT} {Q : QT} {r0 : Nat} {x1 : Int32} {x2 : Int32} {w_s0 : Int32} (h : sT S r0 = 8 ∧ T g MX7_nextPot 0 0 [.ref r0] S P I (fun r S' P' I' => B g MX7_dealPlaces 0 0 22 [(0, .ref r0), (1, .int x1), (2, .int x2), (3, .int w_s0)] (r.toList ++ []) S' P' I' Q)) : B g MX7_dealPlaces 0 0 17 [(0, .ref r0), (1, .int x1), (2, .int x2)] [.int w_s0] S P I Q := by
  refine B.istore_n (lv' := [(0, .ref r0), (1, .int x1), (2, .int x2), (3, .int w_s0)]) dX7_dealPlaces_17 rfl (by decide) rfl ?_
  refine B.aload_n 0 dX7_dealPlaces_18 rfl rfl ?_
  obtain ⟨t1, h⟩ := h
  refine B.callV (M' := MX7_nextPot) (rc := 0) (rs := 0) (mc := 0) (ms := 0) (st := []) [] dX7_dealPlaces_19 mv_X7_nextPot lk_X7_118 ⟨Nat.le_of_ble_eq_true rfl, Nat.le_of_ble_eq_true rfl⟩ rfl rfl (Nat.le_of_ble_eq_true rfl) t1 ?_
  exact h
theorem s_X7_dealPlaces_22 {g : GT} {S : ST} {P : PT} {I : IT} {Q : QT} {r0 : Nat} {x1 : Int32} {x2 : Int32} {x3 : Int32} {w_s0 : Int32} (h : ((x3 = (-1) → Q (some (.int x1)) S P I) ∧ (¬ x3 = (-1) → ((¬ w_s0 = (-1) → sT S r0 = 8 ∧ ∃ b4, P r0 9 = b4 + 1 ∧ sT S b4 = 3 ∧ ∃ b7, P b4 6 = b7 + 1 ∧ sT S b7 = 40 ∧ ∃ j10, ix x3 j10 (sL S b7) ∧ ∃ b12, P r0 10 = b12 + 1 ∧ sT S b12 = 44 ∧ ∃ j15, ix w_s0 j15 (sL S b12) ∧ ∃ b17, P b12 j15 = b17 + 1 ∧ sT S b17 = 4 ∧ ∃ b20, P r0 4 = b20 + 1 ∧ sT S b20 = 43 ∧ ∃ j23, ix ((u2 I b7 j10 w_s0) b17 0) j23 (sL S b20) ∧ ∃ b25, P b20 j23 = b25 + 1 ∧ sT S b25 = 2 ∧ ∃ b28, P b4 5 = b28 + 1 ∧ sT S b28 = 40 ∧ ∃ j31, ix x3 j31 (sL S b28) ∧ B g MX7_dealPlaces 0 0 4 [(0, .ref r0), (1, .int (x1 + 1)), (2, .int (x2 + 1))] [] S P (u2 (u2 (u2 (u2 I b7 j10 w_s0) b17 4 (x3 / 4)) b17 5 (x3 - (x3 / 4) * 4)) b25 1 (((u2 I b7 j10 w_s0) b25 1) + ((u2 (u2 (u2 I b7 j10 w_s0) b17 4 (x3 / 4)) b17 5 (x3 - (x3 / 4) * 4)) b28 j31))) Q) ∧ (w_s0 = (-1) → Q (some (.int x1)) S P I))))) : B g MX7_dealPlaces 0 0 22 [(0, .ref r0), (1, .int x1), (2, .int x2), (3, .int x3)] [.int w_s0] S P I Q := by
  refine B.istore (lv' := [(0, .ref r0), (1, .int x1), (2, .int x2), (3, .int x3), (4, .int w_s0)]) dX7_dealPlaces_22 (by decide) rfl ?_
  refine B.iload_n 3 dX7_dealPlaces_24 rfl rfl ?_
  refine B.iconst (-1) dX7_dealPlaces_25 (by decide) ?_
  refine B.icmp_eq 116 dX7_dealPlaces_26 (by decide) (fun q1 => ?_) (fun q1 => ?_)
  · replace h := h.1 q1
    refine B.iload_n 1 dX7_dealPlaces_116 rfl rfl ?_
    refine B.ireturn dX7_dealPlaces_117 rfl rfl ?_
    exact h
  · replace h := h.2 q1
    refine B.iload 4 dX7_dealPlaces_29 rfl ?_
    refine B.iconst (-1) dX7_dealPlaces_31 (by decide) ?_
    refine B.icmp_ne 38 dX7_dealPlaces_32 (by decide) (fun q2 => ?_) (fun q2 => ?_)
    · replace h := h.1 q2
      refine B.aload_n 0 dX7_dealPlaces_38 rfl rfl ?_
      obtain ⟨t3, h⟩ := h
      obtain ⟨b4, h⟩ := h
      obtain ⟨t5, h⟩ := h
      refine B.getP dX7_dealPlaces_39 fl_7_54 t3 t5 ?_
      obtain ⟨t6, h⟩ := h
      obtain ⟨b7, h⟩ := h
      obtain ⟨t8, h⟩ := h
      refine B.getP dX7_dealPlaces_42 fl_7_121 t6 t8 ?_
      refine B.iload_n 3 dX7_dealPlaces_45 rfl rfl ?_
      refine B.iload 4 dX7_dealPlaces_46 rfl ?_
      obtain ⟨t9, h⟩ := h
      obtain ⟨j10, h⟩ := h
      obtain ⟨t11, h⟩ := h
      refine B.iastore dX7_dealPlaces_48 t9 t11 ?_
      refine B.aload_n 0 dX7_dealPlaces_49 rfl rfl ?_
      obtain ⟨b12, h⟩ := h
      obtain ⟨t13, h⟩ := h
      refine B.getP dX7_dealPlaces_50 fl_7_60 t3 t13 ?_
      refine B.iload 4 dX7_dealPlaces_53 rfl ?_
      obtain ⟨t14, h⟩ := h
      obtain ⟨j15, h⟩ := h
      obtain ⟨t16, h⟩ := h
      obtain ⟨b17, h⟩ := h
      obtain ⟨t18, h⟩ := h
      refine B.aaload 4 (by decide) dX7_dealPlaces_55 t14 t16 t18 ?_
      refine B.iload_n 3 dX7_dealPlaces_56 rfl rfl ?_
      refine B.iconst 4 dX7_dealPlaces_57 (by decide) ?_
      refine B.idiv dX7_dealPlaces_58 (by decide) ?_
      obtain ⟨t19, h⟩ := h
      refine B.putI dX7_dealPlaces_59 fw_7_124 t19 ?_
      refine B.aload_n 0 dX7_dealPlaces_62 rfl rfl ?_
      refine B.getP dX7_dealPlaces_63 fl_7_60 t3 t13 ?_
      refine B.iload 4 dX7_dealPlaces_66 rfl ?_
      refine B.aaload 4 (by decide) dX7_dealPlaces_68 t14 t16 t18 ?_
      refine B.iload_n 3 dX7_dealPlaces_69 rfl rfl ?_
      refine B.iconst 4 dX7_dealPlaces_70 (by decide) ?_
      refine B.irem dX7_dealPlaces_71 (by decide) ?_
      refine B.putI dX7_dealPlaces_72 fw_7_127 t19 ?_
      refine B.aload_n 0 dX7_dealPlaces_75 rfl rfl ?_
      obtain ⟨b20, h⟩ := h
      obtain ⟨t21, h⟩ := h
      refine B.getP dX7_dealPlaces_76 fl_7_34 t3 t21 ?_
      refine B.aload_n 0 dX7_dealPlaces_79 rfl rfl ?_
      refine B.getP dX7_dealPlaces_80 fl_7_60 t3 t13 ?_
      refine B.iload 4 dX7_dealPlaces_83 rfl ?_
      refine B.aaload 4 (by decide) dX7_dealPlaces_85 t14 t16 t18 ?_
      refine B.getI dX7_dealPlaces_86 fl_7_102 t19 ?_
      rw [u2_k (I := (u2 (u2 I b7 j10 w_s0) b17 4 (x3 / 4))) (a := b17) (k := 5) (b := b17) (j := 0) (x := (x3 - (x3 / 4) * 4)) (by decide)]
      rw [u2_k (I := (u2 I b7 j10 w_s0)) (a := b17) (k := 4) (b := b17) (j := 0) (x := (x3 / 4)) (by decide)]
      obtain ⟨t22, h⟩ := h
      obtain ⟨j23, h⟩ := h
      obtain ⟨t24, h⟩ := h
      obtain ⟨b25, h⟩ := h
      obtain ⟨t26, h⟩ := h
      refine B.aaload 3 (by decide) dX7_dealPlaces_89 t22 t24 t26 ?_
      refine B.dup dX7_dealPlaces_90 rfl ?_
      obtain ⟨t27, h⟩ := h
      refine B.getI dX7_dealPlaces_91 fl_7_130 t27 ?_
      rw [u2_k (I := (u2 (u2 I b7 j10 w_s0) b17 4 (x3 / 4))) (a := b17) (k := 5) (b := b25) (j := 1) (x := (x3 - (x3 / 4) * 4)) (by decide)]
      rw [u2_k (I := (u2 I b7 j10 w_s0)) (a := b17) (k := 4) (b := b25) (j := 1) (x := (x3 / 4)) (by decide)]
      refine B.aload_n 0 dX7_dealPlaces_94 rfl rfl ?_
      refine B.getP dX7_dealPlaces_95 fl_7_54 t3 t5 ?_
      obtain ⟨b28, h⟩ := h
      obtain ⟨t29, h⟩ := h
      refine B.getP dX7_dealPlaces_98 fl_7_133 t6 t29 ?_
      refine B.iload_n 3 dX7_dealPlaces_101 rfl rfl ?_
      obtain ⟨t30, h⟩ := h
      obtain ⟨j31, h⟩ := h
      obtain ⟨t32, h⟩ := h
      refine B.iaload dX7_dealPlaces_102 t30 t32 ?_
      refine B.iadd dX7_dealPlaces_103 ?_
      refine B.putI dX7_dealPlaces_104 fw_7_130 t27 ?_
      refine B.iinc (lv' := [(0, .ref r0), (1, .int (x1 + 1)), (2, .int x2), (3, .int x3), (4, .int w_s0)]) 1 (x1 + 1) dX7_dealPlaces_107 rfl rfl (by decide) rfl ?_
      refine B.iinc (lv' := [(0, .ref r0), (1, .int (x1 + 1)), (2, .int (x2 + 1)), (3, .int x3), (4, .int w_s0)]) 2 (x2 + 1) dX7_dealPlaces_110 rfl rfl (by decide) rfl ?_
      refine B.goto_ 4 dX7_dealPlaces_113 (by decide) ?_
      refine B.lvs [(0, .ref r0), (1, .int (x1 + 1)), (2, .int (x2 + 1))] [0, 1, 2] rfl ?_
      exact h
    · replace h := h.2 q2
      refine B.goto_ 116 dX7_dealPlaces_35 (by decide) ?_
      refine B.iload_n 1 dX7_dealPlaces_116 rfl rfl ?_
      refine B.ireturn dX7_dealPlaces_117 rfl rfl ?_
      exact h
theorem s_X7_nextPot_0 {g : GT} {S : ST} {P : PT} {I : IT} {Q : QT} {r0 : Nat} (h : B g MX7_nextPot 0 0 4 [(0, .ref r0), (1, .int (-1)), (2, .int 0)] [] S P I Q) : B g MX7_nextPot 0 0 0 [(0, .ref r0)] [] S P I Q := by
  refine B.iconst (-1) dX7_nextPot_0 (by decide) ?_
  refine B.istore_n (lv' := [(0, .ref r0), (1, .int (-1))]) dX7_nextPot_1 rfl (by decide) rfl ?_
  refine B.iconst 0 dX7_nextPot_2 (by decide) ?_
  refine B.istore_n (lv' := [(0, .ref r0), (1, .int (-1)), (2, .int 0)]) dX7_nextPot_3 rfl (by decide) rfl ?_
  exact h
theorem s_X7_nextPot_4 {g : GT} {S : ST} {P : PT} {I : IT} {Q : QT} {r0 : Nat} {x1 : Int32} {x2 : Int32} (h : sT S r0 = 8 ∧ (((I r0 11) ≤ x2 → Q (some (.int x1)) S P I) ∧ (¬ (I r0 11) ≤ x2 → ∃ b3, P r0 10 = b3 + 1 ∧ sT S b3 = 44 ∧ ∃ j6, ix x2 j6 (sL S b3) ∧ ∃ b8, P b3 j6 = b8 + 1 ∧ sT S b8 = 4 ∧ (((I b8 4) = (-1) → ((x1 = (-1) → B g MX7_nextPot 0 0 4 [(0, .ref r0), (1, .int x2), (2, .int (x2 + 1))] [] S P I Q) ∧ (¬ x1 = (-1) → ∃ j13, ix x1 j13 (sL S b3) ∧ ∃ b15, P b3 j13 = b15 + 1 ∧ sT S b15 = 4 ∧ T g MX7_goesBefore 0 0 [.ref r0, .int (I b8 0), .int (I b15 0)] S P I (fun r S' P' I' => B g MX7_nextPot 0 0 51 [(0, .ref r0), (1, .int x1), (2, .int x2)] (r.toList ++ []) S' P' I' Q)))) ∧ (¬ (I b8 4) = (-1) → B g MX7_nextPot 0 0 4 [(0, .ref r0), (1, .int x1), (2, .int (x2 + 1))] [] S P I Q))))) : B g MX7_nextPot 0 0 4 [(0, .ref r0), (1, .int x1), (2, .int x2)] [] S P I Q := by
  refine B.iload_n 2 dX7_nextPot_4 rfl rfl ?_
  refine B.aload_n 0 dX7_nextPot_5 rfl rfl ?_
  obtain ⟨t1, h⟩ := h
  refine B.getI dX7_nextPot_6 fl_7_64 t1 ?_
  refine B.icmp_ge 62 dX7_nextPot_9 (by decide) (fun q2 => ?_) (fun q2 => ?_)
  · replace h := h.1 q2
    refine B.iload_n 1 dX7_nextPot_62 rfl rfl ?_
    refine B.ireturn dX7_nextPot_63 rfl rfl ?_
    exact h
  · replace h := h.2 q2
    refine B.aload_n 0 dX7_nextPot_12 rfl rfl ?_
    obtain ⟨b3, h⟩ := h
    obtain ⟨t4, h⟩ := h
    refine B.getP dX7_nextPot_13 fl_7_60 t1 t4 ?_
    refine B.iload_n 2 dX7_nextPot_16 rfl rfl ?_
    obtain ⟨t5, h⟩ := h
    obtain ⟨j6, h⟩ := h
    obtain ⟨t7, h⟩ := h
    obtain ⟨b8, h⟩ := h
    obtain ⟨t9, h⟩ := h
    refine B.aaload 4 (by decide) dX7_nextPot_17 t5 t7 t9 ?_
    obtain ⟨t10, h⟩ := h
    refine B.callV (M' := MX3_stands) (rc := 0) (rs := 0) (mc := 0) (ms := 0) (st := []) [] dX7_nextPot_18 mv_X3_stands lk_X7_98 ⟨Nat.le_of_ble_eq_true rfl, Nat.le_of_ble_eq_true rfl⟩ rfl rfl (Nat.le_of_ble_eq_true rfl) t10 ?_
    refine T_of rfl (Nat.le_of_ble_eq_true rfl) ?_
    show B g MX3_stands 0 0 0 [(0, .ref b8)] [] S P I _
    refine B.aload_n 0 dX3_stands_0 rfl rfl ?_
    refine B.getI dX3_stands_1 fl_3_24 t10 ?_
    refine B.iconst (-1) dX3_stands_4 (by decide) ?_
    refine B.icmp_eq 12 dX3_stands_5 (by decide) (fun q11 => ?_) (fun q11 => ?_)
    · replace h := h.1 q11
      refine B.iconst 0 dX3_stands_12 (by decide) ?_
      refine B.ireturn dX3_stands_13 rfl rfl ?_
      show B g MX7_nextPot 0 0 21 [(0, .ref r0), (1, .int x1), (2, .int x2)] [.int 0] S P I _
      refine B.if_ne 56 dX7_nextPot_21 (by decide) (fun q => absurd q (by decide)) (fun _ => ?_)
      refine B.iload_n 1 dX7_nextPot_24 rfl rfl ?_
      refine B.iconst (-1) dX7_nextPot_25 (by decide) ?_
      refine B.icmp_eq 54 dX7_nextPot_26 (by decide) (fun q12 => ?_) (fun q12 => ?_)
      · replace h := h.1 q12
        refine B.iload_n 2 dX7_nextPot_54 rfl rfl ?_
        refine B.istore_n (lv' := [(0, .ref r0), (1, .int x2), (2, .int x2)]) dX7_nextPot_55 rfl (by decide) rfl ?_
        refine B.iinc (lv' := [(0, .ref r0), (1, .int x2), (2, .int (x2 + 1))]) 2 (x2 + 1) dX7_nextPot_56 rfl rfl (by decide) rfl ?_
        refine B.goto_ 4 dX7_nextPot_59 (by decide) ?_
        exact h
      · replace h := h.2 q12
        refine B.aload_n 0 dX7_nextPot_29 rfl rfl ?_
        refine B.aload_n 0 dX7_nextPot_30 rfl rfl ?_
        refine B.getP dX7_nextPot_31 fl_7_60 t1 t4 ?_
        refine B.iload_n 2 dX7_nextPot_34 rfl rfl ?_
        refine B.aaload 4 (by decide) dX7_nextPot_35 t5 t7 t9 ?_
        refine B.getI dX7_nextPot_36 fl_7_102 t10 ?_
        refine B.aload_n 0 dX7_nextPot_39 rfl rfl ?_
        refine B.getP dX7_nextPot_40 fl_7_60 t1 t4 ?_
        refine B.iload_n 1 dX7_nextPot_43 rfl rfl ?_
        obtain ⟨j13, h⟩ := h
        obtain ⟨t14, h⟩ := h
        obtain ⟨b15, h⟩ := h
        obtain ⟨t16, h⟩ := h
        refine B.aaload 4 (by decide) dX7_nextPot_44 t5 t14 t16 ?_
        obtain ⟨t17, h⟩ := h
        refine B.getI dX7_nextPot_45 fl_7_102 t17 ?_
        refine B.callV (M' := MX7_goesBefore) (rc := 0) (rs := 0) (mc := 0) (ms := 0) (st := []) [.int (I b8 0), .int (I b15 0)] dX7_nextPot_48 mv_X7_goesBefore lk_X7_136 ⟨Nat.le_of_ble_eq_true rfl, Nat.le_of_ble_eq_true rfl⟩ rfl rfl (Nat.le_of_ble_eq_true rfl) t1 ?_
        exact h
    · replace h := h.2 q11
      refine B.iconst 1 dX3_stands_8 (by decide) ?_
      refine B.goto_ 13 dX3_stands_9 (by decide) ?_
      refine B.ireturn dX3_stands_13 rfl rfl ?_
      show B g MX7_nextPot 0 0 21 [(0, .ref r0), (1, .int x1), (2, .int x2)] [.int 1] S P I _
      refine B.if_ne 56 dX7_nextPot_21 (by decide) (fun _ => ?_) (fun q => absurd q (by decide))
      refine B.iinc (lv' := [(0, .ref r0), (1, .int x1), (2, .int (x2 + 1))]) 2 (x2 + 1) dX7_nextPot_56 rfl rfl (by decide) rfl ?_
      refine B.goto_ 4 dX7_nextPot_59 (by decide) ?_
      exact h
theorem s_X7_nextPot_51 {g : GT} {S : ST} {P : PT} {I : IT} {Q : QT} {r0 : Nat} {x1 : Int32} {x2 : Int32} {w_s0 : Int32} (h : ((w_s0 = 0 → B g MX7_nextPot 0 0 4 [(0, .ref r0), (1, .int x1), (2, .int (x2 + 1))] [] S P I Q) ∧ (¬ w_s0 = 0 → B g MX7_nextPot 0 0 4 [(0, .ref r0), (1, .int x2), (2, .int (x2 + 1))] [] S P I Q))) : B g MX7_nextPot 0 0 51 [(0, .ref r0), (1, .int x1), (2, .int x2)] [.int w_s0] S P I Q := by
  refine B.if_eq 56 dX7_nextPot_51 (by decide) (fun q1 => ?_) (fun q1 => ?_)
  · replace h := h.1 q1
    refine B.iinc (lv' := [(0, .ref r0), (1, .int x1), (2, .int (x2 + 1))]) 2 (x2 + 1) dX7_nextPot_56 rfl rfl (by decide) rfl ?_
    refine B.goto_ 4 dX7_nextPot_59 (by decide) ?_
    exact h
  · replace h := h.2 q1
    refine B.iload_n 2 dX7_nextPot_54 rfl rfl ?_
    refine B.istore_n (lv' := [(0, .ref r0), (1, .int x2), (2, .int x2)]) dX7_nextPot_55 rfl (by decide) rfl ?_
    refine B.iinc (lv' := [(0, .ref r0), (1, .int x2), (2, .int (x2 + 1))]) 2 (x2 + 1) dX7_nextPot_56 rfl rfl (by decide) rfl ?_
    refine B.goto_ 4 dX7_nextPot_59 (by decide) ?_
    exact h
theorem s_X7_goesBefore_0 {g : GT} {S : ST} {P : PT} {I : IT} {Q : QT} {r0 : Nat} {x1 : Int32} {x2 : Int32} (h : sT S r0 = 8 ∧ ∃ b2, P r0 4 = b2 + 1 ∧ sT S b2 = 43 ∧ ∃ j5, ix x1 j5 (sL S b2) ∧ ∃ b7, P b2 j5 = b7 + 1 ∧ sT S b7 = 2 ∧ ∃ j10, ix x2 j10 (sL S b2) ∧ ∃ b12, P b2 j10 = b12 + 1 ∧ sT S b12 = 2 ∧ (((I b7 1) < (I b12 1) → Q (some (.int 1)) S P I) ∧ (¬ (I b7 1) < (I b12 1) → ((¬ (I b7 1) = (I b12 1) → Q (some (.int 0)) S P I) ∧ ((I b7 1) = (I b12 1) → ((x2 ≤ x1 → Q (some (.int 0)) S P I) ∧ (¬ x2 ≤ x1 → Q (some (.int 1)) S P I))))))) : B g MX7_goesBefore 0 0 0 [(0, .ref r0), (1, .int x1), (2, .int x2)] [] S P I Q := by
  refine B.aload_n 0 dX7_goesBefore_0 rfl rfl ?_
  obtain ⟨t1, h⟩ := h
  obtain ⟨b2, h⟩ := h
  obtain ⟨t3, h⟩ := h
  refine B.getP dX7_goesBefore_1 fl_7_34 t1 t3 ?_
  refine B.iload_n 1 dX7_goesBefore_4 rfl rfl ?_
  obtain ⟨t4, h⟩ := h
  obtain ⟨j5, h⟩ := h
  obtain ⟨t6, h⟩ := h
  obtain ⟨b7, h⟩ := h
  obtain ⟨t8, h⟩ := h
  refine B.aaload 3 (by decide) dX7_goesBefore_5 t4 t6 t8 ?_
  obtain ⟨t9, h⟩ := h
  refine B.getI dX7_goesBefore_6 fl_7_130 t9 ?_
  refine B.istore_n (lv' := [(0, .ref r0), (1, .int x1), (2, .int x2), (3, .int (I b7 1))]) dX7_goesBefore_9 rfl (by decide) rfl ?_
  refine B.aload_n 0 dX7_goesBefore_10 rfl rfl ?_
  refine B.getP dX7_goesBefore_11 fl_7_34 t1 t3 ?_
  refine B.iload_n 2 dX7_goesBefore_14 rfl rfl ?_
  obtain ⟨j10, h⟩ := h
  obtain ⟨t11, h⟩ := h
  obtain ⟨b12, h⟩ := h
  obtain ⟨t13, h⟩ := h
  refine B.aaload 3 (by decide) dX7_goesBefore_15 t4 t11 t13 ?_
  obtain ⟨t14, h⟩ := h
  refine B.getI dX7_goesBefore_16 fl_7_130 t14 ?_
  refine B.istore (lv' := [(0, .ref r0), (1, .int x1), (2, .int x2), (3, .int (I b7 1)), (4, .int (I b12 1))]) dX7_goesBefore_19 (by decide) rfl ?_
  refine B.iload_n 3 dX7_goesBefore_21 rfl rfl ?_
  refine B.iload 4 dX7_goesBefore_22 rfl ?_
  refine B.icmp_lt 38 dX7_goesBefore_24 (by decide) (fun q15 => ?_) (fun q15 => ?_)
  · replace h := h.1 q15
    refine B.iconst 1 dX7_goesBefore_38 (by decide) ?_
    refine B.goto_ 43 dX7_goesBefore_39 (by decide) ?_
    refine B.ireturn dX7_goesBefore_43 rfl rfl ?_
    exact h
  · replace h := h.2 q15
    refine B.iload_n 3 dX7_goesBefore_27 rfl rfl ?_
    refine B.iload 4 dX7_goesBefore_28 rfl ?_
    refine B.icmp_ne 42 dX7_goesBefore_30 (by decide) (fun q16 => ?_) (fun q16 => ?_)
    · replace h := h.1 q16
      refine B.iconst 0 dX7_goesBefore_42 (by decide) ?_
      refine B.ireturn dX7_goesBefore_43 rfl rfl ?_
      exact h
    · replace h := h.2 q16
      refine B.iload_n 1 dX7_goesBefore_33 rfl rfl ?_
      refine B.iload_n 2 dX7_goesBefore_34 rfl rfl ?_
      refine B.icmp_ge 42 dX7_goesBefore_35 (by decide) (fun q17 => ?_) (fun q17 => ?_)
      · replace h := h.1 q17
        refine B.iconst 0 dX7_goesBefore_42 (by decide) ?_
        refine B.ireturn dX7_goesBefore_43 rfl rfl ?_
        exact h
      · replace h := h.2 q17
        refine B.iconst 1 dX7_goesBefore_38 (by decide) ?_
        refine B.goto_ 43 dX7_goesBefore_39 (by decide) ?_
        refine B.ireturn dX7_goesBefore_43 rfl rfl ?_
        exact h
theorem s_X7_spreadOfHad_0 {g : GT} {S : ST} {P : PT} {I : IT} {Q : QT} {r0 : Nat} (h : B g MX7_spreadOfHad 0 0 9 [(0, .ref r0), (1, .int 0), (2, .int 0), (3, .int 0), (4, .int 0)] [] S P I Q) : B g MX7_spreadOfHad 0 0 0 [(0, .ref r0)] [] S P I Q := by
  refine B.iconst 0 dX7_spreadOfHad_0 (by decide) ?_
  refine B.istore_n (lv' := [(0, .ref r0), (1, .int 0)]) dX7_spreadOfHad_1 rfl (by decide) rfl ?_
  refine B.iconst 0 dX7_spreadOfHad_2 (by decide) ?_
  refine B.istore_n (lv' := [(0, .ref r0), (1, .int 0), (2, .int 0)]) dX7_spreadOfHad_3 rfl (by decide) rfl ?_
  refine B.iconst 0 dX7_spreadOfHad_4 (by decide) ?_
  refine B.istore_n (lv' := [(0, .ref r0), (1, .int 0), (2, .int 0), (3, .int 0)]) dX7_spreadOfHad_5 rfl (by decide) rfl ?_
  refine B.iconst 0 dX7_spreadOfHad_6 (by decide) ?_
  refine B.istore (lv' := [(0, .ref r0), (1, .int 0), (2, .int 0), (3, .int 0), (4, .int 0)]) dX7_spreadOfHad_7 (by decide) rfl ?_
  exact h
theorem s_X7_spreadOfHad_9 {g : GT} {S : ST} {P : PT} {I : IT} {Q : QT} {r0 : Nat} {x1 : Int32} {x2 : Int32} {x3 : Int32} {x4 : Int32} (h : sT S r0 = 8 ∧ (((I r0 5) ≤ x4 → Q (some (.int (x3 - x2))) S P I) ∧ (¬ (I r0 5) ≤ x4 → ∃ b3, P r0 4 = b3 + 1 ∧ sT S b3 = 43 ∧ ∃ j6, ix x4 j6 (sL S b3) ∧ ∃ b8, P b3 j6 = b8 + 1 ∧ sT S b8 = 2 ∧ (((I b8 2) = 0 → B g MX7_spreadOfHad 0 0 9 [(0, .ref r0), (1, .int x1), (2, .int x2), (3, .int x3), (4, .int (x4 + 1))] [] S P I Q) ∧ (¬ (I b8 2) = 0 → ((x1 = 0 → B g MX7_spreadOfHad 0 0 9 [(0, .ref r0), (1, .int 1), (2, .int (I b8 1)), (3, .int (imax x3 (I b8 1))), (4, .int (x4 + 1))] [] S P I Q) ∧ (¬ x1 = 0 → B g MX7_spreadOfHad 0 0 9 [(0, .ref r0), (1, .int 1), (2, .int (imin x2 (I b8 1))), (3, .int (imax x3 (I b8 1))), (4, .int (x4 + 1))] [] S P I Q))))))) : B g MX7_spreadOfHad 0 0 9 [(0, .ref r0), (1, .int x1), (2, .int x2), (3, .int x3), (4, .int x4)] [] S P I Q := by
  refine B.iload 4 dX7_spreadOfHad_9 rfl ?_
  refine B.aload_n 0 dX7_spreadOfHad_11 rfl rfl ?_
  obtain ⟨t1, h⟩ := h
  refine B.getI dX7_spreadOfHad_12 fl_7_38 t1 ?_
  refine B.icmp_ge 74 dX7_spreadOfHad_15 (by decide) (fun q2 => ?_) (fun q2 => ?_)
  · replace h := h.1 q2
    refine B.iload_n 3 dX7_spreadOfHad_74 rfl rfl ?_
    refine B.iload_n 2 dX7_spreadOfHad_75 rfl rfl ?_
    refine B.isub dX7_spreadOfHad_76 ?_
    refine B.ireturn dX7_spreadOfHad_77 rfl rfl ?_
    exact h
  · replace h := h.2 q2
    refine B.aload_n 0 dX7_spreadOfHad_18 rfl rfl ?_
    obtain ⟨b3, h⟩ := h
    obtain ⟨t4, h⟩ := h
    refine B.getP dX7_spreadOfHad_19 fl_7_34 t1 t4 ?_
    refine B.iload 4 dX7_spreadOfHad_22 rfl ?_
    obtain ⟨t5, h⟩ := h
    obtain ⟨j6, h⟩ := h
    obtain ⟨t7, h⟩ := h
    obtain ⟨b8, h⟩ := h
    obtain ⟨t9, h⟩ := h
    refine B.aaload 3 (by decide) dX7_spreadOfHad_24 t5 t7 t9 ?_
    obtain ⟨t10, h⟩ := h
    refine B.getI dX7_spreadOfHad_25 fl_7_140 t10 ?_
    refine B.if_eq 68 dX7_spreadOfHad_28 (by decide) (fun q11 => ?_) (fun q11 => ?_)
    · replace h := h.1 q11
      refine B.iinc (lv' := [(0, .ref r0), (1, .int x1), (2, .int x2), (3, .int x3), (4, .int (x4 + 1))]) 4 (x4 + 1) dX7_spreadOfHad_68 rfl rfl (by decide) rfl ?_
      refine B.goto_ 9 dX7_spreadOfHad_71 (by decide) ?_
      exact h
    · replace h := h.2 q11
      refine B.aload_n 0 dX7_spreadOfHad_31 rfl rfl ?_
      refine B.getP dX7_spreadOfHad_32 fl_7_34 t1 t4 ?_
      refine B.iload 4 dX7_spreadOfHad_35 rfl ?_
      refine B.aaload 3 (by decide) dX7_spreadOfHad_37 t5 t7 t9 ?_
      refine B.getI dX7_spreadOfHad_38 fl_7_130 t10 ?_
      refine B.istore (lv' := [(0, .ref r0), (1, .int x1), (2, .int x2), (3, .int x3), (4, .int x4), (5, .int (I b8 1))]) dX7_spreadOfHad_41 (by decide) rfl ?_
      refine B.iload_n 1 dX7_spreadOfHad_43 rfl rfl ?_
      refine B.if_eq 56 dX7_spreadOfHad_44 (by decide) (fun q12 => ?_) (fun q12 => ?_)
      · replace h := h.1 q12
        refine B.iload 5 dX7_spreadOfHad_56 rfl ?_
        refine B.istore_n (lv' := [(0, .ref r0), (1, .int x1), (2, .int (I b8 1)), (3, .int x3), (4, .int x4), (5, .int (I b8 1))]) dX7_spreadOfHad_58 rfl (by decide) rfl ?_
        refine B.iload_n 3 dX7_spreadOfHad_59 rfl rfl ?_
        refine B.iload 5 dX7_spreadOfHad_60 rfl ?_
        refine B.mmax dX7_spreadOfHad_62 lk_X7_108 (by decide) (by decide) (Nat.le_of_ble_eq_true rfl) ?_
        refine B.istore_n (lv' := [(0, .ref r0), (1, .int x1), (2, .int (I b8 1)), (3, .int (imax x3 (I b8 1))), (4, .int x4), (5, .int (I b8 1))]) dX7_spreadOfHad_65 rfl (by decide) rfl ?_
        refine B.iconst 1 dX7_spreadOfHad_66 (by decide) ?_
        refine B.istore_n (lv' := [(0, .ref r0), (1, .int 1), (2, .int (I b8 1)), (3, .int (imax x3 (I b8 1))), (4, .int x4), (5, .int (I b8 1))]) dX7_spreadOfHad_67 rfl (by decide) rfl ?_
        refine B.iinc (lv' := [(0, .ref r0), (1, .int 1), (2, .int (I b8 1)), (3, .int (imax x3 (I b8 1))), (4, .int (x4 + 1)), (5, .int (I b8 1))]) 4 (x4 + 1) dX7_spreadOfHad_68 rfl rfl (by decide) rfl ?_
        refine B.goto_ 9 dX7_spreadOfHad_71 (by decide) ?_
        refine B.lvs [(0, .ref r0), (1, .int 1), (2, .int (I b8 1)), (3, .int (imax x3 (I b8 1))), (4, .int (x4 + 1))] [0, 1, 2, 3, 4] rfl ?_
        exact h
      · replace h := h.2 q12
        refine B.iload_n 2 dX7_spreadOfHad_47 rfl rfl ?_
        refine B.iload 5 dX7_spreadOfHad_48 rfl ?_
        refine B.mmin dX7_spreadOfHad_50 lk_X7_144 (by decide) (by decide) (Nat.le_of_ble_eq_true rfl) ?_
        refine B.goto_ 58 dX7_spreadOfHad_53 (by decide) ?_
        refine B.istore_n (lv' := [(0, .ref r0), (1, .int x1), (2, .int (imin x2 (I b8 1))), (3, .int x3), (4, .int x4), (5, .int (I b8 1))]) dX7_spreadOfHad_58 rfl (by decide) rfl ?_
        refine B.iload_n 3 dX7_spreadOfHad_59 rfl rfl ?_
        refine B.iload 5 dX7_spreadOfHad_60 rfl ?_
        refine B.mmax dX7_spreadOfHad_62 lk_X7_108 (by decide) (by decide) (Nat.le_of_ble_eq_true rfl) ?_
        refine B.istore_n (lv' := [(0, .ref r0), (1, .int x1), (2, .int (imin x2 (I b8 1))), (3, .int (imax x3 (I b8 1))), (4, .int x4), (5, .int (I b8 1))]) dX7_spreadOfHad_65 rfl (by decide) rfl ?_
        refine B.iconst 1 dX7_spreadOfHad_66 (by decide) ?_
        refine B.istore_n (lv' := [(0, .ref r0), (1, .int 1), (2, .int (imin x2 (I b8 1))), (3, .int (imax x3 (I b8 1))), (4, .int x4), (5, .int (I b8 1))]) dX7_spreadOfHad_67 rfl (by decide) rfl ?_
        refine B.iinc (lv' := [(0, .ref r0), (1, .int 1), (2, .int (imin x2 (I b8 1))), (3, .int (imax x3 (I b8 1))), (4, .int (x4 + 1)), (5, .int (I b8 1))]) 4 (x4 + 1) dX7_spreadOfHad_68 rfl rfl (by decide) rfl ?_
        refine B.goto_ 9 dX7_spreadOfHad_71 (by decide) ?_
        refine B.lvs [(0, .ref r0), (1, .int 1), (2, .int (imin x2 (I b8 1))), (3, .int (imax x3 (I b8 1))), (4, .int (x4 + 1))] [0, 1, 2, 3, 4] rfl ?_
        exact h
theorem s_X7_passHour_0 {g : GT} {S : ST} {P : PT} {I : IT} {Q : QT} {r0 : Nat} {x1 : Int32} {x2 : Int32} (h : sT S r0 = 8 ∧ ∃ b2, P r0 9 = b2 + 1 ∧ sT S b2 = 3 ∧ T g MX2_burn 0 0 [.ref b2, .int x1, .int x2] S P I (fun r S' P' I' => B g MX7_passHour 0 0 9 [(0, .ref r0), (1, .int x1), (2, .int x2)] (r.toList ++ []) S' P' I' Q)) : B g MX7_passHour 0 0 0 [(0, .ref r0), (1, .int x1), (2, .int x2)] [] S P I Q := by
  refine B.aload_n 0 dX7_passHour_0 rfl rfl ?_
  obtain ⟨t1, h⟩ := h
  obtain ⟨b2, h⟩ := h
  obtain ⟨t3, h⟩ := h
  refine B.getP dX7_passHour_1 fl_7_54 t1 t3 ?_
  refine B.iload_n 1 dX7_passHour_4 rfl rfl ?_
  refine B.iload_n 2 dX7_passHour_5 rfl rfl ?_
  obtain ⟨t4, h⟩ := h
  refine B.callV (M' := MX2_burn) (rc := 0) (rs := 0) (mc := 0) (ms := 0) (st := []) [.int x1, .int x2] dX7_passHour_6 mv_X2_burn lk_X7_147 ⟨Nat.le_of_ble_eq_true rfl, Nat.le_of_ble_eq_true rfl⟩ rfl rfl (Nat.le_of_ble_eq_true rfl) t4 ?_
  exact h
theorem s_X7_passHour_9 {g : GT} {S : ST} {P : PT} {I : IT} {Q : QT} {r0 : Nat} {x1 : Int32} {x2 : Int32} (h : B g MX7_passHour 0 0 11 [(0, .ref r0), (1, .int x1), (2, .int x2), (3, .int 0)] [] S P I Q) : B g MX7_passHour 0 0 9 [(0, .ref r0), (1, .int x1), (2, .int x2)] [] S P I Q := by
  refine B.iconst 0 dX7_passHour_9 (by decide) ?_
  refine B.istore_n (lv' := [(0, .ref r0), (1, .int x1), (2, .int x2), (3, .int 0)]) dX7_passHour_10 rfl (by decide) rfl ?_
  exact h
theorem s_X7_passHour_11 {g : GT} {S : ST} {P : PT} {I : IT} {Q : QT} {r0 : Nat} {x1 : Int32} {x2 : Int32} {x3 : Int32} (h : sT S r0 = 8 ∧ (((I r0 11) ≤ x3 → Q none S P I) ∧ (¬ (I r0 11) ≤ x3 → ∃ b3, P r0 10 = b3 + 1 ∧ sT S b3 = 44 ∧ ∃ j6, ix x3 j6 (sL S b3) ∧ ∃ b8, P b3 j6 = b8 + 1 ∧ sT S b8 = 4 ∧ (((I b8 4) = (-1) → B g MX7_passHour 0 0 83 [(0, .ref r0), (1, .int x1), (2, .int x2), (3, .int x3), (4, .ref b8)] [] S P I Q) ∧ (¬ (I b8 4) = (-1) → ((¬ (I b8 6) = 0 → B g MX7_passHour 0 0 83 [(0, .ref r0), (1, .int x1), (2, .int x2), (3, .int x3), (4, .ref b8)] [] S P I Q) ∧ ((I b8 6) = 0 → ∃ b13, P r0 9 = b13 + 1 ∧ sT S b13 = 3 ∧ ∃ b16, P b13 3 = b16 + 1 ∧ sT S b16 = 40 ∧ ∃ j19, ix (I b8 4) j19 (sL S b16) ∧ ∃ b21, P b13 4 = b21 + 1 ∧ sT S b21 = 40 ∧ ∃ j24, ix (I b8 4) j24 (sL S b21) ∧ ∃ b26, P r0 7 = b26 + 1 ∧ sT S b26 = 40 ∧ ∃ j29, ix (I b8 1) j29 (sL S b26) ∧ T g MX3_bear 0 0 [.ref b8, .int (I b16 j19), .int (iabs ((I b16 j19) - (I b21 j24))), .int (I b26 j29)] S P I (fun r S' P' I' => B g MX7_passHour 0 0 83 [(0, .ref r0), (1, .int x1), (2, .int x2), (3, .int x3), (4, .ref b8)] (r.toList ++ []) S' P' I' Q)))))))) : B g MX7_passHour 0 0 11 [(0, .ref r0), (1, .int x1), (2, .int x2), (3, .int x3)] [] S P I Q := by
  refine B.iload_n 3 dX7_passHour_11 rfl rfl ?_
  refine B.aload_n 0 dX7_passHour_12 rfl rfl ?_
  obtain ⟨t1, h⟩ := h
  refine B.getI dX7_passHour_13 fl_7_64 t1 ?_
  refine B.icmp_ge 89 dX7_passHour_16 (by decide) (fun q2 => ?_) (fun q2 => ?_)
  · replace h := h.1 q2
    refine B.return_ dX7_passHour_89 rfl ?_
    exact h
  · replace h := h.2 q2
    refine B.aload_n 0 dX7_passHour_19 rfl rfl ?_
    obtain ⟨b3, h⟩ := h
    obtain ⟨t4, h⟩ := h
    refine B.getP dX7_passHour_20 fl_7_60 t1 t4 ?_
    refine B.iload_n 3 dX7_passHour_23 rfl rfl ?_
    obtain ⟨t5, h⟩ := h
    obtain ⟨j6, h⟩ := h
    obtain ⟨t7, h⟩ := h
    obtain ⟨b8, h⟩ := h
    obtain ⟨t9, h⟩ := h
    refine B.aaload 4 (by decide) dX7_passHour_24 t5 t7 t9 ?_
    refine B.astore (lv' := [(0, .ref r0), (1, .int x1), (2, .int x2), (3, .int x3), (4, .ref b8)]) dX7_passHour_25 (by decide) rfl ?_
    refine B.aload 4 dX7_passHour_27 rfl ?_
    obtain ⟨t10, h⟩ := h
    refine B.callV (M' := MX3_stands) (rc := 0) (rs := 0) (mc := 0) (ms := 0) (st := []) [] dX7_passHour_29 mv_X3_stands lk_X7_98 ⟨Nat.le_of_ble_eq_true rfl, Nat.le_of_ble_eq_true rfl⟩ rfl rfl (Nat.le_of_ble_eq_true rfl) t10 ?_
    refine T_of rfl (Nat.le_of_ble_eq_true rfl) ?_
    show B g MX3_stands 0 0 0 [(0, .ref b8)] [] S P I _
    refine B.aload_n 0 dX3_stands_0 rfl rfl ?_
    refine B.getI dX3_stands_1 fl_3_24 t10 ?_
    refine B.iconst (-1) dX3_stands_4 (by decide) ?_
    refine B.icmp_eq 12 dX3_stands_5 (by decide) (fun q11 => ?_) (fun q11 => ?_)
    · replace h := h.1 q11
      refine B.iconst 0 dX3_stands_12 (by decide) ?_
      refine B.ireturn dX3_stands_13 rfl rfl ?_
      show B g MX7_passHour 0 0 32 [(0, .ref r0), (1, .int x1), (2, .int x2), (3, .int x3), (4, .ref b8)] [.int 0] S P I _
      refine B.if_eq 83 dX7_passHour_32 (by decide) (fun _ => ?_) (fun q => absurd q (by decide))
      exact h
    · replace h := h.2 q11
      refine B.iconst 1 dX3_stands_8 (by decide) ?_
      refine B.goto_ 13 dX3_stands_9 (by decide) ?_
      refine B.ireturn dX3_stands_13 rfl rfl ?_
      show B g MX7_passHour 0 0 32 [(0, .ref r0), (1, .int x1), (2, .int x2), (3, .int x3), (4, .ref b8)] [.int 1] S P I _
      refine B.if_eq 83 dX7_passHour_32 (by decide) (fun q => absurd q (by decide)) (fun _ => ?_)
      refine B.aload 4 dX7_passHour_35 rfl ?_
      refine B.getI dX7_passHour_37 fl_7_151 t10 ?_
      refine B.if_ne 83 dX7_passHour_40 (by decide) (fun q12 => ?_) (fun q12 => ?_)
      · replace h := h.1 q12
        exact h
      · replace h := h.2 q12
        refine B.aload 4 dX7_passHour_43 rfl ?_
        refine B.aload_n 0 dX7_passHour_45 rfl rfl ?_
        obtain ⟨b13, h⟩ := h
        obtain ⟨t14, h⟩ := h
        refine B.getP dX7_passHour_46 fl_7_54 t1 t14 ?_
        obtain ⟨t15, h⟩ := h
        obtain ⟨b16, h⟩ := h
        obtain ⟨t17, h⟩ := h
        refine B.getP dX7_passHour_49 fl_7_154 t15 t17 ?_
        refine B.aload 4 dX7_passHour_52 rfl ?_
        refine B.getI dX7_passHour_54 fl_7_124 t10 ?_
        obtain ⟨t18, h⟩ := h
        obtain ⟨j19, h⟩ := h
        obtain ⟨t20, h⟩ := h
        refine B.iaload dX7_passHour_57 t18 t20 ?_
        refine B.aload_n 0 dX7_passHour_58 rfl rfl ?_
        refine B.getP dX7_passHour_59 fl_7_54 t1 t14 ?_
        refine B.aload 4 dX7_passHour_62 rfl ?_
        refine B.getI dX7_passHour_64 fl_7_124 t10 ?_
        refine B.callV (M' := MX2_changeOf) (rc := 0) (rs := 0) (mc := 0) (ms := 0) (st := [.int (I b16 j19), .ref b8]) [.int (I b8 4)] dX7_passHour_67 mv_X2_changeOf lk_X7_157 ⟨Nat.le_of_ble_eq_true rfl, Nat.le_of_ble_eq_true rfl⟩ rfl rfl (Nat.le_of_ble_eq_true rfl) t15 ?_
        refine T_of rfl (Nat.le_of_ble_eq_true rfl) ?_
        show B g MX2_changeOf 0 0 0 [(0, .ref b13), (1, .int (I b8 4))] [] S P I _
        refine B.aload_n 0 dX2_changeOf_0 rfl rfl ?_
        refine B.getP dX2_changeOf_1 fl_2_21 t15 t17 ?_
        refine B.iload_n 1 dX2_changeOf_4 rfl rfl ?_
        refine B.iaload dX2_changeOf_5 t18 t20 ?_
        refine B.aload_n 0 dX2_changeOf_6 rfl rfl ?_
        obtain ⟨b21, h⟩ := h
        obtain ⟨t22, h⟩ := h
        refine B.getP dX2_changeOf_7 fl_2_25 t15 t22 ?_
        refine B.iload_n 1 dX2_changeOf_10 rfl rfl ?_
        obtain ⟨t23, h⟩ := h
        obtain ⟨j24, h⟩ := h
        obtain ⟨t25, h⟩ := h
        refine B.iaload dX2_changeOf_11 t23 t25 ?_
        refine B.isub dX2_changeOf_12 ?_
        refine B.mabs dX2_changeOf_13 lk_X2_55 (by decide) (by decide) (Nat.le_of_ble_eq_true rfl) ?_
        refine B.ireturn dX2_changeOf_16 rfl rfl ?_
        show B g MX7_passHour 0 0 70 [(0, .ref r0), (1, .int x1), (2, .int x2), (3, .int x3), (4, .ref b8)] [.int (iabs ((I b16 j19) - (I b21 j24))), .int (I b16 j19), .ref b8] S P I _
        refine B.aload_n 0 dX7_passHour_70 rfl rfl ?_
        obtain ⟨b26, h⟩ := h
        obtain ⟨t27, h⟩ := h
        refine B.getP dX7_passHour_71 fl_7_45 t1 t27 ?_
        refine B.aload 4 dX7_passHour_74 rfl ?_
        refine B.getI dX7_passHour_76 fl_7_161 t10 ?_
        obtain ⟨t28, h⟩ := h
        obtain ⟨j29, h⟩ := h
        obtain ⟨t30, h⟩ := h
        refine B.iaload dX7_passHour_79 t28 t30 ?_
        refine B.callV (M' := MX3_bear) (rc := 0) (rs := 0) (mc := 0) (ms := 0) (st := []) [.int (I b16 j19), .int (iabs ((I b16 j19) - (I b21 j24))), .int (I b26 j29)] dX7_passHour_80 mv_X3_bear lk_X7_164 ⟨Nat.le_of_ble_eq_true rfl, Nat.le_of_ble_eq_true rfl⟩ rfl rfl (Nat.le_of_ble_eq_true rfl) t10 ?_
        exact h
theorem s_X7_passHour_83 {g : GT} {S : ST} {P : PT} {I : IT} {Q : QT} {r0 : Nat} {x1 : Int32} {x2 : Int32} {x3 : Int32} {r4 : Nat} (h : B g MX7_passHour 0 0 11 [(0, .ref r0), (1, .int x1), (2, .int x2), (3, .int (x3 + 1))] [] S P I Q) : B g MX7_passHour 0 0 83 [(0, .ref r0), (1, .int x1), (2, .int x2), (3, .int x3), (4, .ref r4)] [] S P I Q := by
  refine B.iinc (lv' := [(0, .ref r0), (1, .int x1), (2, .int x2), (3, .int (x3 + 1)), (4, .ref r4)]) 3 (x3 + 1) dX7_passHour_83 rfl rfl (by decide) rfl ?_
  refine B.goto_ 11 dX7_passHour_86 (by decide) ?_
  refine B.lvs [(0, .ref r0), (1, .int x1), (2, .int x2), (3, .int (x3 + 1))] [0, 1, 2, 3] rfl ?_
  exact h
theorem s_X7_giveAllBack_0 {g : GT} {S : ST} {P : PT} {I : IT} {Q : QT} {r0 : Nat} (h : B g MX7_giveAllBack 0 0 6 [(0, .ref r0), (1, .int 0), (2, .int 0), (3, .int 0)] [] S P I Q) : B g MX7_giveAllBack 0 0 0 [(0, .ref r0)] [] S P I Q := by
  refine B.iconst 0 dX7_giveAllBack_0 (by decide) ?_
  refine B.istore_n (lv' := [(0, .ref r0), (1, .int 0)]) dX7_giveAllBack_1 rfl (by decide) rfl ?_
  refine B.iconst 0 dX7_giveAllBack_2 (by decide) ?_
  refine B.istore_n (lv' := [(0, .ref r0), (1, .int 0), (2, .int 0)]) dX7_giveAllBack_3 rfl (by decide) rfl ?_
  refine B.iconst 0 dX7_giveAllBack_4 (by decide) ?_
  refine B.istore_n (lv' := [(0, .ref r0), (1, .int 0), (2, .int 0), (3, .int 0)]) dX7_giveAllBack_5 rfl (by decide) rfl ?_
  exact h
theorem s_X7_giveAllBack_6 {g : GT} {S : ST} {P : PT} {I : IT} {Q : QT} {r0 : Nat} {x1 : Int32} {x2 : Int32} {x3 : Int32} (h : sT S r0 = 8 ∧ (((I r0 11) ≤ x3 → ∃ b3, P r0 9 = b3 + 1 ∧ sT S b3 = 3 ∧ T g MX2_clear 0 0 [.ref b3] S P (u2 I r0 11 x2) (fun r S' P' I' => B g MX7_giveAllBack 0 0 77 [(0, .ref r0), (1, .int x1), (2, .int x2), (3, .int x3)] (r.toList ++ []) S' P' I' Q)) ∧ (¬ (I r0 11) ≤ x3 → ∃ b6, P r0 10 = b6 + 1 ∧ sT S b6 = 44 ∧ ∃ j9, ix x3 j9 (sL S b6) ∧ ∃ b11, P b6 j9 = b11 + 1 ∧ sT S b11 = 4 ∧ (((I b11 4) = (-1) → ∃ j15, ix x2 j15 (sL S b6) ∧ ∃ b17, P b6 j15 = b17 + 1 ∧ sT S b17 = 4 ∧ T g MX3_copyFrom 0 0 [.ref b17, .ref b11] S P I (fun r S' P' I' => B g MX7_giveAllBack 0 0 41 [(0, .ref r0), (1, .int x1), (2, .int x2), (3, .int x3), (4, .ref b11)] (r.toList ++ []) S' P' I' Q)) ∧ (¬ (I b11 4) = (-1) → T g MX7_giveBack 0 0 [.ref r0, .ref b11] S P I (fun r S' P' I' => B g MX7_giveAllBack 0 0 53 [(0, .ref r0), (1, .int x1), (2, .int x2), (3, .int x3), (4, .ref b11)] (r.toList ++ []) S' P' I' Q)))))) : B g MX7_giveAllBack 0 0 6 [(0, .ref r0), (1, .int x1), (2, .int x2), (3, .int x3)] [] S P I Q := by
  refine B.iload_n 3 dX7_giveAllBack_6 rfl rfl ?_
  refine B.aload_n 0 dX7_giveAllBack_7 rfl rfl ?_
  obtain ⟨t1, h⟩ := h
  refine B.getI dX7_giveAllBack_8 fl_7_64 t1 ?_
  refine B.icmp_ge 65 dX7_giveAllBack_11 (by decide) (fun q2 => ?_) (fun q2 => ?_)
  · replace h := h.1 q2
    refine B.aload_n 0 dX7_giveAllBack_65 rfl rfl ?_
    refine B.iload_n 2 dX7_giveAllBack_66 rfl rfl ?_
    refine B.putI dX7_giveAllBack_67 fw_7_64 t1 ?_
    refine B.aload_n 0 dX7_giveAllBack_70 rfl rfl ?_
    obtain ⟨b3, h⟩ := h
    obtain ⟨t4, h⟩ := h
    refine B.getP dX7_giveAllBack_71 fl_7_54 t1 t4 ?_
    obtain ⟨t5, h⟩ := h
    refine B.callV (M' := MX2_clear) (rc := 0) (rs := 0) (mc := 0) (ms := 0) (st := []) [] dX7_giveAllBack_74 mv_X2_clear lk_X7_172 ⟨Nat.le_of_ble_eq_true rfl, Nat.le_of_ble_eq_true rfl⟩ rfl rfl (Nat.le_of_ble_eq_true rfl) t5 ?_
    exact h
  · replace h := h.2 q2
    refine B.aload_n 0 dX7_giveAllBack_14 rfl rfl ?_
    obtain ⟨b6, h⟩ := h
    obtain ⟨t7, h⟩ := h
    refine B.getP dX7_giveAllBack_15 fl_7_60 t1 t7 ?_
    refine B.iload_n 3 dX7_giveAllBack_18 rfl rfl ?_
    obtain ⟨t8, h⟩ := h
    obtain ⟨j9, h⟩ := h
    obtain ⟨t10, h⟩ := h
    obtain ⟨b11, h⟩ := h
    obtain ⟨t12, h⟩ := h
    refine B.aaload 4 (by decide) dX7_giveAllBack_19 t8 t10 t12 ?_
    refine B.astore (lv' := [(0, .ref r0), (1, .int x1), (2, .int x2), (3, .int x3), (4, .ref b11)]) dX7_giveAllBack_20 (by decide) rfl ?_
    refine B.aload 4 dX7_giveAllBack_22 rfl ?_
    obtain ⟨t13, h⟩ := h
    refine B.callV (M' := MX3_stands) (rc := 0) (rs := 0) (mc := 0) (ms := 0) (st := []) [] dX7_giveAllBack_24 mv_X3_stands lk_X7_98 ⟨Nat.le_of_ble_eq_true rfl, Nat.le_of_ble_eq_true rfl⟩ rfl rfl (Nat.le_of_ble_eq_true rfl) t13 ?_
    refine T_of rfl (Nat.le_of_ble_eq_true rfl) ?_
    show B g MX3_stands 0 0 0 [(0, .ref b11)] [] S P I _
    refine B.aload_n 0 dX3_stands_0 rfl rfl ?_
    refine B.getI dX3_stands_1 fl_3_24 t13 ?_
    refine B.iconst (-1) dX3_stands_4 (by decide) ?_
    refine B.icmp_eq 12 dX3_stands_5 (by decide) (fun q14 => ?_) (fun q14 => ?_)
    · replace h := h.1 q14
      refine B.iconst 0 dX3_stands_12 (by decide) ?_
      refine B.ireturn dX3_stands_13 rfl rfl ?_
      show B g MX7_giveAllBack 0 0 27 [(0, .ref r0), (1, .int x1), (2, .int x2), (3, .int x3), (4, .ref b11)] [.int 0] S P I _
      refine B.if_ne 47 dX7_giveAllBack_27 (by decide) (fun q => absurd q (by decide)) (fun _ => ?_)
      refine B.aload_n 0 dX7_giveAllBack_30 rfl rfl ?_
      refine B.getP dX7_giveAllBack_31 fl_7_60 t1 t7 ?_
      refine B.iload_n 2 dX7_giveAllBack_34 rfl rfl ?_
      obtain ⟨j15, h⟩ := h
      obtain ⟨t16, h⟩ := h
      obtain ⟨b17, h⟩ := h
      obtain ⟨t18, h⟩ := h
      refine B.aaload 4 (by decide) dX7_giveAllBack_35 t8 t16 t18 ?_
      refine B.aload 4 dX7_giveAllBack_36 rfl ?_
      obtain ⟨t19, h⟩ := h
      refine B.callV (M' := MX3_copyFrom) (rc := 0) (rs := 0) (mc := 0) (ms := 0) (st := []) [.ref b11] dX7_giveAllBack_38 mv_X3_copyFrom lk_X7_91 ⟨Nat.le_of_ble_eq_true rfl, Nat.le_of_ble_eq_true rfl⟩ rfl rfl (Nat.le_of_ble_eq_true rfl) t19 ?_
      exact h
    · replace h := h.2 q14
      refine B.iconst 1 dX3_stands_8 (by decide) ?_
      refine B.goto_ 13 dX3_stands_9 (by decide) ?_
      refine B.ireturn dX3_stands_13 rfl rfl ?_
      show B g MX7_giveAllBack 0 0 27 [(0, .ref r0), (1, .int x1), (2, .int x2), (3, .int x3), (4, .ref b11)] [.int 1] S P I _
      refine B.if_ne 47 dX7_giveAllBack_27 (by decide) (fun _ => ?_) (fun q => absurd q (by decide))
      refine B.aload_n 0 dX7_giveAllBack_47 rfl rfl ?_
      refine B.aload 4 dX7_giveAllBack_48 rfl ?_
      refine B.callV (M' := MX7_giveBack) (rc := 0) (rs := 0) (mc := 0) (ms := 0) (st := []) [.ref b11] dX7_giveAllBack_50 mv_X7_giveBack lk_X7_168 ⟨Nat.le_of_ble_eq_true rfl, Nat.le_of_ble_eq_true rfl⟩ rfl rfl (Nat.le_of_ble_eq_true rfl) t1 ?_
      exact h
theorem s_X7_giveAllBack_41 {g : GT} {S : ST} {P : PT} {I : IT} {Q : QT} {r0 : Nat} {x1 : Int32} {x2 : Int32} {x3 : Int32} {r4 : Nat} (h : B g MX7_giveAllBack 0 0 6 [(0, .ref r0), (1, .int x1), (2, .int (x2 + 1)), (3, .int (x3 + 1))] [] S P I Q) : B g MX7_giveAllBack 0 0 41 [(0, .ref r0), (1, .int x1), (2, .int x2), (3, .int x3), (4, .ref r4)] [] S P I Q := by
  refine B.iinc (lv' := [(0, .ref r0), (1, .int x1), (2, .int (x2 + 1)), (3, .int x3), (4, .ref r4)]) 2 (x2 + 1) dX7_giveAllBack_41 rfl rfl (by decide) rfl ?_
  refine B.goto_ 59 dX7_giveAllBack_44 (by decide) ?_
  refine B.iinc (lv' := [(0, .ref r0), (1, .int x1), (2, .int (x2 + 1)), (3, .int (x3 + 1)), (4, .ref r4)]) 3 (x3 + 1) dX7_giveAllBack_59 rfl rfl (by decide) rfl ?_
  refine B.goto_ 6 dX7_giveAllBack_62 (by decide) ?_
  refine B.lvs [(0, .ref r0), (1, .int x1), (2, .int (x2 + 1)), (3, .int (x3 + 1))] [0, 1, 2, 3] rfl ?_
  exact h
theorem s_X7_giveAllBack_53 {g : GT} {S : ST} {P : PT} {I : IT} {Q : QT} {r0 : Nat} {x1 : Int32} {x2 : Int32} {x3 : Int32} {r4 : Nat} {w_s0 : Int32} (h : ((w_s0 = 0 → B g MX7_giveAllBack 0 0 6 [(0, .ref r0), (1, .int x1), (2, .int x2), (3, .int (x3 + 1))] [] S P I Q) ∧ (¬ w_s0 = 0 → B g MX7_giveAllBack 0 0 6 [(0, .ref r0), (1, .int (x1 + 1)), (2, .int x2), (3, .int (x3 + 1))] [] S P I Q))) : B g MX7_giveAllBack 0 0 53 [(0, .ref r0), (1, .int x1), (2, .int x2), (3, .int x3), (4, .ref r4)] [.int w_s0] S P I Q := by
  refine B.if_eq 59 dX7_giveAllBack_53 (by decide) (fun q1 => ?_) (fun q1 => ?_)
  · replace h := h.1 q1
    refine B.iinc (lv' := [(0, .ref r0), (1, .int x1), (2, .int x2), (3, .int (x3 + 1)), (4, .ref r4)]) 3 (x3 + 1) dX7_giveAllBack_59 rfl rfl (by decide) rfl ?_
    refine B.goto_ 6 dX7_giveAllBack_62 (by decide) ?_
    refine B.lvs [(0, .ref r0), (1, .int x1), (2, .int x2), (3, .int (x3 + 1))] [0, 1, 2, 3] rfl ?_
    exact h
  · replace h := h.2 q1
    refine B.iinc (lv' := [(0, .ref r0), (1, .int (x1 + 1)), (2, .int x2), (3, .int x3), (4, .ref r4)]) 1 (x1 + 1) dX7_giveAllBack_56 rfl rfl (by decide) rfl ?_
    refine B.iinc (lv' := [(0, .ref r0), (1, .int (x1 + 1)), (2, .int x2), (3, .int (x3 + 1)), (4, .ref r4)]) 3 (x3 + 1) dX7_giveAllBack_59 rfl rfl (by decide) rfl ?_
    refine B.goto_ 6 dX7_giveAllBack_62 (by decide) ?_
    refine B.lvs [(0, .ref r0), (1, .int (x1 + 1)), (2, .int x2), (3, .int (x3 + 1))] [0, 1, 2, 3] rfl ?_
    exact h
theorem s_X7_giveAllBack_77 {g : GT} {S : ST} {P : PT} {I : IT} {Q : QT} {r0 : Nat} {x1 : Int32} {x2 : Int32} {x3 : Int32} (h : sT S r0 = 8 ∧ Q (some (.int x1)) S P (u2 I r0 12 ((I r0 12) + 1))) : B g MX7_giveAllBack 0 0 77 [(0, .ref r0), (1, .int x1), (2, .int x2), (3, .int x3)] [] S P I Q := by
  refine B.aload_n 0 dX7_giveAllBack_77 rfl rfl ?_
  refine B.dup dX7_giveAllBack_78 rfl ?_
  obtain ⟨t1, h⟩ := h
  refine B.getI dX7_giveAllBack_79 fl_7_67 t1 ?_
  refine B.iconst 1 dX7_giveAllBack_82 (by decide) ?_
  refine B.iadd dX7_giveAllBack_83 ?_
  refine B.putI dX7_giveAllBack_84 fw_7_67 t1 ?_
  refine B.iload_n 1 dX7_giveAllBack_87 rfl rfl ?_
  refine B.ireturn dX7_giveAllBack_88 rfl rfl ?_
  exact h
theorem s_X7_giveBack_0 {g : GT} {S : ST} {P : PT} {I : IT} {Q : QT} {r0 : Nat} {r1 : Nat} (h : sT S r0 = 8 ∧ ∃ b2, P r0 4 = b2 + 1 ∧ sT S r1 = 4 ∧ sT S b2 = 43 ∧ ∃ j6, ix (I r1 0) j6 (sL S b2) ∧ ∃ b8, P b2 j6 = b8 + 1 ∧ ∃ b10, P r0 6 = b10 + 1 ∧ sT S b10 = 40 ∧ ∃ j13, ix (I r1 1) j13 (sL S b10) ∧ (((I r1 6) = 0 → T g MX7_isRipe 0 0 [.ref r0, .ref r1] S P I (fun r S' P' I' => B g MX7_giveBack 0 0 62 [(0, .ref r0), (1, .ref r1), (2, .ref b8), (3, .int (I b10 j13))] (r.toList ++ []) S' P' I' Q)) ∧ (¬ (I r1 6) = 0 → sT S b8 = 2 ∧ ∃ b17, P r0 1 = b17 + 1 ∧ sT S b17 = 1 ∧ T g MX0_partFor 0 0 [.ref b17, .ref r1] S P (u2 I b8 3 ((I b8 3) + 1)) (fun r S' P' I' => B g MX7_giveBack 0 0 48 [(0, .ref r0), (1, .ref r1), (2, .ref b8), (3, .int (I b10 j13))] (r.toList ++ [.int (I b10 j13), .ref b8, .ref r0]) S' P' I' Q)))) : B g MX7_giveBack 0 0 0 [(0, .ref r0), (1, .ref r1)] [] S P I Q := by
  refine B.aload_n 0 dX7_giveBack_0 rfl rfl ?_
  obtain ⟨t1, h⟩ := h
  obtain ⟨b2, h⟩ := h
  obtain ⟨t3, h⟩ := h
  refine B.getP dX7_giveBack_1 fl_7_34 t1 t3 ?_
  refine B.aload_n 1 dX7_giveBack_4 rfl rfl ?_
  obtain ⟨t4, h⟩ := h
  refine B.getI dX7_giveBack_5 fl_7_102 t4 ?_
  obtain ⟨t5, h⟩ := h
  obtain ⟨j6, h⟩ := h
  obtain ⟨t7, h⟩ := h
  obtain ⟨b8, h⟩ := h
  obtain ⟨t9, h⟩ := h
  refine B.aaload 3 (by decide) dX7_giveBack_8 t5 t7 t9 ?_
  refine B.astore_n (lv' := [(0, .ref r0), (1, .ref r1), (2, .ref b8)]) dX7_giveBack_9 rfl (by decide) rfl ?_
  refine B.aload_n 0 dX7_giveBack_10 rfl rfl ?_
  obtain ⟨b10, h⟩ := h
  obtain ⟨t11, h⟩ := h
  refine B.getP dX7_giveBack_11 fl_7_41 t1 t11 ?_
  refine B.aload_n 1 dX7_giveBack_14 rfl rfl ?_
  refine B.getI dX7_giveBack_15 fl_7_161 t4 ?_
  obtain ⟨t12, h⟩ := h
  obtain ⟨j13, h⟩ := h
  obtain ⟨t14, h⟩ := h
  refine B.iaload dX7_giveBack_18 t12 t14 ?_
  refine B.istore_n (lv' := [(0, .ref r0), (1, .ref r1), (2, .ref b8), (3, .int (I b10 j13))]) dX7_giveBack_19 rfl (by decide) rfl ?_
  refine B.aload_n 1 dX7_giveBack_20 rfl rfl ?_
  refine B.getI dX7_giveBack_21 fl_7_151 t4 ?_
  refine B.if_eq 57 dX7_giveBack_24 (by decide) (fun q15 => ?_) (fun q15 => ?_)
  · replace h := h.1 q15
    refine B.aload_n 0 dX7_giveBack_57 rfl rfl ?_
    refine B.aload_n 1 dX7_giveBack_58 rfl rfl ?_
    refine B.callV (M' := MX7_isRipe) (rc := 0) (rs := 0) (mc := 0) (ms := 0) (st := []) [.ref r1] dX7_giveBack_59 mv_X7_isRipe lk_X7_186 ⟨Nat.le_of_ble_eq_true rfl, Nat.le_of_ble_eq_true rfl⟩ rfl rfl (Nat.le_of_ble_eq_true rfl) t1 ?_
    exact h
  · replace h := h.2 q15
    refine B.aload_n 2 dX7_giveBack_27 rfl rfl ?_
    refine B.dup dX7_giveBack_28 rfl ?_
    obtain ⟨t16, h⟩ := h
    refine B.getI dX7_giveBack_29 fl_7_175 t16 ?_
    refine B.iconst 1 dX7_giveBack_32 (by decide) ?_
    refine B.iadd dX7_giveBack_33 ?_
    refine B.putI dX7_giveBack_34 fw_7_175 t16 ?_
    refine B.aload_n 0 dX7_giveBack_37 rfl rfl ?_
    refine B.aload_n 2 dX7_giveBack_38 rfl rfl ?_
    refine B.iload_n 3 dX7_giveBack_39 rfl rfl ?_
    refine B.aload_n 0 dX7_giveBack_40 rfl rfl ?_
    obtain ⟨b17, h⟩ := h
    obtain ⟨t18, h⟩ := h
    refine B.getP dX7_giveBack_41 fl_7_21 t1 t18 ?_
    refine B.aload_n 1 dX7_giveBack_44 rfl rfl ?_
    obtain ⟨t19, h⟩ := h
    refine B.callV (M' := MX0_partFor) (rc := 0) (rs := 0) (mc := 0) (ms := 0) (st := [.int (I b10 j13), .ref b8, .ref r0]) [.ref r1] dX7_giveBack_45 mv_X0_partFor lk_X7_178 ⟨Nat.le_of_ble_eq_true rfl, Nat.le_of_ble_eq_true rfl⟩ rfl rfl (Nat.le_of_ble_eq_true rfl) t19 ?_
    exact h
theorem s_X7_giveBack_48 {g : GT} {S : ST} {P : PT} {I : IT} {Q : QT} {r0 : Nat} {r1 : Nat} {r2 : Nat} {x3 : Int32} {w_s0 : Int32} {w_s1 : Int32} {a_s2 : Nat} {a_s3 : Nat} (h : sT S a_s3 = 8 ∧ T g MX7_shareLoss 0 0 [.ref a_s3, .ref a_s2, .int ((w_s1 * w_s0) / 100)] S P I (fun r S' P' I' => B g MX7_giveBack 0 0 55 [(0, .ref r0), (1, .ref r1), (2, .ref r2), (3, .int x3)] (r.toList ++ []) S' P' I' Q)) : B g MX7_giveBack 0 0 48 [(0, .ref r0), (1, .ref r1), (2, .ref r2), (3, .int x3)] [.int w_s0, .int w_s1, .ref a_s2, .ref a_s3] S P I Q := by
  refine B.imul dX7_giveBack_48 ?_
  refine B.bipush 100 dX7_giveBack_49 (by decide) ?_
  refine B.idiv dX7_giveBack_51 (by decide) ?_
  obtain ⟨t1, h⟩ := h
  refine B.callV (M' := MX7_shareLoss) (rc := 0) (rs := 0) (mc := 0) (ms := 0) (st := []) [.ref a_s2, .int ((w_s1 * w_s0) / 100)] dX7_giveBack_52 mv_X7_shareLoss lk_X7_182 ⟨Nat.le_of_ble_eq_true rfl, Nat.le_of_ble_eq_true rfl⟩ rfl rfl (Nat.le_of_ble_eq_true rfl) t1 ?_
  exact h
theorem s_X7_giveBack_55 {g : GT} {S : ST} {P : PT} {I : IT} {Q : QT} {r0 : Nat} {r1 : Nat} {r2 : Nat} {x3 : Int32} (h : Q (some (.int 0)) S P I) : B g MX7_giveBack 0 0 55 [(0, .ref r0), (1, .ref r1), (2, .ref r2), (3, .int x3)] [] S P I Q := by
  refine B.iconst 0 dX7_giveBack_55 (by decide) ?_
  refine B.ireturn dX7_giveBack_56 rfl rfl ?_
  exact h
theorem s_X7_giveBack_62 {g : GT} {S : ST} {P : PT} {I : IT} {Q : QT} {r0 : Nat} {r1 : Nat} {r2 : Nat} {x3 : Int32} {w_s0 : Int32} (h : sT S r2 = 2 ∧ ((w_s0 = 0 → (w_s0 = 0 ∨ w_s0 = 1) ∧ Q (some (.int w_s0)) S P (u2 I r2 0 ((I r2 0) + (x3 / 2)))) ∧ (¬ w_s0 = 0 → (w_s0 = 0 ∨ w_s0 = 1) ∧ Q (some (.int w_s0)) S P (u2 I r2 0 ((I r2 0) + x3))))) : B g MX7_giveBack 0 0 62 [(0, .ref r0), (1, .ref r1), (2, .ref r2), (3, .int x3)] [.int w_s0] S P I Q := by
  refine B.istore (lv' := [(0, .ref r0), (1, .ref r1), (2, .ref r2), (3, .int x3), (4, .int w_s0)]) dX7_giveBack_62 (by decide) rfl ?_
  refine B.aload_n 2 dX7_giveBack_64 rfl rfl ?_
  refine B.dup dX7_giveBack_65 rfl ?_
  obtain ⟨t1, h⟩ := h
  refine B.getI dX7_giveBack_66 fl_7_189 t1 ?_
  refine B.iload 4 dX7_giveBack_69 rfl ?_
  refine B.if_eq 78 dX7_giveBack_71 (by decide) (fun q2 => ?_) (fun q2 => ?_)
  · replace h := h.1 q2
    refine B.iload_n 3 dX7_giveBack_78 rfl rfl ?_
    refine B.iconst 2 dX7_giveBack_79 (by decide) ?_
    refine B.idiv dX7_giveBack_80 (by decide) ?_
    refine B.iadd dX7_giveBack_81 ?_
    refine B.putI dX7_giveBack_82 fw_7_189 t1 ?_
    refine B.iload 4 dX7_giveBack_85 rfl ?_
    obtain ⟨t3, h⟩ := h
    refine B.ireturn dX7_giveBack_87 rfl (nar_z t3) ?_
    exact h
  · replace h := h.2 q2
    refine B.iload_n 3 dX7_giveBack_74 rfl rfl ?_
    refine B.goto_ 81 dX7_giveBack_75 (by decide) ?_
    refine B.iadd dX7_giveBack_81 ?_
    refine B.putI dX7_giveBack_82 fw_7_189 t1 ?_
    refine B.iload 4 dX7_giveBack_85 rfl ?_
    obtain ⟨t4, h⟩ := h
    refine B.ireturn dX7_giveBack_87 rfl (nar_z t4) ?_
    exact h
theorem s_X7_isRipe_0 {g : GT} {S : ST} {P : PT} {I : IT} {Q : QT} {r0 : Nat} {r1 : Nat} (h : sT S r0 = 8 ∧ ∃ b2, P r0 8 = b2 + 1 ∧ sT S r1 = 4 ∧ sT S b2 = 40 ∧ ∃ j6, ix (I r1 2) j6 (sL S b2) ∧ Q (some (.int (wi (I r1 7) ((8 * (10 - (I b2 j6))) + 20) (((8 * (10 - (I b2 j6))) + 20) + (6 * (I b2 j6)))))) S P I) : B g MX7_isRipe 0 0 0 [(0, .ref r0), (1, .ref r1)] [] S P I Q := by
  refine B.aload_n 0 dX7_isRipe_0 rfl rfl ?_
  obtain ⟨t1, h⟩ := h
  obtain ⟨b2, h⟩ := h
  obtain ⟨t3, h⟩ := h
  refine B.getP dX7_isRipe_1 fl_7_48 t1 t3 ?_
  refine B.aload_n 1 dX7_isRipe_4 rfl rfl ?_
  obtain ⟨t4, h⟩ := h
  refine B.getI dX7_isRipe_5 fl_7_192 t4 ?_
  obtain ⟨t5, h⟩ := h
  obtain ⟨j6, h⟩ := h
  obtain ⟨t7, h⟩ := h
  refine B.iaload dX7_isRipe_8 t5 t7 ?_
  refine B.istore_n (lv' := [(0, .ref r0), (1, .ref r1), (2, .int (I b2 j6))]) dX7_isRipe_9 rfl (by decide) rfl ?_
  refine B.bipush 8 dX7_isRipe_10 (by decide) ?_
  refine B.bipush 10 dX7_isRipe_12 (by decide) ?_
  refine B.iload_n 2 dX7_isRipe_14 rfl rfl ?_
  refine B.isub dX7_isRipe_15 ?_
  refine B.imul dX7_isRipe_16 ?_
  refine B.bipush 20 dX7_isRipe_17 (by decide) ?_
  refine B.iadd dX7_isRipe_19 ?_
  refine B.istore_n (lv' := [(0, .ref r0), (1, .ref r1), (2, .int (I b2 j6)), (3, .int ((8 * (10 - (I b2 j6))) + 20))]) dX7_isRipe_20 rfl (by decide) rfl ?_
  refine B.aload_n 1 dX7_isRipe_21 rfl rfl ?_
  refine B.getI dX7_isRipe_22 fl_7_195 t4 ?_
  refine B.iload_n 3 dX7_isRipe_25 rfl rfl ?_
  refine B.iload_n 3 dX7_isRipe_26 rfl rfl ?_
  refine B.bipush 6 dX7_isRipe_27 (by decide) ?_
  refine B.iload_n 2 dX7_isRipe_29 rfl rfl ?_
  refine B.imul dX7_isRipe_30 ?_
  refine B.iadd dX7_isRipe_31 ?_
  refine B.callSN (M' := MX8_within) (rc := 0) (rs := 0) (mc := 0) (ms := 0) (st := []) [.int (I r1 7), .int ((8 * (10 - (I b2 j6))) + 20), .int (((8 * (10 - (I b2 j6))) + 20) + (6 * (I b2 j6)))] "KilnVillage" dX7_isRipe_32 ms_X8_within ⟨604, by decide +kernel⟩ ⟨Nat.le_of_ble_eq_true rfl, Nat.le_of_ble_eq_true rfl⟩ rfl rfl (Nat.le_of_ble_eq_true rfl) (t_within ?_)
  show B g MX7_isRipe 0 0 35 [(0, .ref r0), (1, .ref r1), (2, .int (I b2 j6)), (3, .int ((8 * (10 - (I b2 j6))) + 20))] [.int (wi (I r1 7) ((8 * (10 - (I b2 j6))) + 20) (((8 * (10 - (I b2 j6))) + 20) + (6 * (I b2 j6))))] S P I _
  refine B.ireturn dX7_isRipe_35 rfl (nar_z (wi_01 _ _ _)) ?_
  exact h
theorem s_X7_shareLoss_0 {g : GT} {S : ST} {P : PT} {I : IT} {Q : QT} {r0 : Nat} {r1 : Nat} {x2 : Int32} (h : sT S r0 = 8 ∧ ((¬ (I r0 5) = 0 → ¬ (I r0 5) = 0 ∧ B g MX7_shareLoss 0 0 18 [(0, .ref r0), (1, .ref r1), (2, .int x2), (3, .int (x2 / (I r0 5))), (4, .int 0)] [] S P I Q) ∧ ((I r0 5) = 0 → Q none S P I))) : B g MX7_shareLoss 0 0 0 [(0, .ref r0), (1, .ref r1), (2, .int x2)] [] S P I Q := by
  refine B.aload_n 0 dX7_shareLoss_0 rfl rfl ?_
  obtain ⟨t1, h⟩ := h
  refine B.getI dX7_shareLoss_1 fl_7_38 t1 ?_
  refine B.if_ne 8 dX7_shareLoss_4 (by decide) (fun q2 => ?_) (fun q2 => ?_)
  · replace h := h.1 q2
    refine B.iload_n 2 dX7_shareLoss_8 rfl rfl ?_
    refine B.aload_n 0 dX7_shareLoss_9 rfl rfl ?_
    refine B.getI dX7_shareLoss_10 fl_7_38 t1 ?_
    obtain ⟨t3, h⟩ := h
    refine B.idiv dX7_shareLoss_13 t3 ?_
    refine B.istore_n (lv' := [(0, .ref r0), (1, .ref r1), (2, .int x2), (3, .int (x2 / (I r0 5)))]) dX7_shareLoss_14 rfl (by decide) rfl ?_
    refine B.iconst 0 dX7_shareLoss_15 (by decide) ?_
    refine B.istore (lv' := [(0, .ref r0), (1, .ref r1), (2, .int x2), (3, .int (x2 / (I r0 5))), (4, .int 0)]) dX7_shareLoss_16 (by decide) rfl ?_
    exact h
  · replace h := h.2 q2
    refine B.return_ dX7_shareLoss_7 rfl ?_
    exact h
theorem s_X7_shareLoss_18 {g : GT} {S : ST} {P : PT} {I : IT} {Q : QT} {r0 : Nat} {r1 : Nat} {x2 : Int32} {x3 : Int32} {x4 : Int32} (h : sT S r0 = 8 ∧ (((I r0 5) ≤ x4 → sT S r1 = 2 ∧ Q none S P (u2 I r1 0 ((I r1 0) + (x3 * (I r0 5))))) ∧ (¬ (I r0 5) ≤ x4 → ∃ b4, P r0 4 = b4 + 1 ∧ sT S b4 = 43 ∧ ∃ j7, ix x4 j7 (sL S b4) ∧ ∃ b9, P b4 j7 = b9 + 1 ∧ sT S b9 = 2 ∧ B g MX7_shareLoss 0 0 18 [(0, .ref r0), (1, .ref r1), (2, .int x2), (3, .int x3), (4, .int (x4 + 1))] [] S P (u2 I b9 0 ((I b9 0) - x3)) Q))) : B g MX7_shareLoss 0 0 18 [(0, .ref r0), (1, .ref r1), (2, .int x2), (3, .int x3), (4, .int x4)] [] S P I Q := by
  refine B.iload 4 dX7_shareLoss_18 rfl ?_
  refine B.aload_n 0 dX7_shareLoss_20 rfl rfl ?_
  obtain ⟨t1, h⟩ := h
  refine B.getI dX7_shareLoss_21 fl_7_38 t1 ?_
  refine B.icmp_ge 49 dX7_shareLoss_24 (by decide) (fun q2 => ?_) (fun q2 => ?_)
  · replace h := h.1 q2
    refine B.aload_n 1 dX7_shareLoss_49 rfl rfl ?_
    refine B.dup dX7_shareLoss_50 rfl ?_
    obtain ⟨t3, h⟩ := h
    refine B.getI dX7_shareLoss_51 fl_7_189 t3 ?_
    refine B.iload_n 3 dX7_shareLoss_54 rfl rfl ?_
    refine B.aload_n 0 dX7_shareLoss_55 rfl rfl ?_
    refine B.getI dX7_shareLoss_56 fl_7_38 t1 ?_
    refine B.imul dX7_shareLoss_59 ?_
    refine B.iadd dX7_shareLoss_60 ?_
    refine B.putI dX7_shareLoss_61 fw_7_189 t3 ?_
    refine B.return_ dX7_shareLoss_64 rfl ?_
    exact h
  · replace h := h.2 q2
    refine B.aload_n 0 dX7_shareLoss_27 rfl rfl ?_
    obtain ⟨b4, h⟩ := h
    obtain ⟨t5, h⟩ := h
    refine B.getP dX7_shareLoss_28 fl_7_34 t1 t5 ?_
    refine B.iload 4 dX7_shareLoss_31 rfl ?_
    obtain ⟨t6, h⟩ := h
    obtain ⟨j7, h⟩ := h
    obtain ⟨t8, h⟩ := h
    obtain ⟨b9, h⟩ := h
    obtain ⟨t10, h⟩ := h
    refine B.aaload 3 (by decide) dX7_shareLoss_33 t6 t8 t10 ?_
    refine B.dup dX7_shareLoss_34 rfl ?_
    obtain ⟨t11, h⟩ := h
    refine B.getI dX7_shareLoss_35 fl_7_189 t11 ?_
    refine B.iload_n 3 dX7_shareLoss_38 rfl rfl ?_
    refine B.isub dX7_shareLoss_39 ?_
    refine B.putI dX7_shareLoss_40 fw_7_189 t11 ?_
    refine B.iinc (lv' := [(0, .ref r0), (1, .ref r1), (2, .int x2), (3, .int x3), (4, .int (x4 + 1))]) 4 (x4 + 1) dX7_shareLoss_43 rfl rfl (by decide) rfl ?_
    refine B.goto_ 18 dX7_shareLoss_46 (by decide) ?_
    exact h
theorem s_X8_feed_0 {g : GT} {S : ST} {P : PT} {I : IT} {Q : QT} {r0 : Nat} {x1 : Int32} {x2 : Int32} {x3 : Int32} {x4 : Int32} {x5 : Int32} (h : sT S r0 = 9 ∧ ∃ b2, P r0 0 = b2 + 1 ∧ sT S b2 = 8 ∧ ∃ b5, P b2 0 = b5 + 1 ∧ sT S b5 = 6 ∧ ((((I b5 1) + 20) ≤ 300 → T g MX5_append 0 0 [.ref b5, .int x1] S P I (fun r S' P' I' => B g MX8_feed 0 0 31 [(0, .ref r0), (1, .int x1), (2, .int x2), (3, .int x3), (4, .int x4), (5, .int x5), (6, .ref b5)] (r.toList ++ []) S' P' I' Q)) ∧ (¬ ((I b5 1) + 20) ≤ 300 → Q (some (.int (-1))) S P I))) : B g MX8_feed 0 0 0 [(0, .ref r0), (1, .int x1), (2, .int x2), (3, .int x3), (4, .int x4), (5, .int x5)] [] S P I Q := by
  refine B.aload_n 0 dX8_feed_0 rfl rfl ?_
  obtain ⟨t1, h⟩ := h
  obtain ⟨b2, h⟩ := h
  obtain ⟨t3, h⟩ := h
  refine B.getP dX8_feed_1 fl_8_10 t1 t3 ?_
  obtain ⟨t4, h⟩ := h
  obtain ⟨b5, h⟩ := h
  obtain ⟨t6, h⟩ := h
  refine B.getP dX8_feed_4 fl_8_18 t4 t6 ?_
  refine B.astore (lv' := [(0, .ref r0), (1, .int x1), (2, .int x2), (3, .int x3), (4, .int x4), (5, .int x5), (6, .ref b5)]) dX8_feed_7 (by decide) rfl ?_
  refine B.aload 6 dX8_feed_9 rfl ?_
  obtain ⟨t7, h⟩ := h
  refine B.getI dX8_feed_11 fl_8_33 t7 ?_
  refine B.bipush 20 dX8_feed_14 (by decide) ?_
  refine B.iadd dX8_feed_16 ?_
  refine B.sipush 300 dX8_feed_17 (by decide) ?_
  refine B.icmp_le 25 dX8_feed_20 (by decide) (fun q8 => ?_) (fun q8 => ?_)
  · replace h := h.1 q8
    refine B.aload 6 dX8_feed_25 rfl ?_
    refine B.iload_n 1 dX8_feed_27 rfl rfl ?_
    refine B.callV (M' := MX5_append) (rc := 0) (rs := 0) (mc := 0) (ms := 0) (st := []) [.int x1] dX8_feed_28 mv_X5_append lk_X8_39 ⟨Nat.le_of_ble_eq_true rfl, Nat.le_of_ble_eq_true rfl⟩ rfl rfl (Nat.le_of_ble_eq_true rfl) t7 ?_
    exact h
  · replace h := h.2 q8
    refine B.iconst (-1) dX8_feed_23 (by decide) ?_
    refine B.ireturn dX8_feed_24 rfl rfl ?_
    exact h
theorem s_X8_feed_31 {g : GT} {S : ST} {P : PT} {I : IT} {Q : QT} {r0 : Nat} {x1 : Int32} {x2 : Int32} {x3 : Int32} {x4 : Int32} {x5 : Int32} {r6 : Nat} (h : sT S r6 = 6 ∧ T g MX5_append 0 0 [.ref r6, .int x2] S P I (fun r S' P' I' => B g MX8_feed 0 0 37 [(0, .ref r0), (1, .int x1), (2, .int x2), (3, .int x3), (4, .int x4), (5, .int x5), (6, .ref r6)] (r.toList ++ []) S' P' I' Q)) : B g MX8_feed 0 0 31 [(0, .ref r0), (1, .int x1), (2, .int x2), (3, .int x3), (4, .int x4), (5, .int x5), (6, .ref r6)] [] S P I Q := by
  refine B.aload 6 dX8_feed_31 rfl ?_
  refine B.iload_n 2 dX8_feed_33 rfl rfl ?_
  obtain ⟨t1, h⟩ := h
  refine B.callV (M' := MX5_append) (rc := 0) (rs := 0) (mc := 0) (ms := 0) (st := []) [.int x2] dX8_feed_34 mv_X5_append lk_X8_39 ⟨Nat.le_of_ble_eq_true rfl, Nat.le_of_ble_eq_true rfl⟩ rfl rfl (Nat.le_of_ble_eq_true rfl) t1 ?_
  exact h
theorem s_X8_feed_37 {g : GT} {S : ST} {P : PT} {I : IT} {Q : QT} {r0 : Nat} {x1 : Int32} {x2 : Int32} {x3 : Int32} {x4 : Int32} {x5 : Int32} {r6 : Nat} (h : sT S r6 = 6 ∧ T g MX5_append 0 0 [.ref r6, .int x3] S P I (fun r S' P' I' => B g MX8_feed 0 0 43 [(0, .ref r0), (1, .int x1), (2, .int x2), (3, .int x3), (4, .int x4), (5, .int x5), (6, .ref r6)] (r.toList ++ []) S' P' I' Q)) : B g MX8_feed 0 0 37 [(0, .ref r0), (1, .int x1), (2, .int x2), (3, .int x3), (4, .int x4), (5, .int x5), (6, .ref r6)] [] S P I Q := by
  refine B.aload 6 dX8_feed_37 rfl ?_
  refine B.iload_n 3 dX8_feed_39 rfl rfl ?_
  obtain ⟨t1, h⟩ := h
  refine B.callV (M' := MX5_append) (rc := 0) (rs := 0) (mc := 0) (ms := 0) (st := []) [.int x3] dX8_feed_40 mv_X5_append lk_X8_39 ⟨Nat.le_of_ble_eq_true rfl, Nat.le_of_ble_eq_true rfl⟩ rfl rfl (Nat.le_of_ble_eq_true rfl) t1 ?_
  exact h
theorem s_X8_feed_43 {g : GT} {S : ST} {P : PT} {I : IT} {Q : QT} {r0 : Nat} {x1 : Int32} {x2 : Int32} {x3 : Int32} {x4 : Int32} {x5 : Int32} {r6 : Nat} (h : sT S r6 = 6 ∧ T g MX5_append 0 0 [.ref r6, .int x4] S P I (fun r S' P' I' => B g MX8_feed 0 0 50 [(0, .ref r0), (1, .int x1), (2, .int x2), (3, .int x3), (4, .int x4), (5, .int x5), (6, .ref r6)] (r.toList ++ []) S' P' I' Q)) : B g MX8_feed 0 0 43 [(0, .ref r0), (1, .int x1), (2, .int x2), (3, .int x3), (4, .int x4), (5, .int x5), (6, .ref r6)] [] S P I Q := by
  refine B.aload 6 dX8_feed_43 rfl ?_
  refine B.iload 4 dX8_feed_45 rfl ?_
  obtain ⟨t1, h⟩ := h
  refine B.callV (M' := MX5_append) (rc := 0) (rs := 0) (mc := 0) (ms := 0) (st := []) [.int x4] dX8_feed_47 mv_X5_append lk_X8_39 ⟨Nat.le_of_ble_eq_true rfl, Nat.le_of_ble_eq_true rfl⟩ rfl rfl (Nat.le_of_ble_eq_true rfl) t1 ?_
  exact h
theorem s_X8_feed_50 {g : GT} {S : ST} {P : PT} {I : IT} {Q : QT} {r0 : Nat} {x1 : Int32} {x2 : Int32} {x3 : Int32} {x4 : Int32} {x5 : Int32} {r6 : Nat} (h : sT S r6 = 6 ∧ T g MX5_append 0 0 [.ref r6, .int x5] S P I (fun r S' P' I' => B g MX8_feed 0 0 57 [(0, .ref r0), (1, .int x1), (2, .int x2), (3, .int x3), (4, .int x4), (5, .int x5), (6, .ref r6)] (r.toList ++ []) S' P' I' Q)) : B g MX8_feed 0 0 50 [(0, .ref r0), (1, .int x1), (2, .int x2), (3, .int x3), (4, .int x4), (5, .int x5), (6, .ref r6)] [] S P I Q := by
  refine B.aload 6 dX8_feed_50 rfl ?_
  refine B.iload 5 dX8_feed_52 rfl ?_
  obtain ⟨t1, h⟩ := h
  refine B.callV (M' := MX5_append) (rc := 0) (rs := 0) (mc := 0) (ms := 0) (st := []) [.int x5] dX8_feed_54 mv_X5_append lk_X8_39 ⟨Nat.le_of_ble_eq_true rfl, Nat.le_of_ble_eq_true rfl⟩ rfl rfl (Nat.le_of_ble_eq_true rfl) t1 ?_
  exact h
theorem s_X8_feed_57 {g : GT} {S : ST} {P : PT} {I : IT} {Q : QT} {r0 : Nat} {x1 : Int32} {x2 : Int32} {x3 : Int32} {x4 : Int32} {x5 : Int32} {r6 : Nat} (h : sT S r6 = 6 ∧ Q (some (.int (I r6 1))) S P I) : B g MX8_feed 0 0 57 [(0, .ref r0), (1, .int x1), (2, .int x2), (3, .int x3), (4, .int x4), (5, .int x5), (6, .ref r6)] [] S P I Q := by
  refine B.aload 6 dX8_feed_57 rfl ?_
  obtain ⟨t1, h⟩ := h
  refine B.getI dX8_feed_59 fl_8_33 t1 ?_
  refine B.ireturn dX8_feed_62 rfl rfl ?_
  exact h
theorem s_X8_end_0 {g : GT} {S : ST} {P : PT} {I : IT} {Q : QT} {r0 : Nat} {x1 : Int32} (h : sT S r0 = 9 ∧ ∃ b2, P r0 0 = b2 + 1 ∧ sT S b2 = 8 ∧ ∃ b5, P b2 0 = b5 + 1 ∧ sT S b5 = 6 ∧ ((¬ (wi x1 0 (I b5 1)) = 0 → Q (some (.int x1)) S P (u2 I b5 1 x1)) ∧ ((wi x1 0 (I b5 1)) = 0 → Q (some (.int (-1))) S P I))) : B g MX8_end 0 0 0 [(0, .ref r0), (1, .int x1)] [] S P I Q := by
  refine B.iload_n 1 dX8_end_0 rfl rfl ?_
  refine B.iconst 0 dX8_end_1 (by decide) ?_
  refine B.aload_n 0 dX8_end_2 rfl rfl ?_
  obtain ⟨t1, h⟩ := h
  obtain ⟨b2, h⟩ := h
  obtain ⟨t3, h⟩ := h
  refine B.getP dX8_end_3 fl_8_10 t1 t3 ?_
  obtain ⟨t4, h⟩ := h
  obtain ⟨b5, h⟩ := h
  obtain ⟨t6, h⟩ := h
  refine B.getP dX8_end_6 fl_8_18 t4 t6 ?_
  obtain ⟨t7, h⟩ := h
  refine B.getI dX8_end_9 fl_8_33 t7 ?_
  refine B.callS (M' := MX8_within) (rc := 0) (rs := 0) (mc := 0) (ms := 0) (st := []) [.int x1, .int 0, .int (I b5 1)] dX8_end_12 ms_X8_within lk_X8_43 ⟨Nat.le_of_ble_eq_true rfl, Nat.le_of_ble_eq_true rfl⟩ rfl rfl (Nat.le_of_ble_eq_true rfl) (t_within ?_)
  show B g MX8_end 0 0 15 [(0, .ref r0), (1, .int x1)] [.int (wi x1 0 (I b5 1))] S P I _
  refine B.if_ne 20 dX8_end_15 (by decide) (fun q8 => ?_) (fun q8 => ?_)
  · replace h := h.1 q8
    refine B.aload_n 0 dX8_end_20 rfl rfl ?_
    refine B.getP dX8_end_21 fl_8_10 t1 t3 ?_
    refine B.getP dX8_end_24 fl_8_18 t4 t6 ?_
    refine B.iload_n 1 dX8_end_27 rfl rfl ?_
    refine B.putI dX8_end_28 fw_8_33 t7 ?_
    refine B.iload_n 1 dX8_end_31 rfl rfl ?_
    refine B.ireturn dX8_end_32 rfl rfl ?_
    exact h
  · replace h := h.2 q8
    refine B.iconst (-1) dX8_end_18 (by decide) ?_
    refine B.ireturn dX8_end_19 rfl rfl ?_
    exact h
theorem s_X8_custom_0 {g : GT} {S : ST} {P : PT} {I : IT} {Q : QT} {r0 : Nat} (h : sT S r0 = 9 ∧ ∃ b2, P r0 1 = b2 + 1 ∧ sT S b2 = 5 ∧ T g MX4_read 0 0 [.ref b2] S P I (fun r S' P' I' => B g MX8_custom 0 0 7 [(0, .ref r0)] (r.toList ++ []) S' P' I' Q)) : B g MX8_custom 0 0 0 [(0, .ref r0)] [] S P I Q := by
  refine B.aload_n 0 dX8_custom_0 rfl rfl ?_
  obtain ⟨t1, h⟩ := h
  obtain ⟨b2, h⟩ := h
  obtain ⟨t3, h⟩ := h
  refine B.getP dX8_custom_1 fl_8_25 t1 t3 ?_
  obtain ⟨t4, h⟩ := h
  refine B.callV (M' := MX4_read) (rc := 0) (rs := 0) (mc := 0) (ms := 0) (st := []) [] dX8_custom_4 mv_X4_read lk_X8_47 ⟨Nat.le_of_ble_eq_true rfl, Nat.le_of_ble_eq_true rfl⟩ rfl rfl (Nat.le_of_ble_eq_true rfl) t4 ?_
  exact h
theorem s_X8_custom_7 {g : GT} {S : ST} {P : PT} {I : IT} {Q : QT} {r0 : Nat} (h : sT S r0 = 9 ∧ ∃ b2, P r0 0 = b2 + 1 ∧ sT S b2 = 8 ∧ ∃ b5, P b2 0 = b5 + 1 ∧ sT S b5 = 6 ∧ ∃ b8, P r0 1 = b8 + 1 ∧ sT S b8 = 5 ∧ ((((u2 I b5 1 0) b8 1) = 0 → ∃ b12, P b2 1 = b12 + 1 ∧ ∃ b14, P b8 0 = b14 + 1 ∧ sT S b12 = 1 ∧ T g MX0_copyFrom 0 0 [.ref b12, .ref b14] S P (u2 (u2 (u2 I b5 1 0) b2 2 ((u2 I b5 1 0) b8 1)) b2 3 ((u2 (u2 I b5 1 0) b2 2 ((u2 I b5 1 0) b8 1)) b8 2)) (fun r S' P' I' => B g MX8_custom 0 0 75 [(0, .ref r0)] (r.toList ++ []) S' P' I' Q)) ∧ (¬ ((u2 I b5 1 0) b8 1) = 0 → Q (some (.int (-1))) S P (u2 (u2 (u2 I b5 1 0) b2 2 ((u2 I b5 1 0) b8 1)) b2 3 ((u2 (u2 I b5 1 0) b2 2 ((u2 I b5 1 0) b8 1)) b8 2))))) : B g MX8_custom 0 0 7 [(0, .ref r0)] [] S P I Q := by
  refine B.aload_n 0 dX8_custom_7 rfl rfl ?_
  obtain ⟨t1, h⟩ := h
  obtain ⟨b2, h⟩ := h
  obtain ⟨t3, h⟩ := h
  refine B.getP dX8_custom_8 fl_8_10 t1 t3 ?_
  obtain ⟨t4, h⟩ := h
  obtain ⟨b5, h⟩ := h
  obtain ⟨t6, h⟩ := h
  refine B.getP dX8_custom_11 fl_8_18 t4 t6 ?_
  refine B.iconst 0 dX8_custom_14 (by decide) ?_
  obtain ⟨t7, h⟩ := h
  refine B.putI dX8_custom_15 fw_8_33 t7 ?_
  refine B.aload_n 0 dX8_custom_18 rfl rfl ?_
  refine B.getP dX8_custom_19 fl_8_10 t1 t3 ?_
  refine B.aload_n 0 dX8_custom_22 rfl rfl ?_
  obtain ⟨b8, h⟩ := h
  obtain ⟨t9, h⟩ := h
  refine B.getP dX8_custom_23 fl_8_25 t1 t9 ?_
  obtain ⟨t10, h⟩ := h
  refine B.getI dX8_custom_26 fl_8_50 t10 ?_
  refine B.putI dX8_custom_29 fw_8_53 t4 ?_
  refine B.aload_n 0 dX8_custom_32 rfl rfl ?_
  refine B.getP dX8_custom_33 fl_8_10 t1 t3 ?_
  refine B.aload_n 0 dX8_custom_36 rfl rfl ?_
  refine B.getP dX8_custom_37 fl_8_25 t1 t9 ?_
  refine B.getI dX8_custom_40 fl_8_54 t10 ?_
  refine B.putI dX8_custom_43 fw_8_57 t4 ?_
  refine B.aload_n 0 dX8_custom_46 rfl rfl ?_
  refine B.getP dX8_custom_47 fl_8_25 t1 t9 ?_
  refine B.getI dX8_custom_50 fl_8_50 t10 ?_
  rw [u2_k (I := (u2 (u2 I b5 1 0) b2 2 ((u2 I b5 1 0) b8 1))) (a := b2) (k := 3) (b := b8) (j := 1) (x := ((u2 (u2 I b5 1 0) b2 2 ((u2 I b5 1 0) b8 1)) b8 2)) (by decide)]
  rw [u2_k (I := (u2 I b5 1 0)) (a := b2) (k := 2) (b := b8) (j := 1) (x := ((u2 I b5 1 0) b8 1)) (by decide)]
  refine B.if_eq 58 dX8_custom_53 (by decide) (fun q11 => ?_) (fun q11 => ?_)
  · replace h := h.1 q11
    refine B.aload_n 0 dX8_custom_58 rfl rfl ?_
    refine B.getP dX8_custom_59 fl_8_10 t1 t3 ?_
    obtain ⟨b12, h⟩ := h
    obtain ⟨t13, h⟩ := h
    refine B.getP dX8_custom_62 fl_8_58 t4 t13 ?_
    refine B.aload_n 0 dX8_custom_65 rfl rfl ?_
    refine B.getP dX8_custom_66 fl_8_25 t1 t9 ?_
    obtain ⟨b14, h⟩ := h
    obtain ⟨t15, h⟩ := h
    refine B.getP dX8_custom_69 fl_8_62 t10 t15 ?_
    obtain ⟨t16, h⟩ := h
    refine B.callV (M' := MX0_copyFrom) (rc := 0) (rs := 0) (mc := 0) (ms := 0) (st := []) [.ref b14] dX8_custom_72 mv_X0_copyFrom lk_X8_65 ⟨Nat.le_of_ble_eq_true rfl, Nat.le_of_ble_eq_true rfl⟩ rfl rfl (Nat.le_of_ble_eq_true rfl) t16 ?_
    exact h
  · replace h := h.2 q11
    refine B.iconst (-1) dX8_custom_56 (by decide) ?_
    refine B.ireturn dX8_custom_57 rfl rfl ?_
    exact h
theorem s_X8_custom_75 {g : GT} {S : ST} {P : PT} {I : IT} {Q : QT} {r0 : Nat} (h : sT S r0 = 9 ∧ ∃ b2, P r0 0 = b2 + 1 ∧ sT S b2 = 8 ∧ ∃ b5, P b2 1 = b5 + 1 ∧ sT S b5 = 1 ∧ Q (some (.int (I b5 0))) S P I) : B g MX8_custom 0 0 75 [(0, .ref r0)] [] S P I Q := by
  refine B.aload_n 0 dX8_custom_75 rfl rfl ?_
  obtain ⟨t1, h⟩ := h
  obtain ⟨b2, h⟩ := h
  obtain ⟨t3, h⟩ := h
  refine B.getP dX8_custom_76 fl_8_10 t1 t3 ?_
  obtain ⟨t4, h⟩ := h
  obtain ⟨b5, h⟩ := h
  obtain ⟨t6, h⟩ := h
  refine B.getP dX8_custom_79 fl_8_58 t4 t6 ?_
  obtain ⟨t7, h⟩ := h
  refine B.getI dX8_custom_82 fl_8_71 t7 ?_
  refine B.ireturn dX8_custom_85 rfl rfl ?_
  exact h
theorem s_X8_fault_0 {g : GT} {S : ST} {P : PT} {I : IT} {Q : QT} {r0 : Nat} {x1 : Int32} (h : ((x1 = 0 → sT S r0 = 9 ∧ ∃ b3, P r0 0 = b3 + 1 ∧ sT S b3 = 8 ∧ Q (some (.int (I b3 2))) S P I) ∧ (x1 = 1 → sT S r0 = 9 ∧ ∃ b7, P r0 0 = b7 + 1 ∧ sT S b7 = 8 ∧ Q (some (.int (I b7 3))) S P I) ∧ (¬ x1 = 0 → ¬ x1 = 1 → Q (some (.int (-1))) S P I))) : B g MX8_fault 0 0 0 [(0, .ref r0), (1, .int x1)] [] S P I Q := by
  refine B.iload_n 1 dX8_fault_0 rfl rfl ?_
  rcases Decidable.em (x1 = 0) with q1 | q1_0
  · replace h := h.1 q1
    refine B.lookup 28 dX8_fault_1 (by decide) (by rw [q1]; first | done | rfl) (by decide) ?_
    refine B.aload_n 0 dX8_fault_28 rfl rfl ?_
    obtain ⟨t2, h⟩ := h
    obtain ⟨b3, h⟩ := h
    obtain ⟨t4, h⟩ := h
    refine B.getP dX8_fault_29 fl_8_10 t2 t4 ?_
    obtain ⟨t5, h⟩ := h
    refine B.getI dX8_fault_32 fl_8_53 t5 ?_
    refine B.ireturn dX8_fault_35 rfl rfl ?_
    exact h
  replace h := h.2
  rcases Decidable.em (x1 = 1) with q1 | q1_1
  · replace h := h.1 q1
    refine B.lookup 36 dX8_fault_1 (by decide) (by rw [q1]; first | done | rfl) (by decide) ?_
    refine B.aload_n 0 dX8_fault_36 rfl rfl ?_
    obtain ⟨t6, h⟩ := h
    obtain ⟨b7, h⟩ := h
    obtain ⟨t8, h⟩ := h
    refine B.getP dX8_fault_37 fl_8_10 t6 t8 ?_
    obtain ⟨t9, h⟩ := h
    refine B.getI dX8_fault_40 fl_8_57 t9 ?_
    refine B.ireturn dX8_fault_43 rfl rfl ?_
    exact h
  replace h := h.2
  replace h := h q1_0 q1_1
  refine B.lookup 44 dX8_fault_1 (by decide) (lsw_out q1_0 q1_1) (by decide) ?_
  refine B.iconst (-1) dX8_fault_44 (by decide) ?_
  refine B.ireturn dX8_fault_45 rfl rfl ?_
  exact h
theorem s_X8_house_0 {g : GT} {S : ST} {P : PT} {I : IT} {Q : QT} {r0 : Nat} (h : sT S r0 = 9 ∧ ∃ b2, P r0 0 = b2 + 1 ∧ sT S b2 = 8 ∧ (((I b2 5) < 8 → Q (some (.int (((I b2 5) + 1) - 1))) S P (u2 I b2 5 ((I b2 5) + 1))) ∧ (¬ (I b2 5) < 8 → Q (some (.int (-1))) S P I))) : B g MX8_house 0 0 0 [(0, .ref r0)] [] S P I Q := by
  refine B.aload_n 0 dX8_house_0 rfl rfl ?_
  obtain ⟨t1, h⟩ := h
  obtain ⟨b2, h⟩ := h
  obtain ⟨t3, h⟩ := h
  refine B.getP dX8_house_1 fl_8_10 t1 t3 ?_
  obtain ⟨t4, h⟩ := h
  refine B.getI dX8_house_4 fl_8_74 t4 ?_
  refine B.bipush 8 dX8_house_7 (by decide) ?_
  refine B.icmp_lt 14 dX8_house_9 (by decide) (fun q5 => ?_) (fun q5 => ?_)
  · replace h := h.1 q5
    refine B.aload_n 0 dX8_house_14 rfl rfl ?_
    refine B.getP dX8_house_15 fl_8_10 t1 t3 ?_
    refine B.dup dX8_house_18 rfl ?_
    refine B.getI dX8_house_19 fl_8_74 t4 ?_
    refine B.iconst 1 dX8_house_22 (by decide) ?_
    refine B.iadd dX8_house_23 ?_
    refine B.putI dX8_house_24 fw_8_74 t4 ?_
    refine B.aload_n 0 dX8_house_27 rfl rfl ?_
    refine B.getP dX8_house_28 fl_8_10 t1 t3 ?_
    refine B.getI dX8_house_31 fl_8_74 t4 ?_
    rw [u2_s I b2 5 ((I b2 5) + 1)]
    refine B.iconst 1 dX8_house_34 (by decide) ?_
    refine B.isub dX8_house_35 ?_
    refine B.ireturn dX8_house_36 rfl rfl ?_
    exact h
  · replace h := h.2 q5
    refine B.iconst (-1) dX8_house_12 (by decide) ?_
    refine B.ireturn dX8_house_13 rfl rfl ?_
    exact h
theorem s_X8_shape_0 {g : GT} {S : ST} {P : PT} {I : IT} {Q : QT} {r0 : Nat} {x1 : Int32} {x2 : Int32} {x3 : Int32} (h : (((wi x1 0 4) = 0 → Q (some (.int 0)) S P I) ∧ (¬ (wi x1 0 4) = 0 → (((wi x2 1 999) = 0 → Q (some (.int 0)) S P I) ∧ (¬ (wi x2 1 999) = 0 → ((¬ (wi x3 1 999) = 0 → sT S r0 = 9 ∧ ∃ b5, P r0 0 = b5 + 1 ∧ sT S b5 = 8 ∧ ∃ b8, P b5 6 = b8 + 1 ∧ sT S b8 = 40 ∧ ∃ j11, ix x1 j11 (sL S b8) ∧ ∃ b13, P b5 7 = b13 + 1 ∧ sT S b13 = 40 ∧ ∃ j16, ix x1 j16 (sL S b13) ∧ Q (some (.int 1)) S P (u2 (u2 I b8 j11 x2) b13 j16 x3)) ∧ ((wi x3 1 999) = 0 → Q (some (.int 0)) S P I))))))) : B g MX8_shape 0 0 0 [(0, .ref r0), (1, .int x1), (2, .int x2), (3, .int x3)] [] S P I Q := by
  refine B.iload_n 1 dX8_shape_0 rfl rfl ?_
  refine B.iconst 0 dX8_shape_1 (by decide) ?_
  refine B.iconst 4 dX8_shape_2 (by decide) ?_
  refine B.callS (M' := MX8_within) (rc := 0) (rs := 0) (mc := 0) (ms := 0) (st := []) [.int x1, .int 0, .int 4] dX8_shape_3 ms_X8_within lk_X8_43 ⟨Nat.le_of_ble_eq_true rfl, Nat.le_of_ble_eq_true rfl⟩ rfl rfl (Nat.le_of_ble_eq_true rfl) (t_within ?_)
  show B g MX8_shape 0 0 6 [(0, .ref r0), (1, .int x1), (2, .int x2), (3, .int x3)] [.int (wi x1 0 4)] S P I _
  refine B.if_eq 31 dX8_shape_6 (by decide) (fun q1 => ?_) (fun q1 => ?_)
  · replace h := h.1 q1
    refine B.iconst 0 dX8_shape_31 (by decide) ?_
    refine B.ireturn dX8_shape_32 rfl rfl ?_
    exact h
  · replace h := h.2 q1
    refine B.iload_n 2 dX8_shape_9 rfl rfl ?_
    refine B.iconst 1 dX8_shape_10 (by decide) ?_
    refine B.sipush 999 dX8_shape_11 (by decide) ?_
    refine B.callS (M' := MX8_within) (rc := 0) (rs := 0) (mc := 0) (ms := 0) (st := []) [.int x2, .int 1, .int 999] dX8_shape_14 ms_X8_within lk_X8_43 ⟨Nat.le_of_ble_eq_true rfl, Nat.le_of_ble_eq_true rfl⟩ rfl rfl (Nat.le_of_ble_eq_true rfl) (t_within ?_)
    show B g MX8_shape 0 0 17 [(0, .ref r0), (1, .int x1), (2, .int x2), (3, .int x3)] [.int (wi x2 1 999)] S P I _
    refine B.if_eq 31 dX8_shape_17 (by decide) (fun q2 => ?_) (fun q2 => ?_)
    · replace h := h.1 q2
      refine B.iconst 0 dX8_shape_31 (by decide) ?_
      refine B.ireturn dX8_shape_32 rfl rfl ?_
      exact h
    · replace h := h.2 q2
      refine B.iload_n 3 dX8_shape_20 rfl rfl ?_
      refine B.iconst 1 dX8_shape_21 (by decide) ?_
      refine B.sipush 999 dX8_shape_22 (by decide) ?_
      refine B.callS (M' := MX8_within) (rc := 0) (rs := 0) (mc := 0) (ms := 0) (st := []) [.int x3, .int 1, .int 999] dX8_shape_25 ms_X8_within lk_X8_43 ⟨Nat.le_of_ble_eq_true rfl, Nat.le_of_ble_eq_true rfl⟩ rfl rfl (Nat.le_of_ble_eq_true rfl) (t_within ?_)
      show B g MX8_shape 0 0 28 [(0, .ref r0), (1, .int x1), (2, .int x2), (3, .int x3)] [.int (wi x3 1 999)] S P I _
      refine B.if_ne 33 dX8_shape_28 (by decide) (fun q3 => ?_) (fun q3 => ?_)
      · replace h := h.1 q3
        refine B.aload_n 0 dX8_shape_33 rfl rfl ?_
        obtain ⟨t4, h⟩ := h
        obtain ⟨b5, h⟩ := h
        obtain ⟨t6, h⟩ := h
        refine B.getP dX8_shape_34 fl_8_10 t4 t6 ?_
        obtain ⟨t7, h⟩ := h
        obtain ⟨b8, h⟩ := h
        obtain ⟨t9, h⟩ := h
        refine B.getP dX8_shape_37 fl_8_77 t7 t9 ?_
        refine B.iload_n 1 dX8_shape_40 rfl rfl ?_
        refine B.iload_n 2 dX8_shape_41 rfl rfl ?_
        obtain ⟨t10, h⟩ := h
        obtain ⟨j11, h⟩ := h
        obtain ⟨t12, h⟩ := h
        refine B.iastore dX8_shape_42 t10 t12 ?_
        refine B.aload_n 0 dX8_shape_43 rfl rfl ?_
        refine B.getP dX8_shape_44 fl_8_10 t4 t6 ?_
        obtain ⟨b13, h⟩ := h
        obtain ⟨t14, h⟩ := h
        refine B.getP dX8_shape_47 fl_8_81 t7 t14 ?_
        refine B.iload_n 1 dX8_shape_50 rfl rfl ?_
        refine B.iload_n 3 dX8_shape_51 rfl rfl ?_
        obtain ⟨t15, h⟩ := h
        obtain ⟨j16, h⟩ := h
        obtain ⟨t17, h⟩ := h
        refine B.iastore dX8_shape_52 t15 t17 ?_
        refine B.iconst 1 dX8_shape_53 (by decide) ?_
        refine B.ireturn dX8_shape_54 rfl rfl ?_
        exact h
      · replace h := h.2 q3
        refine B.iconst 0 dX8_shape_31 (by decide) ?_
        refine B.ireturn dX8_shape_32 rfl rfl ?_
        exact h
theorem s_X8_glaze_0 {g : GT} {S : ST} {P : PT} {I : IT} {Q : QT} {r0 : Nat} {x1 : Int32} {x2 : Int32} (h : (((wi x1 0 3) = 0 → Q (some (.int 0)) S P I) ∧ (¬ (wi x1 0 3) = 0 → ((¬ (wi x2 0 10) = 0 → sT S r0 = 9 ∧ ∃ b4, P r0 0 = b4 + 1 ∧ sT S b4 = 8 ∧ ∃ b7, P b4 8 = b7 + 1 ∧ sT S b7 = 40 ∧ ∃ j10, ix x1 j10 (sL S b7) ∧ Q (some (.int 1)) S P (u2 I b7 j10 x2)) ∧ ((wi x2 0 10) = 0 → Q (some (.int 0)) S P I))))) : B g MX8_glaze 0 0 0 [(0, .ref r0), (1, .int x1), (2, .int x2)] [] S P I Q := by
  refine B.iload_n 1 dX8_glaze_0 rfl rfl ?_
  refine B.iconst 0 dX8_glaze_1 (by decide) ?_
  refine B.iconst 3 dX8_glaze_2 (by decide) ?_
  refine B.callS (M' := MX8_within) (rc := 0) (rs := 0) (mc := 0) (ms := 0) (st := []) [.int x1, .int 0, .int 3] dX8_glaze_3 ms_X8_within lk_X8_43 ⟨Nat.le_of_ble_eq_true rfl, Nat.le_of_ble_eq_true rfl⟩ rfl rfl (Nat.le_of_ble_eq_true rfl) (t_within ?_)
  show B g MX8_glaze 0 0 6 [(0, .ref r0), (1, .int x1), (2, .int x2)] [.int (wi x1 0 3)] S P I _
  refine B.if_eq 19 dX8_glaze_6 (by decide) (fun q1 => ?_) (fun q1 => ?_)
  · replace h := h.1 q1
    refine B.iconst 0 dX8_glaze_19 (by decide) ?_
    refine B.ireturn dX8_glaze_20 rfl rfl ?_
    exact h
  · replace h := h.2 q1
    refine B.iload_n 2 dX8_glaze_9 rfl rfl ?_
    refine B.iconst 0 dX8_glaze_10 (by decide) ?_
    refine B.bipush 10 dX8_glaze_11 (by decide) ?_
    refine B.callS (M' := MX8_within) (rc := 0) (rs := 0) (mc := 0) (ms := 0) (st := []) [.int x2, .int 0, .int 10] dX8_glaze_13 ms_X8_within lk_X8_43 ⟨Nat.le_of_ble_eq_true rfl, Nat.le_of_ble_eq_true rfl⟩ rfl rfl (Nat.le_of_ble_eq_true rfl) (t_within ?_)
    show B g MX8_glaze 0 0 16 [(0, .ref r0), (1, .int x1), (2, .int x2)] [.int (wi x2 0 10)] S P I _
    refine B.if_ne 21 dX8_glaze_16 (by decide) (fun q2 => ?_) (fun q2 => ?_)
    · replace h := h.1 q2
      refine B.aload_n 0 dX8_glaze_21 rfl rfl ?_
      obtain ⟨t3, h⟩ := h
      obtain ⟨b4, h⟩ := h
      obtain ⟨t5, h⟩ := h
      refine B.getP dX8_glaze_22 fl_8_10 t3 t5 ?_
      obtain ⟨t6, h⟩ := h
      obtain ⟨b7, h⟩ := h
      obtain ⟨t8, h⟩ := h
      refine B.getP dX8_glaze_25 fl_8_84 t6 t8 ?_
      refine B.iload_n 1 dX8_glaze_28 rfl rfl ?_
      refine B.iload_n 2 dX8_glaze_29 rfl rfl ?_
      obtain ⟨t9, h⟩ := h
      obtain ⟨j10, h⟩ := h
      obtain ⟨t11, h⟩ := h
      refine B.iastore dX8_glaze_30 t9 t11 ?_
      refine B.iconst 1 dX8_glaze_31 (by decide) ?_
      refine B.ireturn dX8_glaze_32 rfl rfl ?_
      exact h
    · replace h := h.2 q2
      refine B.iconst 0 dX8_glaze_19 (by decide) ?_
      refine B.ireturn dX8_glaze_20 rfl rfl ?_
      exact h
theorem s_X8_kiln_0 {g : GT} {S : ST} {P : PT} {I : IT} {Q : QT} {r0 : Nat} {x1 : Int32} (h : (((wi x1 2 6) = 0 → Q (some (.int 0)) S P I) ∧ (¬ (wi x1 2 6) = 0 → sT S r0 = 9 ∧ ∃ b3, P r0 0 = b3 + 1 ∧ sT S b3 = 8 ∧ T g MX7_standingPots 0 0 [.ref b3] S P I (fun r S' P' I' => B g MX8_kiln 0 0 17 [(0, .ref r0), (1, .int x1)] (r.toList ++ []) S' P' I' Q)))) : B g MX8_kiln 0 0 0 [(0, .ref r0), (1, .int x1)] [] S P I Q := by
  refine B.iload_n 1 dX8_kiln_0 rfl rfl ?_
  refine B.iconst 2 dX8_kiln_1 (by decide) ?_
  refine B.bipush 6 dX8_kiln_2 (by decide) ?_
  refine B.callS (M' := MX8_within) (rc := 0) (rs := 0) (mc := 0) (ms := 0) (st := []) [.int x1, .int 2, .int 6] dX8_kiln_4 ms_X8_within lk_X8_43 ⟨Nat.le_of_ble_eq_true rfl, Nat.le_of_ble_eq_true rfl⟩ rfl rfl (Nat.le_of_ble_eq_true rfl) (t_within ?_)
  show B g MX8_kiln 0 0 7 [(0, .ref r0), (1, .int x1)] [.int (wi x1 2 6)] S P I _
  refine B.if_eq 20 dX8_kiln_7 (by decide) (fun q1 => ?_) (fun q1 => ?_)
  · replace h := h.1 q1
    refine B.iconst 0 dX8_kiln_20 (by decide) ?_
    refine B.ireturn dX8_kiln_21 rfl rfl ?_
    exact h
  · replace h := h.2 q1
    refine B.aload_n 0 dX8_kiln_10 rfl rfl ?_
    obtain ⟨t2, h⟩ := h
    obtain ⟨b3, h⟩ := h
    obtain ⟨t4, h⟩ := h
    refine B.getP dX8_kiln_11 fl_8_10 t2 t4 ?_
    obtain ⟨t5, h⟩ := h
    refine B.callV (M' := MX7_standingPots) (rc := 0) (rs := 0) (mc := 0) (ms := 0) (st := []) [] dX8_kiln_14 mv_X7_standingPots lk_X8_87 ⟨Nat.le_of_ble_eq_true rfl, Nat.le_of_ble_eq_true rfl⟩ rfl rfl (Nat.le_of_ble_eq_true rfl) t5 ?_
    exact h
theorem s_X8_kiln_17 {g : GT} {S : ST} {P : PT} {I : IT} {Q : QT} {r0 : Nat} {x1 : Int32} {w_s0 : Int32} (h : ((w_s0 ≤ 0 → sT S r0 = 9 ∧ ∃ b3, P r0 0 = b3 + 1 ∧ sT S b3 = 8 ∧ ∃ b6, P b3 9 = b6 + 1 ∧ sT S b6 = 3 ∧ T g MX2_build 0 0 [.ref b6, .int x1] S P I (fun r S' P' I' => B g MX8_kiln 0 0 33 [(0, .ref r0), (1, .int x1)] (r.toList ++ []) S' P' I' Q)) ∧ (¬ w_s0 ≤ 0 → Q (some (.int 0)) S P I))) : B g MX8_kiln 0 0 17 [(0, .ref r0), (1, .int x1)] [.int w_s0] S P I Q := by
  refine B.if_le 22 dX8_kiln_17 (by decide) (fun q1 => ?_) (fun q1 => ?_)
  · replace h := h.1 q1
    refine B.aload_n 0 dX8_kiln_22 rfl rfl ?_
    obtain ⟨t2, h⟩ := h
    obtain ⟨b3, h⟩ := h
    obtain ⟨t4, h⟩ := h
    refine B.getP dX8_kiln_23 fl_8_10 t2 t4 ?_
    obtain ⟨t5, h⟩ := h
    obtain ⟨b6, h⟩ := h
    obtain ⟨t7, h⟩ := h
    refine B.getP dX8_kiln_26 fl_8_91 t5 t7 ?_
    refine B.iload_n 1 dX8_kiln_29 rfl rfl ?_
    obtain ⟨t8, h⟩ := h
    refine B.callV (M' := MX2_build) (rc := 0) (rs := 0) (mc := 0) (ms := 0) (st := []) [.int x1] dX8_kiln_30 mv_X2_build lk_X8_95 ⟨Nat.le_of_ble_eq_true rfl, Nat.le_of_ble_eq_true rfl⟩ rfl rfl (Nat.le_of_ble_eq_true rfl) t8 ?_
    exact h
  · replace h := h.2 q1
    refine B.iconst 0 dX8_kiln_20 (by decide) ?_
    refine B.ireturn dX8_kiln_21 rfl rfl ?_
    exact h
theorem s_X8_kiln_33 {g : GT} {S : ST} {P : PT} {I : IT} {Q : QT} {r0 : Nat} {x1 : Int32} (h : Q (some (.int 1)) S P I) : B g MX8_kiln 0 0 33 [(0, .ref r0), (1, .int x1)] [] S P I Q := by
  refine B.iconst 1 dX8_kiln_33 (by decide) ?_
  refine B.ireturn dX8_kiln_34 rfl rfl ?_
  exact h
theorem s_X8_value_0 {g : GT} {S : ST} {P : PT} {I : IT} {Q : QT} {r0 : Nat} {x1 : Int32} {x2 : Int32} {x3 : Int32} (h : sT S r0 = 9 ∧ ∃ b2, P r0 0 = b2 + 1 ∧ sT S b2 = 8 ∧ ∃ b5, P b2 9 = b5 + 1 ∧ sT S b5 = 3 ∧ (((wi x1 0 ((I b5 0) - 1)) = 0 → Q (some (.int 0)) S P I) ∧ (¬ (wi x1 0 ((I b5 0) - 1)) = 0 → (((wi x2 0 3) = 0 → Q (some (.int 0)) S P I) ∧ (¬ (wi x2 0 3) = 0 → ((¬ (wi x3 1 99) = 0 → ∃ b11, P b5 5 = b11 + 1 ∧ sT S b11 = 40 ∧ ∃ j14, ix ((x1 * 4) + x2) j14 (sL S b11) ∧ Q (some (.int 1)) S P (u2 I b11 j14 x3)) ∧ ((wi x3 1 99) = 0 → Q (some (.int 0)) S P I))))))) : B g MX8_value 0 0 0 [(0, .ref r0), (1, .int x1), (2, .int x2), (3, .int x3)] [] S P I Q := by
  refine B.aload_n 0 dX8_value_0 rfl rfl ?_
  obtain ⟨t1, h⟩ := h
  obtain ⟨b2, h⟩ := h
  obtain ⟨t3, h⟩ := h
  refine B.getP dX8_value_1 fl_8_10 t1 t3 ?_
  obtain ⟨t4, h⟩ := h
  obtain ⟨b5, h⟩ := h
  obtain ⟨t6, h⟩ := h
  refine B.getP dX8_value_4 fl_8_91 t4 t6 ?_
  refine B.iload_n 1 dX8_value_7 rfl rfl ?_
  refine B.iload_n 2 dX8_value_8 rfl rfl ?_
  obtain ⟨t7, h⟩ := h
  refine B.callV (M' := MX2_hasPlace) (rc := 0) (rs := 0) (mc := 0) (ms := 0) (st := []) [.int x1, .int x2] dX8_value_9 mv_X2_hasPlace lk_X8_100 ⟨Nat.le_of_ble_eq_true rfl, Nat.le_of_ble_eq_true rfl⟩ rfl rfl (Nat.le_of_ble_eq_true rfl) t7 ?_
  refine T_of rfl (Nat.le_of_ble_eq_true rfl) ?_
  show B g MX2_hasPlace 0 0 0 [(0, .ref b5), (1, .int x1), (2, .int x2)] [] S P I _
  refine B.aload_n 0 dX2_hasPlace_0 rfl rfl ?_
  refine B.iload_n 1 dX2_hasPlace_1 rfl rfl ?_
  refine B.callV (M' := MX2_hasChamber) (rc := 0) (rs := 0) (mc := 0) (ms := 0) (st := []) [.int x1] dX2_hasPlace_2 mv_X2_hasChamber lk_X2_51 ⟨Nat.le_of_ble_eq_true rfl, Nat.le_of_ble_eq_true rfl⟩ rfl rfl (Nat.le_of_ble_eq_true rfl) t7 ?_
  refine T_of rfl (Nat.le_of_ble_eq_true rfl) ?_
  show B g MX2_hasChamber 0 0 0 [(0, .ref b5), (1, .int x1)] [] S P I _
  refine B.iload_n 1 dX2_hasChamber_0 rfl rfl ?_
  refine B.iconst 0 dX2_hasChamber_1 (by decide) ?_
  refine B.aload_n 0 dX2_hasChamber_2 rfl rfl ?_
  refine B.getI dX2_hasChamber_3 fl_2_9 t7 ?_
  refine B.iconst 1 dX2_hasChamber_6 (by decide) ?_
  refine B.isub dX2_hasChamber_7 ?_
  refine B.callSN (M' := MX8_within) (rc := 0) (rs := 0) (mc := 0) (ms := 0) (st := []) [.int x1, .int 0, .int ((I b5 0) - 1)] "KilnVillage" dX2_hasChamber_8 ms_X8_within ⟨595, by decide +kernel⟩ ⟨Nat.le_of_ble_eq_true rfl, Nat.le_of_ble_eq_true rfl⟩ rfl rfl (Nat.le_of_ble_eq_true rfl) (t_within ?_)
  show B g MX2_hasChamber 0 0 11 [(0, .ref b5), (1, .int x1)] [.int (wi x1 0 ((I b5 0) - 1))] S P I _
  refine B.ireturn dX2_hasChamber_11 rfl (nar_z (wi_01 _ _ _)) ?_
  show B g MX2_hasPlace 0 0 5 [(0, .ref b5), (1, .int x1), (2, .int x2)] [.int (wi x1 0 ((I b5 0) - 1))] S P I _
  refine B.if_eq 21 dX2_hasPlace_5 (by decide) (fun q8 => ?_) (fun q8 => ?_)
  · replace h := h.1 q8
    refine B.iconst 0 dX2_hasPlace_21 (by decide) ?_
    refine B.ireturn dX2_hasPlace_22 rfl rfl ?_
    show B g MX8_value 0 0 12 [(0, .ref r0), (1, .int x1), (2, .int x2), (3, .int x3)] [.int 0] S P I _
    refine B.if_eq 25 dX8_value_12 (by decide) (fun _ => ?_) (fun q => absurd q (by decide))
    refine B.iconst 0 dX8_value_25 (by decide) ?_
    refine B.ireturn dX8_value_26 rfl rfl ?_
    exact h
  · replace h := h.2 q8
    refine B.iload_n 2 dX2_hasPlace_8 rfl rfl ?_
    refine B.iconst 0 dX2_hasPlace_9 (by decide) ?_
    refine B.iconst 3 dX2_hasPlace_10 (by decide) ?_
    refine B.callSN (M' := MX8_within) (rc := 0) (rs := 0) (mc := 0) (ms := 0) (st := []) [.int x2, .int 0, .int 3] "KilnVillage" dX2_hasPlace_11 ms_X8_within ⟨595, by decide +kernel⟩ ⟨Nat.le_of_ble_eq_true rfl, Nat.le_of_ble_eq_true rfl⟩ rfl rfl (Nat.le_of_ble_eq_true rfl) (t_within ?_)
    show B g MX2_hasPlace 0 0 14 [(0, .ref b5), (1, .int x1), (2, .int x2)] [.int (wi x2 0 3)] S P I _
    refine B.if_eq 21 dX2_hasPlace_14 (by decide) (fun q9 => ?_) (fun q9 => ?_)
    · replace h := h.1 q9
      refine B.iconst 0 dX2_hasPlace_21 (by decide) ?_
      refine B.ireturn dX2_hasPlace_22 rfl rfl ?_
      show B g MX8_value 0 0 12 [(0, .ref r0), (1, .int x1), (2, .int x2), (3, .int x3)] [.int 0] S P I _
      refine B.if_eq 25 dX8_value_12 (by decide) (fun _ => ?_) (fun q => absurd q (by decide))
      refine B.iconst 0 dX8_value_25 (by decide) ?_
      refine B.ireturn dX8_value_26 rfl rfl ?_
      exact h
    · replace h := h.2 q9
      refine B.iconst 1 dX2_hasPlace_17 (by decide) ?_
      refine B.goto_ 22 dX2_hasPlace_18 (by decide) ?_
      refine B.ireturn dX2_hasPlace_22 rfl rfl ?_
      show B g MX8_value 0 0 12 [(0, .ref r0), (1, .int x1), (2, .int x2), (3, .int x3)] [.int 1] S P I _
      refine B.if_eq 25 dX8_value_12 (by decide) (fun q => absurd q (by decide)) (fun _ => ?_)
      refine B.iload_n 3 dX8_value_15 rfl rfl ?_
      refine B.iconst 1 dX8_value_16 (by decide) ?_
      refine B.bipush 99 dX8_value_17 (by decide) ?_
      refine B.callS (M' := MX8_within) (rc := 0) (rs := 0) (mc := 0) (ms := 0) (st := []) [.int x3, .int 1, .int 99] dX8_value_19 ms_X8_within lk_X8_43 ⟨Nat.le_of_ble_eq_true rfl, Nat.le_of_ble_eq_true rfl⟩ rfl rfl (Nat.le_of_ble_eq_true rfl) (t_within ?_)
      show B g MX8_value 0 0 22 [(0, .ref r0), (1, .int x1), (2, .int x2), (3, .int x3)] [.int (wi x3 1 99)] S P I _
      refine B.if_ne 27 dX8_value_22 (by decide) (fun q10 => ?_) (fun q10 => ?_)
      · replace h := h.1 q10
        refine B.aload_n 0 dX8_value_27 rfl rfl ?_
        refine B.getP dX8_value_28 fl_8_10 t1 t3 ?_
        refine B.getP dX8_value_31 fl_8_91 t4 t6 ?_
        obtain ⟨b11, h⟩ := h
        obtain ⟨t12, h⟩ := h
        refine B.getP dX8_value_34 fl_8_104 t7 t12 ?_
        refine B.iload_n 1 dX8_value_37 rfl rfl ?_
        refine B.iconst 4 dX8_value_38 (by decide) ?_
        refine B.imul dX8_value_39 ?_
        refine B.iload_n 2 dX8_value_40 rfl rfl ?_
        refine B.iadd dX8_value_41 ?_
        refine B.iload_n 3 dX8_value_42 rfl rfl ?_
        obtain ⟨t13, h⟩ := h
        obtain ⟨j14, h⟩ := h
        obtain ⟨t15, h⟩ := h
        refine B.iastore dX8_value_43 t13 t15 ?_
        refine B.iconst 1 dX8_value_44 (by decide) ?_
        refine B.ireturn dX8_value_45 rfl rfl ?_
        exact h
      · replace h := h.2 q10
        refine B.iconst 0 dX8_value_25 (by decide) ?_
        refine B.ireturn dX8_value_26 rfl rfl ?_
        exact h
theorem s_X8_pot_0 {g : GT} {S : ST} {P : PT} {I : IT} {Q : QT} {r0 : Nat} {x1 : Int32} {x2 : Int32} {x3 : Int32} {x4 : Int32} (h : sT S r0 = 9 ∧ ∃ b2, P r0 0 = b2 + 1 ∧ sT S b2 = 8 ∧ ((24 ≤ (I b2 11) → Q (some (.int (-1))) S P I) ∧ (¬ 24 ≤ (I b2 11) → (((wi x1 0 ((I b2 5) - 1)) = 0 → Q (some (.int (-1))) S P I) ∧ (¬ (wi x1 0 ((I b2 5) - 1)) = 0 → (((wi x2 0 4) = 0 → Q (some (.int (-1))) S P I) ∧ (¬ (wi x2 0 4) = 0 → (((wi x3 0 3) = 0 → Q (some (.int (-1))) S P I) ∧ (¬ (wi x3 0 3) = 0 → ((¬ (wi x4 0 9) = 0 → ∃ b10, P b2 10 = b10 + 1 ∧ sT S b10 = 44 ∧ ∃ j13, ix (I b2 11) j13 (sL S b10) ∧ ∃ b15, P b10 j13 = b15 + 1 ∧ sT S b15 = 4 ∧ T g MX3_turn 0 0 [.ref b15, .int x1, .int x2, .int x3, .int x4] S P I (fun r S' P' I' => B g MX8_pot 0 0 77 [(0, .ref r0), (1, .int x1), (2, .int x2), (3, .int x3), (4, .int x4)] (r.toList ++ []) S' P' I' Q)) ∧ ((wi x4 0 9) = 0 → Q (some (.int (-1))) S P I))))))))))) : B g MX8_pot 0 0 0 [(0, .ref r0), (1, .int x1), (2, .int x2), (3, .int x3), (4, .int x4)] [] S P I Q := by
  refine B.aload_n 0 dX8_pot_0 rfl rfl ?_
  obtain ⟨t1, h⟩ := h
  obtain ⟨b2, h⟩ := h
  obtain ⟨t3, h⟩ := h
  refine B.getP dX8_pot_1 fl_8_10 t1 t3 ?_
  obtain ⟨t4, h⟩ := h
  refine B.getI dX8_pot_4 fl_8_107 t4 ?_
  refine B.bipush 24 dX8_pot_7 (by decide) ?_
  refine B.icmp_ge 52 dX8_pot_9 (by decide) (fun q5 => ?_) (fun q5 => ?_)
  · replace h := h.1 q5
    refine B.iconst (-1) dX8_pot_52 (by decide) ?_
    refine B.ireturn dX8_pot_53 rfl rfl ?_
    exact h
  · replace h := h.2 q5
    refine B.aload_n 0 dX8_pot_12 rfl rfl ?_
    refine B.getP dX8_pot_13 fl_8_10 t1 t3 ?_
    refine B.iload_n 1 dX8_pot_16 rfl rfl ?_
    refine B.callV (M' := MX7_hasHouse) (rc := 0) (rs := 0) (mc := 0) (ms := 0) (st := []) [.int x1] dX8_pot_17 mv_X7_hasHouse lk_X8_110 ⟨Nat.le_of_ble_eq_true rfl, Nat.le_of_ble_eq_true rfl⟩ rfl rfl (Nat.le_of_ble_eq_true rfl) t4 ?_
    refine T_of rfl (Nat.le_of_ble_eq_true rfl) ?_
    show B g MX7_hasHouse 0 0 0 [(0, .ref b2), (1, .int x1)] [] S P I _
    refine B.iload_n 1 dX7_hasHouse_0 rfl rfl ?_
    refine B.iconst 0 dX7_hasHouse_1 (by decide) ?_
    refine B.aload_n 0 dX7_hasHouse_2 rfl rfl ?_
    refine B.getI dX7_hasHouse_3 fl_7_38 t4 ?_
    refine B.iconst 1 dX7_hasHouse_6 (by decide) ?_
    refine B.isub dX7_hasHouse_7 ?_
    refine B.callSN (M' := MX8_within) (rc := 0) (rs := 0) (mc := 0) (ms := 0) (st := []) [.int x1, .int 0, .int ((I b2 5) - 1)] "KilnVillage" dX7_hasHouse_8 ms_X8_within ⟨604, by decide +kernel⟩ ⟨Nat.le_of_ble_eq_true rfl, Nat.le_of_ble_eq_true rfl⟩ rfl rfl (Nat.le_of_ble_eq_true rfl) (t_within ?_)
    show B g MX7_hasHouse 0 0 11 [(0, .ref b2), (1, .int x1)] [.int (wi x1 0 ((I b2 5) - 1))] S P I _
    refine B.ireturn dX7_hasHouse_11 rfl (nar_z (wi_01 _ _ _)) ?_
    show B g MX8_pot 0 0 20 [(0, .ref r0), (1, .int x1), (2, .int x2), (3, .int x3), (4, .int x4)] [.int (wi x1 0 ((I b2 5) - 1))] S P I _
    refine B.if_eq 52 dX8_pot_20 (by decide) (fun q6 => ?_) (fun q6 => ?_)
    · replace h := h.1 q6
      refine B.iconst (-1) dX8_pot_52 (by decide) ?_
      refine B.ireturn dX8_pot_53 rfl rfl ?_
      exact h
    · replace h := h.2 q6
      refine B.iload_n 2 dX8_pot_23 rfl rfl ?_
      refine B.iconst 0 dX8_pot_24 (by decide) ?_
      refine B.iconst 4 dX8_pot_25 (by decide) ?_
      refine B.callS (M' := MX8_within) (rc := 0) (rs := 0) (mc := 0) (ms := 0) (st := []) [.int x2, .int 0, .int 4] dX8_pot_26 ms_X8_within lk_X8_43 ⟨Nat.le_of_ble_eq_true rfl, Nat.le_of_ble_eq_true rfl⟩ rfl rfl (Nat.le_of_ble_eq_true rfl) (t_within ?_)
      show B g MX8_pot 0 0 29 [(0, .ref r0), (1, .int x1), (2, .int x2), (3, .int x3), (4, .int x4)] [.int (wi x2 0 4)] S P I _
      refine B.if_eq 52 dX8_pot_29 (by decide) (fun q7 => ?_) (fun q7 => ?_)
      · replace h := h.1 q7
        refine B.iconst (-1) dX8_pot_52 (by decide) ?_
        refine B.ireturn dX8_pot_53 rfl rfl ?_
        exact h
      · replace h := h.2 q7
        refine B.iload_n 3 dX8_pot_32 rfl rfl ?_
        refine B.iconst 0 dX8_pot_33 (by decide) ?_
        refine B.iconst 3 dX8_pot_34 (by decide) ?_
        refine B.callS (M' := MX8_within) (rc := 0) (rs := 0) (mc := 0) (ms := 0) (st := []) [.int x3, .int 0, .int 3] dX8_pot_35 ms_X8_within lk_X8_43 ⟨Nat.le_of_ble_eq_true rfl, Nat.le_of_ble_eq_true rfl⟩ rfl rfl (Nat.le_of_ble_eq_true rfl) (t_within ?_)
        show B g MX8_pot 0 0 38 [(0, .ref r0), (1, .int x1), (2, .int x2), (3, .int x3), (4, .int x4)] [.int (wi x3 0 3)] S P I _
        refine B.if_eq 52 dX8_pot_38 (by decide) (fun q8 => ?_) (fun q8 => ?_)
        · replace h := h.1 q8
          refine B.iconst (-1) dX8_pot_52 (by decide) ?_
          refine B.ireturn dX8_pot_53 rfl rfl ?_
          exact h
        · replace h := h.2 q8
          refine B.iload 4 dX8_pot_41 rfl ?_
          refine B.iconst 0 dX8_pot_43 (by decide) ?_
          refine B.bipush 9 dX8_pot_44 (by decide) ?_
          refine B.callS (M' := MX8_within) (rc := 0) (rs := 0) (mc := 0) (ms := 0) (st := []) [.int x4, .int 0, .int 9] dX8_pot_46 ms_X8_within lk_X8_43 ⟨Nat.le_of_ble_eq_true rfl, Nat.le_of_ble_eq_true rfl⟩ rfl rfl (Nat.le_of_ble_eq_true rfl) (t_within ?_)
          show B g MX8_pot 0 0 49 [(0, .ref r0), (1, .int x1), (2, .int x2), (3, .int x3), (4, .int x4)] [.int (wi x4 0 9)] S P I _
          refine B.if_ne 54 dX8_pot_49 (by decide) (fun q9 => ?_) (fun q9 => ?_)
          · replace h := h.1 q9
            refine B.aload_n 0 dX8_pot_54 rfl rfl ?_
            refine B.getP dX8_pot_55 fl_8_10 t1 t3 ?_
            obtain ⟨b10, h⟩ := h
            obtain ⟨t11, h⟩ := h
            refine B.getP dX8_pot_58 fl_8_114 t4 t11 ?_
            refine B.aload_n 0 dX8_pot_61 rfl rfl ?_
            refine B.getP dX8_pot_62 fl_8_10 t1 t3 ?_
            refine B.getI dX8_pot_65 fl_8_107 t4 ?_
            obtain ⟨t12, h⟩ := h
            obtain ⟨j13, h⟩ := h
            obtain ⟨t14, h⟩ := h
            obtain ⟨b15, h⟩ := h
            obtain ⟨t16, h⟩ := h
            refine B.aaload 4 (by decide) dX8_pot_68 t12 t14 t16 ?_
            refine B.iload_n 1 dX8_pot_69 rfl rfl ?_
            refine B.iload_n 2 dX8_pot_70 rfl rfl ?_
            refine B.iload_n 3 dX8_pot_71 rfl rfl ?_
            refine B.iload 4 dX8_pot_72 rfl ?_
            obtain ⟨t17, h⟩ := h
            refine B.callV (M' := MX3_turn) (rc := 0) (rs := 0) (mc := 0) (ms := 0) (st := []) [.int x1, .int x2, .int x3, .int x4] dX8_pot_74 mv_X3_turn lk_X8_118 ⟨Nat.le_of_ble_eq_true rfl, Nat.le_of_ble_eq_true rfl⟩ rfl rfl (Nat.le_of_ble_eq_true rfl) t17 ?_
            exact h
          · replace h := h.2 q9
            refine B.iconst (-1) dX8_pot_52 (by decide) ?_
            refine B.ireturn dX8_pot_53 rfl rfl ?_
            exact h
theorem s_X8_pot_77 {g : GT} {S : ST} {P : PT} {I : IT} {Q : QT} {r0 : Nat} {x1 : Int32} {x2 : Int32} {x3 : Int32} {x4 : Int32} (h : sT S r0 = 9 ∧ ∃ b2, P r0 0 = b2 + 1 ∧ sT S b2 = 8 ∧ ∃ b5, P b2 4 = b5 + 1 ∧ sT S b5 = 43 ∧ ∃ j8, ix x1 j8 (sL S b5) ∧ ∃ b10, P b5 j8 = b10 + 1 ∧ sT S b10 = 2 ∧ Q (some (.int (((I b2 11) + 1) - 1))) S P (u2 (u2 I b10 2 1) b2 11 ((I b2 11) + 1))) : B g MX8_pot 0 0 77 [(0, .ref r0), (1, .int x1), (2, .int x2), (3, .int x3), (4, .int x4)] [] S P I Q := by
  refine B.aload_n 0 dX8_pot_77 rfl rfl ?_
  obtain ⟨t1, h⟩ := h
  obtain ⟨b2, h⟩ := h
  obtain ⟨t3, h⟩ := h
  refine B.getP dX8_pot_78 fl_8_10 t1 t3 ?_
  obtain ⟨t4, h⟩ := h
  obtain ⟨b5, h⟩ := h
  obtain ⟨t6, h⟩ := h
  refine B.getP dX8_pot_81 fl_8_124 t4 t6 ?_
  refine B.iload_n 1 dX8_pot_84 rfl rfl ?_
  obtain ⟨t7, h⟩ := h
  obtain ⟨j8, h⟩ := h
  obtain ⟨t9, h⟩ := h
  obtain ⟨b10, h⟩ := h
  obtain ⟨t11, h⟩ := h
  refine B.aaload 3 (by decide) dX8_pot_85 t7 t9 t11 ?_
  refine B.iconst 1 dX8_pot_86 (by decide) ?_
  obtain ⟨t12, h⟩ := h
  refine B.putZ dX8_pot_87 fw_8_128 t12 (by decide) ?_
  refine B.aload_n 0 dX8_pot_90 rfl rfl ?_
  refine B.getP dX8_pot_91 fl_8_10 t1 t3 ?_
  refine B.dup dX8_pot_94 rfl ?_
  refine B.getI dX8_pot_95 fl_8_107 t4 ?_
  rw [u2_k (I := I) (a := b10) (k := 2) (b := b2) (j := 11) (x := 1) (by decide)]
  refine B.iconst 1 dX8_pot_98 (by decide) ?_
  refine B.iadd dX8_pot_99 ?_
  refine B.putI dX8_pot_100 fw_8_107 t4 ?_
  refine B.aload_n 0 dX8_pot_103 rfl rfl ?_
  refine B.getP dX8_pot_104 fl_8_10 t1 t3 ?_
  refine B.getI dX8_pot_107 fl_8_107 t4 ?_
  rw [u2_s (u2 I b10 2 1) b2 11 ((I b2 11) + 1)]
  refine B.iconst 1 dX8_pot_110 (by decide) ?_
  refine B.isub dX8_pot_111 ?_
  refine B.ireturn dX8_pot_112 rfl rfl ?_
  exact h
theorem s_X8_dry_0 {g : GT} {S : ST} {P : PT} {I : IT} {Q : QT} {r0 : Nat} {x1 : Int32} (h : ((¬ (wi x1 1 9) = 0 → sT S r0 = 9 ∧ ∃ b3, P r0 0 = b3 + 1 ∧ sT S b3 = 8 ∧ T g MX7_dryWaiting 0 0 [.ref b3, .int x1] S P I (fun r S' P' I' => B g MX8_dry 0 0 20 [(0, .ref r0), (1, .int x1)] (r.toList ++ []) S' P' I' Q)) ∧ ((wi x1 1 9) = 0 → Q (some (.int 0)) S P I))) : B g MX8_dry 0 0 0 [(0, .ref r0), (1, .int x1)] [] S P I Q := by
  refine B.iload_n 1 dX8_dry_0 rfl rfl ?_
  refine B.iconst 1 dX8_dry_1 (by decide) ?_
  refine B.bipush 9 dX8_dry_2 (by decide) ?_
  refine B.callS (M' := MX8_within) (rc := 0) (rs := 0) (mc := 0) (ms := 0) (st := []) [.int x1, .int 1, .int 9] dX8_dry_4 ms_X8_within lk_X8_43 ⟨Nat.le_of_ble_eq_true rfl, Nat.le_of_ble_eq_true rfl⟩ rfl rfl (Nat.le_of_ble_eq_true rfl) (t_within ?_)
  show B g MX8_dry 0 0 7 [(0, .ref r0), (1, .int x1)] [.int (wi x1 1 9)] S P I _
  refine B.if_ne 12 dX8_dry_7 (by decide) (fun q1 => ?_) (fun q1 => ?_)
  · replace h := h.1 q1
    refine B.aload_n 0 dX8_dry_12 rfl rfl ?_
    obtain ⟨t2, h⟩ := h
    obtain ⟨b3, h⟩ := h
    obtain ⟨t4, h⟩ := h
    refine B.getP dX8_dry_13 fl_8_10 t2 t4 ?_
    refine B.iload_n 1 dX8_dry_16 rfl rfl ?_
    obtain ⟨t5, h⟩ := h
    refine B.callV (M' := MX7_dryWaiting) (rc := 0) (rs := 0) (mc := 0) (ms := 0) (st := []) [.int x1] dX8_dry_17 mv_X7_dryWaiting lk_X8_134 ⟨Nat.le_of_ble_eq_true rfl, Nat.le_of_ble_eq_true rfl⟩ rfl rfl (Nat.le_of_ble_eq_true rfl) t5 ?_
    exact h
  · replace h := h.2 q1
    refine B.iconst 0 dX8_dry_10 (by decide) ?_
    refine B.ireturn dX8_dry_11 rfl rfl ?_
    exact h
theorem s_X8_dry_20 {g : GT} {S : ST} {P : PT} {I : IT} {Q : QT} {r0 : Nat} {x1 : Int32} (h : Q (some (.int 1)) S P I) : B g MX8_dry 0 0 20 [(0, .ref r0), (1, .int x1)] [] S P I Q := by
  refine B.iconst 1 dX8_dry_20 (by decide) ?_
  refine B.ireturn dX8_dry_21 rfl rfl ?_
  exact h
theorem s_X8_deal_0 {g : GT} {S : ST} {P : PT} {I : IT} {Q : QT} {r0 : Nat} (h : sT S r0 = 9 ∧ ∃ b2, P r0 0 = b2 + 1 ∧ sT S b2 = 8 ∧ ∃ b5, P b2 9 = b5 + 1 ∧ sT S b5 = 3 ∧ T g MX2_greatestHeat 0 0 [.ref b5] S P I (fun r S' P' I' => B g MX8_deal 0 0 10 [(0, .ref r0)] (r.toList ++ []) S' P' I' Q)) : B g MX8_deal 0 0 0 [(0, .ref r0)] [] S P I Q := by
  refine B.aload_n 0 dX8_deal_0 rfl rfl ?_
  obtain ⟨t1, h⟩ := h
  obtain ⟨b2, h⟩ := h
  obtain ⟨t3, h⟩ := h
  refine B.getP dX8_deal_1 fl_8_10 t1 t3 ?_
  obtain ⟨t4, h⟩ := h
  obtain ⟨b5, h⟩ := h
  obtain ⟨t6, h⟩ := h
  refine B.getP dX8_deal_4 fl_8_91 t4 t6 ?_
  obtain ⟨t7, h⟩ := h
  refine B.callV (M' := MX2_greatestHeat) (rc := 0) (rs := 0) (mc := 0) (ms := 0) (st := []) [] dX8_deal_7 mv_X2_greatestHeat lk_X8_137 ⟨Nat.le_of_ble_eq_true rfl, Nat.le_of_ble_eq_true rfl⟩ rfl rfl (Nat.le_of_ble_eq_true rfl) t7 ?_
  exact h
theorem s_X8_deal_10 {g : GT} {S : ST} {P : PT} {I : IT} {Q : QT} {r0 : Nat} {w_s0 : Int32} (h : ((w_s0 ≤ 50 → sT S r0 = 9 ∧ ∃ b3, P r0 0 = b3 + 1 ∧ sT S b3 = 8 ∧ T g MX7_dealPlaces 0 0 [.ref b3] S P I (fun r S' P' I' => B g MX8_deal 0 0 24 [(0, .ref r0)] (r.toList ++ []) S' P' I' Q)) ∧ (¬ w_s0 ≤ 50 → Q (some (.int (-1))) S P I))) : B g MX8_deal 0 0 10 [(0, .ref r0)] [.int w_s0] S P I Q := by
  refine B.bipush 50 dX8_deal_10 (by decide) ?_
  refine B.icmp_le 17 dX8_deal_12 (by decide) (fun q1 => ?_) (fun q1 => ?_)
  · replace h := h.1 q1
    refine B.aload_n 0 dX8_deal_17 rfl rfl ?_
    obtain ⟨t2, h⟩ := h
    obtain ⟨b3, h⟩ := h
    obtain ⟨t4, h⟩ := h
    refine B.getP dX8_deal_18 fl_8_10 t2 t4 ?_
    obtain ⟨t5, h⟩ := h
    refine B.callV (M' := MX7_dealPlaces) (rc := 0) (rs := 0) (mc := 0) (ms := 0) (st := []) [] dX8_deal_21 mv_X7_dealPlaces lk_X8_140 ⟨Nat.le_of_ble_eq_true rfl, Nat.le_of_ble_eq_true rfl⟩ rfl rfl (Nat.le_of_ble_eq_true rfl) t5 ?_
    exact h
  · replace h := h.2 q1
    refine B.iconst (-1) dX8_deal_15 (by decide) ?_
    refine B.ireturn dX8_deal_16 rfl rfl ?_
    exact h
theorem s_X8_deal_24 {g : GT} {S : ST} {P : PT} {I : IT} {Q : QT} {r0 : Nat} {w_s0 : Int32} (h : Q (some (.int w_s0)) S P I) : B g MX8_deal 0 0 24 [(0, .ref r0)] [.int w_s0] S P I Q := by
  refine B.ireturn dX8_deal_24 rfl rfl ?_
  exact h
theorem s_X8_spread_0 {g : GT} {S : ST} {P : PT} {I : IT} {Q : QT} {r0 : Nat} (h : sT S r0 = 9 ∧ ∃ b2, P r0 0 = b2 + 1 ∧ sT S b2 = 8 ∧ T g MX7_spreadOfHad 0 0 [.ref b2] S P I (fun r S' P' I' => B g MX8_spread 0 0 7 [(0, .ref r0)] (r.toList ++ []) S' P' I' Q)) : B g MX8_spread 0 0 0 [(0, .ref r0)] [] S P I Q := by
  refine B.aload_n 0 dX8_spread_0 rfl rfl ?_
  obtain ⟨t1, h⟩ := h
  obtain ⟨b2, h⟩ := h
  obtain ⟨t3, h⟩ := h
  refine B.getP dX8_spread_1 fl_8_10 t1 t3 ?_
  obtain ⟨t4, h⟩ := h
  refine B.callV (M' := MX7_spreadOfHad) (rc := 0) (rs := 0) (mc := 0) (ms := 0) (st := []) [] dX8_spread_4 mv_X7_spreadOfHad lk_X8_143 ⟨Nat.le_of_ble_eq_true rfl, Nat.le_of_ble_eq_true rfl⟩ rfl rfl (Nat.le_of_ble_eq_true rfl) t4 ?_
  exact h
theorem s_X8_spread_7 {g : GT} {S : ST} {P : PT} {I : IT} {Q : QT} {r0 : Nat} {w_s0 : Int32} (h : Q (some (.int w_s0)) S P I) : B g MX8_spread 0 0 7 [(0, .ref r0)] [.int w_s0] S P I Q := by
  refine B.ireturn dX8_spread_7 rfl rfl ?_
  exact h
theorem s_X8_fire_0 {g : GT} {S : ST} {P : PT} {I : IT} {Q : QT} {r0 : Nat} {x1 : Int32} {x2 : Int32} (h : sT S r0 = 9 ∧ ∃ b2, P r0 0 = b2 + 1 ∧ sT S b2 = 8 ∧ ∃ b5, P b2 9 = b5 + 1 ∧ sT S b5 = 3 ∧ (((wi x1 0 ((I b5 0) - 1)) = 0 → Q (some (.int (-1))) S P I) ∧ (¬ (wi x1 0 ((I b5 0) - 1)) = 0 → ((¬ (wi x2 0 9) = 0 → T g MX7_passHour 0 0 [.ref b2, .int x1, .int x2] S P I (fun r S' P' I' => B g MX8_fire 0 0 35 [(0, .ref r0), (1, .int x1), (2, .int x2)] (r.toList ++ []) S' P' I' Q)) ∧ ((wi x2 0 9) = 0 → Q (some (.int (-1))) S P I))))) : B g MX8_fire 0 0 0 [(0, .ref r0), (1, .int x1), (2, .int x2)] [] S P I Q := by
  refine B.aload_n 0 dX8_fire_0 rfl rfl ?_
  obtain ⟨t1, h⟩ := h
  obtain ⟨b2, h⟩ := h
  obtain ⟨t3, h⟩ := h
  refine B.getP dX8_fire_1 fl_8_10 t1 t3 ?_
  obtain ⟨t4, h⟩ := h
  obtain ⟨b5, h⟩ := h
  obtain ⟨t6, h⟩ := h
  refine B.getP dX8_fire_4 fl_8_91 t4 t6 ?_
  refine B.iload_n 1 dX8_fire_7 rfl rfl ?_
  obtain ⟨t7, h⟩ := h
  refine B.callV (M' := MX2_hasChamber) (rc := 0) (rs := 0) (mc := 0) (ms := 0) (st := []) [.int x1] dX8_fire_8 mv_X2_hasChamber lk_X8_146 ⟨Nat.le_of_ble_eq_true rfl, Nat.le_of_ble_eq_true rfl⟩ rfl rfl (Nat.le_of_ble_eq_true rfl) t7 ?_
  refine T_of rfl (Nat.le_of_ble_eq_true rfl) ?_
  show B g MX2_hasChamber 0 0 0 [(0, .ref b5), (1, .int x1)] [] S P I _
  refine B.iload_n 1 dX2_hasChamber_0 rfl rfl ?_
  refine B.iconst 0 dX2_hasChamber_1 (by decide) ?_
  refine B.aload_n 0 dX2_hasChamber_2 rfl rfl ?_
  refine B.getI dX2_hasChamber_3 fl_2_9 t7 ?_
  refine B.iconst 1 dX2_hasChamber_6 (by decide) ?_
  refine B.isub dX2_hasChamber_7 ?_
  refine B.callSN (M' := MX8_within) (rc := 0) (rs := 0) (mc := 0) (ms := 0) (st := []) [.int x1, .int 0, .int ((I b5 0) - 1)] "KilnVillage" dX2_hasChamber_8 ms_X8_within ⟨595, by decide +kernel⟩ ⟨Nat.le_of_ble_eq_true rfl, Nat.le_of_ble_eq_true rfl⟩ rfl rfl (Nat.le_of_ble_eq_true rfl) (t_within ?_)
  show B g MX2_hasChamber 0 0 11 [(0, .ref b5), (1, .int x1)] [.int (wi x1 0 ((I b5 0) - 1))] S P I _
  refine B.ireturn dX2_hasChamber_11 rfl (nar_z (wi_01 _ _ _)) ?_
  show B g MX8_fire 0 0 11 [(0, .ref r0), (1, .int x1), (2, .int x2)] [.int (wi x1 0 ((I b5 0) - 1))] S P I _
  refine B.if_eq 24 dX8_fire_11 (by decide) (fun q8 => ?_) (fun q8 => ?_)
  · replace h := h.1 q8
    refine B.iconst (-1) dX8_fire_24 (by decide) ?_
    refine B.ireturn dX8_fire_25 rfl rfl ?_
    exact h
  · replace h := h.2 q8
    refine B.iload_n 2 dX8_fire_14 rfl rfl ?_
    refine B.iconst 0 dX8_fire_15 (by decide) ?_
    refine B.bipush 9 dX8_fire_16 (by decide) ?_
    refine B.callS (M' := MX8_within) (rc := 0) (rs := 0) (mc := 0) (ms := 0) (st := []) [.int x2, .int 0, .int 9] dX8_fire_18 ms_X8_within lk_X8_43 ⟨Nat.le_of_ble_eq_true rfl, Nat.le_of_ble_eq_true rfl⟩ rfl rfl (Nat.le_of_ble_eq_true rfl) (t_within ?_)
    show B g MX8_fire 0 0 21 [(0, .ref r0), (1, .int x1), (2, .int x2)] [.int (wi x2 0 9)] S P I _
    refine B.if_ne 26 dX8_fire_21 (by decide) (fun q9 => ?_) (fun q9 => ?_)
    · replace h := h.1 q9
      refine B.aload_n 0 dX8_fire_26 rfl rfl ?_
      refine B.getP dX8_fire_27 fl_8_10 t1 t3 ?_
      refine B.iload_n 1 dX8_fire_30 rfl rfl ?_
      refine B.iload_n 2 dX8_fire_31 rfl rfl ?_
      refine B.callV (M' := MX7_passHour) (rc := 0) (rs := 0) (mc := 0) (ms := 0) (st := []) [.int x1, .int x2] dX8_fire_32 mv_X7_passHour lk_X8_149 ⟨Nat.le_of_ble_eq_true rfl, Nat.le_of_ble_eq_true rfl⟩ rfl rfl (Nat.le_of_ble_eq_true rfl) t4 ?_
      exact h
    · replace h := h.2 q9
      refine B.iconst (-1) dX8_fire_24 (by decide) ?_
      refine B.ireturn dX8_fire_25 rfl rfl ?_
      exact h
theorem s_X8_fire_35 {g : GT} {S : ST} {P : PT} {I : IT} {Q : QT} {r0 : Nat} {x1 : Int32} {x2 : Int32} (h : sT S r0 = 9 ∧ ∃ b2, P r0 0 = b2 + 1 ∧ sT S b2 = 8 ∧ ∃ b5, P b2 9 = b5 + 1 ∧ sT S b5 = 3 ∧ ∃ b8, P b5 3 = b8 + 1 ∧ sT S b8 = 40 ∧ ∃ j11, ix x1 j11 (sL S b8) ∧ Q (some (.int (I b8 j11))) S P I) : B g MX8_fire 0 0 35 [(0, .ref r0), (1, .int x1), (2, .int x2)] [] S P I Q := by
  refine B.aload_n 0 dX8_fire_35 rfl rfl ?_
  obtain ⟨t1, h⟩ := h
  obtain ⟨b2, h⟩ := h
  obtain ⟨t3, h⟩ := h
  refine B.getP dX8_fire_36 fl_8_10 t1 t3 ?_
  obtain ⟨t4, h⟩ := h
  obtain ⟨b5, h⟩ := h
  obtain ⟨t6, h⟩ := h
  refine B.getP dX8_fire_39 fl_8_91 t4 t6 ?_
  obtain ⟨t7, h⟩ := h
  obtain ⟨b8, h⟩ := h
  obtain ⟨t9, h⟩ := h
  refine B.getP dX8_fire_42 fl_8_153 t7 t9 ?_
  refine B.iload_n 1 dX8_fire_45 rfl rfl ?_
  obtain ⟨t10, h⟩ := h
  obtain ⟨j11, h⟩ := h
  obtain ⟨t12, h⟩ := h
  refine B.iaload dX8_fire_46 t10 t12 ?_
  refine B.ireturn dX8_fire_47 rfl rfl ?_
  exact h
theorem s_X8_rest_0 {g : GT} {S : ST} {P : PT} {I : IT} {Q : QT} {r0 : Nat} {x1 : Int32} (h : ((¬ (wi x1 1 60) = 0 → B g MX8_rest 0 0 14 [(0, .ref r0), (1, .int x1), (2, .int 0)] [] S P I Q) ∧ ((wi x1 1 60) = 0 → Q (some (.int (-1))) S P I))) : B g MX8_rest 0 0 0 [(0, .ref r0), (1, .int x1)] [] S P I Q := by
  refine B.iload_n 1 dX8_rest_0 rfl rfl ?_
  refine B.iconst 1 dX8_rest_1 (by decide) ?_
  refine B.bipush 60 dX8_rest_2 (by decide) ?_
  refine B.callS (M' := MX8_within) (rc := 0) (rs := 0) (mc := 0) (ms := 0) (st := []) [.int x1, .int 1, .int 60] dX8_rest_4 ms_X8_within lk_X8_43 ⟨Nat.le_of_ble_eq_true rfl, Nat.le_of_ble_eq_true rfl⟩ rfl rfl (Nat.le_of_ble_eq_true rfl) (t_within ?_)
  show B g MX8_rest 0 0 7 [(0, .ref r0), (1, .int x1)] [.int (wi x1 1 60)] S P I _
  refine B.if_ne 12 dX8_rest_7 (by decide) (fun q1 => ?_) (fun q1 => ?_)
  · replace h := h.1 q1
    refine B.iconst 0 dX8_rest_12 (by decide) ?_
    refine B.istore_n (lv' := [(0, .ref r0), (1, .int x1), (2, .int 0)]) dX8_rest_13 rfl (by decide) rfl ?_
    exact h
  · replace h := h.2 q1
    refine B.iconst (-1) dX8_rest_10 (by decide) ?_
    refine B.ireturn dX8_rest_11 rfl rfl ?_
    exact h
theorem s_X8_rest_14 {g : GT} {S : ST} {P : PT} {I : IT} {Q : QT} {r0 : Nat} {x1 : Int32} {x2 : Int32} (h : ((x1 ≤ x2 → sT S r0 = 9 ∧ ∃ b3, P r0 0 = b3 + 1 ∧ sT S b3 = 8 ∧ ∃ b6, P b3 9 = b6 + 1 ∧ sT S b6 = 3 ∧ T g MX2_greatestHeat 0 0 [.ref b6] S P I (fun r S' P' I' => B g MX8_rest 0 0 44 [(0, .ref r0), (1, .int x1), (2, .int x2)] (r.toList ++ []) S' P' I' Q)) ∧ (¬ x1 ≤ x2 → sT S r0 = 9 ∧ ∃ b10, P r0 0 = b10 + 1 ∧ sT S b10 = 8 ∧ T g MX7_passHour 0 0 [.ref b10, .int 0, .int 0] S P I (fun r S' P' I' => B g MX8_rest 0 0 28 [(0, .ref r0), (1, .int x1), (2, .int x2)] (r.toList ++ []) S' P' I' Q)))) : B g MX8_rest 0 0 14 [(0, .ref r0), (1, .int x1), (2, .int x2)] [] S P I Q := by
  refine B.iload_n 2 dX8_rest_14 rfl rfl ?_
  refine B.iload_n 1 dX8_rest_15 rfl rfl ?_
  refine B.icmp_ge 34 dX8_rest_16 (by decide) (fun q1 => ?_) (fun q1 => ?_)
  · replace h := h.1 q1
    refine B.aload_n 0 dX8_rest_34 rfl rfl ?_
    obtain ⟨t2, h⟩ := h
    obtain ⟨b3, h⟩ := h
    obtain ⟨t4, h⟩ := h
    refine B.getP dX8_rest_35 fl_8_10 t2 t4 ?_
    obtain ⟨t5, h⟩ := h
    obtain ⟨b6, h⟩ := h
    obtain ⟨t7, h⟩ := h
    refine B.getP dX8_rest_38 fl_8_91 t5 t7 ?_
    obtain ⟨t8, h⟩ := h
    refine B.callV (M' := MX2_greatestHeat) (rc := 0) (rs := 0) (mc := 0) (ms := 0) (st := []) [] dX8_rest_41 mv_X2_greatestHeat lk_X8_137 ⟨Nat.le_of_ble_eq_true rfl, Nat.le_of_ble_eq_true rfl⟩ rfl rfl (Nat.le_of_ble_eq_true rfl) t8 ?_
    exact h
  · replace h := h.2 q1
    refine B.aload_n 0 dX8_rest_19 rfl rfl ?_
    obtain ⟨t9, h⟩ := h
    obtain ⟨b10, h⟩ := h
    obtain ⟨t11, h⟩ := h
    refine B.getP dX8_rest_20 fl_8_10 t9 t11 ?_
    refine B.iconst 0 dX8_rest_23 (by decide) ?_
    refine B.iconst 0 dX8_rest_24 (by decide) ?_
    obtain ⟨t12, h⟩ := h
    refine B.callV (M' := MX7_passHour) (rc := 0) (rs := 0) (mc := 0) (ms := 0) (st := []) [.int 0, .int 0] dX8_rest_25 mv_X7_passHour lk_X8_149 ⟨Nat.le_of_ble_eq_true rfl, Nat.le_of_ble_eq_true rfl⟩ rfl rfl (Nat.le_of_ble_eq_true rfl) t12 ?_
    exact h
theorem s_X8_rest_28 {g : GT} {S : ST} {P : PT} {I : IT} {Q : QT} {r0 : Nat} {x1 : Int32} {x2 : Int32} (h : B g MX8_rest 0 0 14 [(0, .ref r0), (1, .int x1), (2, .int (x2 + 1))] [] S P I Q) : B g MX8_rest 0 0 28 [(0, .ref r0), (1, .int x1), (2, .int x2)] [] S P I Q := by
  refine B.iinc (lv' := [(0, .ref r0), (1, .int x1), (2, .int (x2 + 1))]) 2 (x2 + 1) dX8_rest_28 rfl rfl (by decide) rfl ?_
  refine B.goto_ 14 dX8_rest_31 (by decide) ?_
  exact h
theorem s_X8_rest_44 {g : GT} {S : ST} {P : PT} {I : IT} {Q : QT} {r0 : Nat} {x1 : Int32} {x2 : Int32} {w_s0 : Int32} (h : Q (some (.int w_s0)) S P I) : B g MX8_rest 0 0 44 [(0, .ref r0), (1, .int x1), (2, .int x2)] [.int w_s0] S P I Q := by
  refine B.ireturn dX8_rest_44 rfl rfl ?_
  exact h
theorem s_X8_heat_0 {g : GT} {S : ST} {P : PT} {I : IT} {Q : QT} {r0 : Nat} {x1 : Int32} (h : sT S r0 = 9 ∧ ∃ b2, P r0 0 = b2 + 1 ∧ sT S b2 = 8 ∧ ∃ b5, P b2 9 = b5 + 1 ∧ sT S b5 = 3 ∧ (((wi x1 0 ((I b5 0) - 1)) = 0 → Q (some (.int (-1))) S P I) ∧ (¬ (wi x1 0 ((I b5 0) - 1)) = 0 → ∃ b9, P b5 3 = b9 + 1 ∧ sT S b9 = 40 ∧ ∃ j12, ix x1 j12 (sL S b9) ∧ Q (some (.int (I b9 j12))) S P I))) : B g MX8_heat 0 0 0 [(0, .ref r0), (1, .int x1)] [] S P I Q := by
  refine B.aload_n 0 dX8_heat_0 rfl rfl ?_
  obtain ⟨t1, h⟩ := h
  obtain ⟨b2, h⟩ := h
  obtain ⟨t3, h⟩ := h
  refine B.getP dX8_heat_1 fl_8_10 t1 t3 ?_
  obtain ⟨t4, h⟩ := h
  obtain ⟨b5, h⟩ := h
  obtain ⟨t6, h⟩ := h
  refine B.getP dX8_heat_4 fl_8_91 t4 t6 ?_
  refine B.iload_n 1 dX8_heat_7 rfl rfl ?_
  obtain ⟨t7, h⟩ := h
  refine B.callV (M' := MX2_hasChamber) (rc := 0) (rs := 0) (mc := 0) (ms := 0) (st := []) [.int x1] dX8_heat_8 mv_X2_hasChamber lk_X8_146 ⟨Nat.le_of_ble_eq_true rfl, Nat.le_of_ble_eq_true rfl⟩ rfl rfl (Nat.le_of_ble_eq_true rfl) t7 ?_
  refine T_of rfl (Nat.le_of_ble_eq_true rfl) ?_
  show B g MX2_hasChamber 0 0 0 [(0, .ref b5), (1, .int x1)] [] S P I _
  refine B.iload_n 1 dX2_hasChamber_0 rfl rfl ?_
  refine B.iconst 0 dX2_hasChamber_1 (by decide) ?_
  refine B.aload_n 0 dX2_hasChamber_2 rfl rfl ?_
  refine B.getI dX2_hasChamber_3 fl_2_9 t7 ?_
  refine B.iconst 1 dX2_hasChamber_6 (by decide) ?_
  refine B.isub dX2_hasChamber_7 ?_
  refine B.callSN (M' := MX8_within) (rc := 0) (rs := 0) (mc := 0) (ms := 0) (st := []) [.int x1, .int 0, .int ((I b5 0) - 1)] "KilnVillage" dX2_hasChamber_8 ms_X8_within ⟨595, by decide +kernel⟩ ⟨Nat.le_of_ble_eq_true rfl, Nat.le_of_ble_eq_true rfl⟩ rfl rfl (Nat.le_of_ble_eq_true rfl) (t_within ?_)
  show B g MX2_hasChamber 0 0 11 [(0, .ref b5), (1, .int x1)] [.int (wi x1 0 ((I b5 0) - 1))] S P I _
  refine B.ireturn dX2_hasChamber_11 rfl (nar_z (wi_01 _ _ _)) ?_
  show B g MX8_heat 0 0 11 [(0, .ref r0), (1, .int x1)] [.int (wi x1 0 ((I b5 0) - 1))] S P I _
  refine B.if_eq 29 dX8_heat_11 (by decide) (fun q8 => ?_) (fun q8 => ?_)
  · replace h := h.1 q8
    refine B.iconst (-1) dX8_heat_29 (by decide) ?_
    refine B.ireturn dX8_heat_30 rfl rfl ?_
    exact h
  · replace h := h.2 q8
    refine B.aload_n 0 dX8_heat_14 rfl rfl ?_
    refine B.getP dX8_heat_15 fl_8_10 t1 t3 ?_
    refine B.getP dX8_heat_18 fl_8_91 t4 t6 ?_
    obtain ⟨b9, h⟩ := h
    obtain ⟨t10, h⟩ := h
    refine B.getP dX8_heat_21 fl_8_153 t7 t10 ?_
    refine B.iload_n 1 dX8_heat_24 rfl rfl ?_
    obtain ⟨t11, h⟩ := h
    obtain ⟨j12, h⟩ := h
    obtain ⟨t13, h⟩ := h
    refine B.iaload dX8_heat_25 t11 t13 ?_
    refine B.goto_ 30 dX8_heat_26 (by decide) ?_
    refine B.ireturn dX8_heat_30 rfl rfl ?_
    exact h
theorem s_X8_open_0 {g : GT} {S : ST} {P : PT} {I : IT} {Q : QT} {r0 : Nat} (h : sT S r0 = 9 ∧ ∃ b2, P r0 0 = b2 + 1 ∧ sT S b2 = 8 ∧ ∃ b5, P b2 9 = b5 + 1 ∧ sT S b5 = 3 ∧ T g MX2_greatestHeat 0 0 [.ref b5] S P I (fun r S' P' I' => B g MX8_open 0 0 10 [(0, .ref r0)] (r.toList ++ []) S' P' I' Q)) : B g MX8_open 0 0 0 [(0, .ref r0)] [] S P I Q := by
  refine B.aload_n 0 dX8_open_0 rfl rfl ?_
  obtain ⟨t1, h⟩ := h
  obtain ⟨b2, h⟩ := h
  obtain ⟨t3, h⟩ := h
  refine B.getP dX8_open_1 fl_8_10 t1 t3 ?_
  obtain ⟨t4, h⟩ := h
  obtain ⟨b5, h⟩ := h
  obtain ⟨t6, h⟩ := h
  refine B.getP dX8_open_4 fl_8_91 t4 t6 ?_
  obtain ⟨t7, h⟩ := h
  refine B.callV (M' := MX2_greatestHeat) (rc := 0) (rs := 0) (mc := 0) (ms := 0) (st := []) [] dX8_open_7 mv_X2_greatestHeat lk_X8_137 ⟨Nat.le_of_ble_eq_true rfl, Nat.le_of_ble_eq_true rfl⟩ rfl rfl (Nat.le_of_ble_eq_true rfl) t7 ?_
  exact h
theorem s_X8_open_10 {g : GT} {S : ST} {P : PT} {I : IT} {Q : QT} {r0 : Nat} {w_s0 : Int32} (h : ((200 < w_s0 → Q (some (.int (-1))) S P I) ∧ (¬ 200 < w_s0 → sT S r0 = 9 ∧ ∃ b3, P r0 0 = b3 + 1 ∧ sT S b3 = 8 ∧ T g MX7_standingPots 0 0 [.ref b3] S P I (fun r S' P' I' => B g MX8_open 0 0 23 [(0, .ref r0)] (r.toList ++ []) S' P' I' Q)))) : B g MX8_open 0 0 10 [(0, .ref r0)] [.int w_s0] S P I Q := by
  refine B.sipush 200 dX8_open_10 (by decide) ?_
  refine B.icmp_gt 26 dX8_open_13 (by decide) (fun q1 => ?_) (fun q1 => ?_)
  · replace h := h.1 q1
    refine B.iconst (-1) dX8_open_26 (by decide) ?_
    refine B.ireturn dX8_open_27 rfl rfl ?_
    exact h
  · replace h := h.2 q1
    refine B.aload_n 0 dX8_open_16 rfl rfl ?_
    obtain ⟨t2, h⟩ := h
    obtain ⟨b3, h⟩ := h
    obtain ⟨t4, h⟩ := h
    refine B.getP dX8_open_17 fl_8_10 t2 t4 ?_
    obtain ⟨t5, h⟩ := h
    refine B.callV (M' := MX7_standingPots) (rc := 0) (rs := 0) (mc := 0) (ms := 0) (st := []) [] dX8_open_20 mv_X7_standingPots lk_X8_87 ⟨Nat.le_of_ble_eq_true rfl, Nat.le_of_ble_eq_true rfl⟩ rfl rfl (Nat.le_of_ble_eq_true rfl) t5 ?_
    exact h
theorem s_X8_open_23 {g : GT} {S : ST} {P : PT} {I : IT} {Q : QT} {r0 : Nat} {w_s0 : Int32} (h : ((¬ w_s0 = 0 → sT S r0 = 9 ∧ ∃ b3, P r0 0 = b3 + 1 ∧ sT S b3 = 8 ∧ T g MX7_giveAllBack 0 0 [.ref b3] S P I (fun r S' P' I' => B g MX8_open 0 0 35 [(0, .ref r0)] (r.toList ++ []) S' P' I' Q)) ∧ (w_s0 = 0 → Q (some (.int (-1))) S P I))) : B g MX8_open 0 0 23 [(0, .ref r0)] [.int w_s0] S P I Q := by
  refine B.if_ne 28 dX8_open_23 (by decide) (fun q1 => ?_) (fun q1 => ?_)
  · replace h := h.1 q1
    refine B.aload_n 0 dX8_open_28 rfl rfl ?_
    obtain ⟨t2, h⟩ := h
    obtain ⟨b3, h⟩ := h
    obtain ⟨t4, h⟩ := h
    refine B.getP dX8_open_29 fl_8_10 t2 t4 ?_
    obtain ⟨t5, h⟩ := h
    refine B.callV (M' := MX7_giveAllBack) (rc := 0) (rs := 0) (mc := 0) (ms := 0) (st := []) [] dX8_open_32 mv_X7_giveAllBack lk_X8_156 ⟨Nat.le_of_ble_eq_true rfl, Nat.le_of_ble_eq_true rfl⟩ rfl rfl (Nat.le_of_ble_eq_true rfl) t5 ?_
    exact h
  · replace h := h.2 q1
    refine B.iconst (-1) dX8_open_26 (by decide) ?_
    refine B.ireturn dX8_open_27 rfl rfl ?_
    exact h
theorem s_X8_open_35 {g : GT} {S : ST} {P : PT} {I : IT} {Q : QT} {r0 : Nat} {w_s0 : Int32} (h : Q (some (.int w_s0)) S P I) : B g MX8_open 0 0 35 [(0, .ref r0)] [.int w_s0] S P I Q := by
  refine B.ireturn dX8_open_35 rfl rfl ?_
  exact h
theorem s_X8_about_0 {g : GT} {S : ST} {P : PT} {I : IT} {Q : QT} {r0 : Nat} {x1 : Int32} {x2 : Int32} (h : sT S r0 = 9 ∧ ∃ b2, P r0 0 = b2 + 1 ∧ sT S b2 = 8 ∧ ((¬ (wi x1 0 ((I b2 11) - 1)) = 0 → ∃ b6, P b2 10 = b6 + 1 ∧ sT S b6 = 44 ∧ ∃ j9, ix x1 j9 (sL S b6) ∧ ∃ b11, P b6 j9 = b11 + 1 ∧ ((x2 = 0 → sT S b11 = 4 ∧ Q (some (.int (I b11 0))) S P I) ∧ (x2 = 1 → sT S b11 = 4 ∧ Q (some (.int (I b11 1))) S P I) ∧ (x2 = 2 → sT S b11 = 4 ∧ Q (some (.int (I b11 2))) S P I) ∧ (x2 = 3 → sT S b11 = 4 ∧ Q (some (.int (I b11 3))) S P I) ∧ (x2 = 4 → sT S b11 = 4 ∧ Q (some (.int (I b11 4))) S P I) ∧ (x2 = 5 → sT S b11 = 4 ∧ Q (some (.int (I b11 5))) S P I) ∧ (x2 = 6 → sT S b11 = 4 ∧ (((I b11 6) = 0 → Q (some (.int 0)) S P I) ∧ (¬ (I b11 6) = 0 → Q (some (.int 1)) S P I))) ∧ (x2 = 7 → sT S b11 = 4 ∧ Q (some (.int (I b11 7))) S P I) ∧ (x2 = 8 → ∃ b23, P b2 1 = b23 + 1 ∧ sT S b23 = 1 ∧ T g MX0_partFor 0 0 [.ref b23, .ref b11] S P I (fun r S' P' I' => B g MX8_about 0 0 139 [(0, .ref r0), (1, .int x1), (2, .int x2), (3, .ref b11)] (r.toList ++ []) S' P' I' Q)) ∧ (¬ x2 = 0 → ¬ x2 = 1 → ¬ x2 = 2 → ¬ x2 = 3 → ¬ x2 = 4 → ¬ x2 = 5 → ¬ x2 = 6 → ¬ x2 = 7 → ¬ x2 = 8 → Q (some (.int (-1))) S P I))) ∧ ((wi x1 0 ((I b2 11) - 1)) = 0 → Q (some (.int (-1))) S P I))) : B g MX8_about 0 0 0 [(0, .ref r0), (1, .int x1), (2, .int x2)] [] S P I Q := by
  refine B.iload_n 1 dX8_about_0 rfl rfl ?_
  refine B.iconst 0 dX8_about_1 (by decide) ?_
  refine B.aload_n 0 dX8_about_2 rfl rfl ?_
  obtain ⟨t1, h⟩ := h
  obtain ⟨b2, h⟩ := h
  obtain ⟨t3, h⟩ := h
  refine B.getP dX8_about_3 fl_8_10 t1 t3 ?_
  obtain ⟨t4, h⟩ := h
  refine B.getI dX8_about_6 fl_8_107 t4 ?_
  refine B.iconst 1 dX8_about_9 (by decide) ?_
  refine B.isub dX8_about_10 ?_
  refine B.callS (M' := MX8_within) (rc := 0) (rs := 0) (mc := 0) (ms := 0) (st := []) [.int x1, .int 0, .int ((I b2 11) - 1)] dX8_about_11 ms_X8_within lk_X8_43 ⟨Nat.le_of_ble_eq_true rfl, Nat.le_of_ble_eq_true rfl⟩ rfl rfl (Nat.le_of_ble_eq_true rfl) (t_within ?_)
  show B g MX8_about 0 0 14 [(0, .ref r0), (1, .int x1), (2, .int x2)] [.int (wi x1 0 ((I b2 11) - 1))] S P I _
  refine B.if_ne 19 dX8_about_14 (by decide) (fun q5 => ?_) (fun q5 => ?_)
  · replace h := h.1 q5
    refine B.aload_n 0 dX8_about_19 rfl rfl ?_
    refine B.getP dX8_about_20 fl_8_10 t1 t3 ?_
    obtain ⟨b6, h⟩ := h
    obtain ⟨t7, h⟩ := h
    refine B.getP dX8_about_23 fl_8_114 t4 t7 ?_
    refine B.iload_n 1 dX8_about_26 rfl rfl ?_
    obtain ⟨t8, h⟩ := h
    obtain ⟨j9, h⟩ := h
    obtain ⟨t10, h⟩ := h
    obtain ⟨b11, h⟩ := h
    obtain ⟨t12, h⟩ := h
    refine B.aaload 4 (by decide) dX8_about_27 t8 t10 t12 ?_
    refine B.astore_n (lv' := [(0, .ref r0), (1, .int x1), (2, .int x2), (3, .ref b11)]) dX8_about_28 rfl (by decide) rfl ?_
    refine B.iload_n 2 dX8_about_29 rfl rfl ?_
    rcases Decidable.em (x2 = 0) with q13 | q13_0
    · replace h := h.1 q13
      refine B.tableIn 80 dX8_about_30 (by rw [q13]; decide) (by rw [q13]; decide) (by rw [q13]; rfl) (by decide) ?_
      refine B.aload_n 3 dX8_about_80 rfl rfl ?_
      obtain ⟨t14, h⟩ := h
      refine B.getI dX8_about_81 fl_8_159 t14 ?_
      refine B.ireturn dX8_about_84 rfl rfl ?_
      exact h
    replace h := h.2
    rcases Decidable.em (x2 = 1) with q13 | q13_1
    · replace h := h.1 q13
      refine B.tableIn 85 dX8_about_30 (by rw [q13]; decide) (by rw [q13]; decide) (by rw [q13]; rfl) (by decide) ?_
      refine B.aload_n 3 dX8_about_85 rfl rfl ?_
      obtain ⟨t15, h⟩ := h
      refine B.getI dX8_about_86 fl_8_162 t15 ?_
      refine B.ireturn dX8_about_89 rfl rfl ?_
      exact h
    replace h := h.2
    rcases Decidable.em (x2 = 2) with q13 | q13_2
    · replace h := h.1 q13
      refine B.tableIn 90 dX8_about_30 (by rw [q13]; decide) (by rw [q13]; decide) (by rw [q13]; rfl) (by decide) ?_
      refine B.aload_n 3 dX8_about_90 rfl rfl ?_
      obtain ⟨t16, h⟩ := h
      refine B.getI dX8_about_91 fl_8_165 t16 ?_
      refine B.ireturn dX8_about_94 rfl rfl ?_
      exact h
    replace h := h.2
    rcases Decidable.em (x2 = 3) with q13 | q13_3
    · replace h := h.1 q13
      refine B.tableIn 95 dX8_about_30 (by rw [q13]; decide) (by rw [q13]; decide) (by rw [q13]; rfl) (by decide) ?_
      refine B.aload_n 3 dX8_about_95 rfl rfl ?_
      obtain ⟨t17, h⟩ := h
      refine B.getI dX8_about_96 fl_8_168 t17 ?_
      refine B.ireturn dX8_about_99 rfl rfl ?_
      exact h
    replace h := h.2
    rcases Decidable.em (x2 = 4) with q13 | q13_4
    · replace h := h.1 q13
      refine B.tableIn 100 dX8_about_30 (by rw [q13]; decide) (by rw [q13]; decide) (by rw [q13]; rfl) (by decide) ?_
      refine B.aload_n 3 dX8_about_100 rfl rfl ?_
      obtain ⟨t18, h⟩ := h
      refine B.getI dX8_about_101 fl_8_171 t18 ?_
      refine B.ireturn dX8_about_104 rfl rfl ?_
      exact h
    replace h := h.2
    rcases Decidable.em (x2 = 5) with q13 | q13_5
    · replace h := h.1 q13
      refine B.tableIn 105 dX8_about_30 (by rw [q13]; decide) (by rw [q13]; decide) (by rw [q13]; rfl) (by decide) ?_
      refine B.aload_n 3 dX8_about_105 rfl rfl ?_
      obtain ⟨t19, h⟩ := h
      refine B.getI dX8_about_106 fl_8_174 t19 ?_
      refine B.ireturn dX8_about_109 rfl rfl ?_
      exact h
    replace h := h.2
    rcases Decidable.em (x2 = 6) with q13 | q13_6
    · replace h := h.1 q13
      refine B.tableIn 110 dX8_about_30 (by rw [q13]; decide) (by rw [q13]; decide) (by rw [q13]; rfl) (by decide) ?_
      refine B.aload_n 3 dX8_about_110 rfl rfl ?_
      obtain ⟨t20, h⟩ := h
      refine B.getI dX8_about_111 fl_8_177 t20 ?_
      refine B.if_eq 121 dX8_about_114 (by decide) (fun q21 => ?_) (fun q21 => ?_)
      · replace h := h.1 q21
        refine B.iconst 0 dX8_about_121 (by decide) ?_
        refine B.ireturn dX8_about_122 rfl rfl ?_
        exact h
      · replace h := h.2 q21
        refine B.iconst 1 dX8_about_117 (by decide) ?_
        refine B.goto_ 122 dX8_about_118 (by decide) ?_
        refine B.ireturn dX8_about_122 rfl rfl ?_
        exact h
    replace h := h.2
    rcases Decidable.em (x2 = 7) with q13 | q13_7
    · replace h := h.1 q13
      refine B.tableIn 123 dX8_about_30 (by rw [q13]; decide) (by rw [q13]; decide) (by rw [q13]; rfl) (by decide) ?_
      refine B.aload_n 3 dX8_about_123 rfl rfl ?_
      obtain ⟨t22, h⟩ := h
      refine B.getI dX8_about_124 fl_8_180 t22 ?_
      refine B.ireturn dX8_about_127 rfl rfl ?_
      exact h
    replace h := h.2
    rcases Decidable.em (x2 = 8) with q13 | q13_8
    · replace h := h.1 q13
      refine B.tableIn 128 dX8_about_30 (by rw [q13]; decide) (by rw [q13]; decide) (by rw [q13]; rfl) (by decide) ?_
      refine B.aload_n 0 dX8_about_128 rfl rfl ?_
      refine B.getP dX8_about_129 fl_8_10 t1 t3 ?_
      obtain ⟨b23, h⟩ := h
      obtain ⟨t24, h⟩ := h
      refine B.getP dX8_about_132 fl_8_58 t4 t24 ?_
      refine B.aload_n 3 dX8_about_135 rfl rfl ?_
      obtain ⟨t25, h⟩ := h
      refine B.callV (M' := MX0_partFor) (rc := 0) (rs := 0) (mc := 0) (ms := 0) (st := []) [.ref b11] dX8_about_136 mv_X0_partFor lk_X8_183 ⟨Nat.le_of_ble_eq_true rfl, Nat.le_of_ble_eq_true rfl⟩ rfl rfl (Nat.le_of_ble_eq_true rfl) t25 ?_
      exact h
    replace h := h.2
    replace h := h q13_0 q13_1 q13_2 q13_3 q13_4 q13_5 q13_6 q13_7 q13_8
    have qo : (x2).toInt < 0 ∨ 8 < (x2).toInt := by
      refine tsw_out (lo := 0) (hi := 8) (by decide) (by decide) (fun c h1 h2 => ?_)
      obtain rfl | rfl | rfl | rfl | rfl | rfl | rfl | rfl | rfl : c = 0 ∨ c = 1 ∨ c = 2 ∨ c = 3 ∨ c = 4 ∨ c = 5 ∨ c = 6 ∨ c = 7 ∨ c = 8 := by omega
      · exact q13_0
      · exact q13_1
      · exact q13_2
      · exact q13_3
      · exact q13_4
      · exact q13_5
      · exact q13_6
      · exact q13_7
      · exact q13_8
    refine B.tableOut 140 dX8_about_30 qo (by decide) ?_
    refine B.iconst (-1) dX8_about_140 (by decide) ?_
    refine B.ireturn dX8_about_141 rfl rfl ?_
    exact h
  · replace h := h.2 q5
    refine B.iconst (-1) dX8_about_17 (by decide) ?_
    refine B.ireturn dX8_about_18 rfl rfl ?_
    exact h
theorem s_X8_about_139 {g : GT} {S : ST} {P : PT} {I : IT} {Q : QT} {r0 : Nat} {x1 : Int32} {x2 : Int32} {r3 : Nat} {w_s0 : Int32} (h : Q (some (.int w_s0)) S P I) : B g MX8_about 0 0 139 [(0, .ref r0), (1, .int x1), (2, .int x2), (3, .ref r3)] [.int w_s0] S P I Q := by
  refine B.ireturn dX8_about_139 rfl rfl ?_
  exact h
theorem s_X8_at_0 {g : GT} {S : ST} {P : PT} {I : IT} {Q : QT} {r0 : Nat} {x1 : Int32} {x2 : Int32} (h : sT S r0 = 9 ∧ ∃ b2, P r0 0 = b2 + 1 ∧ sT S b2 = 8 ∧ ∃ b5, P b2 9 = b5 + 1 ∧ sT S b5 = 3 ∧ (((wi x1 0 ((I b5 0) - 1)) = 0 → Q (some (.int (-1))) S P I) ∧ (¬ (wi x1 0 ((I b5 0) - 1)) = 0 → (((wi x2 0 3) = 0 → Q (some (.int (-1))) S P I) ∧ (¬ (wi x2 0 3) = 0 → ∃ b10, P b5 6 = b10 + 1 ∧ sT S b10 = 40 ∧ ∃ j13, ix ((x1 * 4) + x2) j13 (sL S b10) ∧ Q (some (.int (I b10 j13))) S P I))))) : B g MX8_at 0 0 0 [(0, .ref r0), (1, .int x1), (2, .int x2)] [] S P I Q := by
  refine B.aload_n 0 dX8_at_0 rfl rfl ?_
  obtain ⟨t1, h⟩ := h
  obtain ⟨b2, h⟩ := h
  obtain ⟨t3, h⟩ := h
  refine B.getP dX8_at_1 fl_8_10 t1 t3 ?_
  obtain ⟨t4, h⟩ := h
  obtain ⟨b5, h⟩ := h
  obtain ⟨t6, h⟩ := h
  refine B.getP dX8_at_4 fl_8_91 t4 t6 ?_
  refine B.iload_n 1 dX8_at_7 rfl rfl ?_
  refine B.iload_n 2 dX8_at_8 rfl rfl ?_
  obtain ⟨t7, h⟩ := h
  refine B.callV (M' := MX2_hasPlace) (rc := 0) (rs := 0) (mc := 0) (ms := 0) (st := []) [.int x1, .int x2] dX8_at_9 mv_X2_hasPlace lk_X8_100 ⟨Nat.le_of_ble_eq_true rfl, Nat.le_of_ble_eq_true rfl⟩ rfl rfl (Nat.le_of_ble_eq_true rfl) t7 ?_
  refine T_of rfl (Nat.le_of_ble_eq_true rfl) ?_
  show B g MX2_hasPlace 0 0 0 [(0, .ref b5), (1, .int x1), (2, .int x2)] [] S P I _
  refine B.aload_n 0 dX2_hasPlace_0 rfl rfl ?_
  refine B.iload_n 1 dX2_hasPlace_1 rfl rfl ?_
  refine B.callV (M' := MX2_hasChamber) (rc := 0) (rs := 0) (mc := 0) (ms := 0) (st := []) [.int x1] dX2_hasPlace_2 mv_X2_hasChamber lk_X2_51 ⟨Nat.le_of_ble_eq_true rfl, Nat.le_of_ble_eq_true rfl⟩ rfl rfl (Nat.le_of_ble_eq_true rfl) t7 ?_
  refine T_of rfl (Nat.le_of_ble_eq_true rfl) ?_
  show B g MX2_hasChamber 0 0 0 [(0, .ref b5), (1, .int x1)] [] S P I _
  refine B.iload_n 1 dX2_hasChamber_0 rfl rfl ?_
  refine B.iconst 0 dX2_hasChamber_1 (by decide) ?_
  refine B.aload_n 0 dX2_hasChamber_2 rfl rfl ?_
  refine B.getI dX2_hasChamber_3 fl_2_9 t7 ?_
  refine B.iconst 1 dX2_hasChamber_6 (by decide) ?_
  refine B.isub dX2_hasChamber_7 ?_
  refine B.callSN (M' := MX8_within) (rc := 0) (rs := 0) (mc := 0) (ms := 0) (st := []) [.int x1, .int 0, .int ((I b5 0) - 1)] "KilnVillage" dX2_hasChamber_8 ms_X8_within ⟨595, by decide +kernel⟩ ⟨Nat.le_of_ble_eq_true rfl, Nat.le_of_ble_eq_true rfl⟩ rfl rfl (Nat.le_of_ble_eq_true rfl) (t_within ?_)
  show B g MX2_hasChamber 0 0 11 [(0, .ref b5), (1, .int x1)] [.int (wi x1 0 ((I b5 0) - 1))] S P I _
  refine B.ireturn dX2_hasChamber_11 rfl (nar_z (wi_01 _ _ _)) ?_
  show B g MX2_hasPlace 0 0 5 [(0, .ref b5), (1, .int x1), (2, .int x2)] [.int (wi x1 0 ((I b5 0) - 1))] S P I _
  refine B.if_eq 21 dX2_hasPlace_5 (by decide) (fun q8 => ?_) (fun q8 => ?_)
  · replace h := h.1 q8
    refine B.iconst 0 dX2_hasPlace_21 (by decide) ?_
    refine B.ireturn dX2_hasPlace_22 rfl rfl ?_
    show B g MX8_at 0 0 12 [(0, .ref r0), (1, .int x1), (2, .int x2)] [.int 0] S P I _
    refine B.if_eq 34 dX8_at_12 (by decide) (fun _ => ?_) (fun q => absurd q (by decide))
    refine B.iconst (-1) dX8_at_34 (by decide) ?_
    refine B.ireturn dX8_at_35 rfl rfl ?_
    exact h
  · replace h := h.2 q8
    refine B.iload_n 2 dX2_hasPlace_8 rfl rfl ?_
    refine B.iconst 0 dX2_hasPlace_9 (by decide) ?_
    refine B.iconst 3 dX2_hasPlace_10 (by decide) ?_
    refine B.callSN (M' := MX8_within) (rc := 0) (rs := 0) (mc := 0) (ms := 0) (st := []) [.int x2, .int 0, .int 3] "KilnVillage" dX2_hasPlace_11 ms_X8_within ⟨595, by decide +kernel⟩ ⟨Nat.le_of_ble_eq_true rfl, Nat.le_of_ble_eq_true rfl⟩ rfl rfl (Nat.le_of_ble_eq_true rfl) (t_within ?_)
    show B g MX2_hasPlace 0 0 14 [(0, .ref b5), (1, .int x1), (2, .int x2)] [.int (wi x2 0 3)] S P I _
    refine B.if_eq 21 dX2_hasPlace_14 (by decide) (fun q9 => ?_) (fun q9 => ?_)
    · replace h := h.1 q9
      refine B.iconst 0 dX2_hasPlace_21 (by decide) ?_
      refine B.ireturn dX2_hasPlace_22 rfl rfl ?_
      show B g MX8_at 0 0 12 [(0, .ref r0), (1, .int x1), (2, .int x2)] [.int 0] S P I _
      refine B.if_eq 34 dX8_at_12 (by decide) (fun _ => ?_) (fun q => absurd q (by decide))
      refine B.iconst (-1) dX8_at_34 (by decide) ?_
      refine B.ireturn dX8_at_35 rfl rfl ?_
      exact h
    · replace h := h.2 q9
      refine B.iconst 1 dX2_hasPlace_17 (by decide) ?_
      refine B.goto_ 22 dX2_hasPlace_18 (by decide) ?_
      refine B.ireturn dX2_hasPlace_22 rfl rfl ?_
      show B g MX8_at 0 0 12 [(0, .ref r0), (1, .int x1), (2, .int x2)] [.int 1] S P I _
      refine B.if_eq 34 dX8_at_12 (by decide) (fun q => absurd q (by decide)) (fun _ => ?_)
      refine B.aload_n 0 dX8_at_15 rfl rfl ?_
      refine B.getP dX8_at_16 fl_8_10 t1 t3 ?_
      refine B.getP dX8_at_19 fl_8_91 t4 t6 ?_
      obtain ⟨b10, h⟩ := h
      obtain ⟨t11, h⟩ := h
      refine B.getP dX8_at_22 fl_8_187 t7 t11 ?_
      refine B.iload_n 1 dX8_at_25 rfl rfl ?_
      refine B.iconst 4 dX8_at_26 (by decide) ?_
      refine B.imul dX8_at_27 ?_
      refine B.iload_n 2 dX8_at_28 rfl rfl ?_
      refine B.iadd dX8_at_29 ?_
      obtain ⟨t12, h⟩ := h
      obtain ⟨j13, h⟩ := h
      obtain ⟨t14, h⟩ := h
      refine B.iaload dX8_at_30 t12 t14 ?_
      refine B.goto_ 35 dX8_at_31 (by decide) ?_
      refine B.ireturn dX8_at_35 rfl rfl ?_
      exact h
theorem s_X8_tell_0 {g : GT} {S : ST} {P : PT} {I : IT} {Q : QT} {r0 : Nat} {x1 : Int32} {x2 : Int32} (h : sT S r0 = 9 ∧ ∃ b2, P r0 0 = b2 + 1 ∧ sT S b2 = 8 ∧ ((¬ (wi x1 0 ((I b2 5) - 1)) = 0 → ∃ b6, P b2 4 = b6 + 1 ∧ sT S b6 = 43 ∧ ∃ j9, ix x1 j9 (sL S b6) ∧ ∃ b11, P b6 j9 = b11 + 1 ∧ ((x2 = 0 → sT S b11 = 2 ∧ Q (some (.int (I b11 0))) S P I) ∧ (x2 = 1 → sT S b11 = 2 ∧ Q (some (.int (I b11 1))) S P I) ∧ (x2 = 2 → T g MX7_potsOf 0 0 [.ref b2, .int x1, .int 0] S P I (fun r S' P' I' => B g MX8_tell 0 0 91 [(0, .ref r0), (1, .int x1), (2, .int x2), (3, .ref b11)] (r.toList ++ []) S' P' I' Q)) ∧ (x2 = 3 → T g MX7_potsOf 0 0 [.ref b2, .int x1, .int 1] S P I (fun r S' P' I' => B g MX8_tell 0 0 101 [(0, .ref r0), (1, .int x1), (2, .int x2), (3, .ref b11)] (r.toList ++ []) S' P' I' Q)) ∧ (x2 = 4 → sT S b11 = 2 ∧ Q (some (.int (I b11 4))) S P I) ∧ (x2 = 5 → sT S b11 = 2 ∧ T g MX1_bestOrders 0 0 [.ref b11] S P I (fun r S' P' I' => B g MX8_tell 0 0 112 [(0, .ref r0), (1, .int x1), (2, .int x2), (3, .ref b11)] (r.toList ++ [.ref b11]) S' P' I' Q)) ∧ (x2 = 6 → sT S b11 = 2 ∧ T g MX1_bestOrders 0 0 [.ref b11] S P I (fun r S' P' I' => B g MX8_tell 0 0 120 [(0, .ref r0), (1, .int x1), (2, .int x2), (3, .ref b11)] (r.toList ++ []) S' P' I' Q)) ∧ (x2 = 7 → sT S b11 = 2 ∧ Q (some (.int (I b11 3))) S P I) ∧ (¬ x2 = 0 → ¬ x2 = 1 → ¬ x2 = 2 → ¬ x2 = 3 → ¬ x2 = 4 → ¬ x2 = 5 → ¬ x2 = 6 → ¬ x2 = 7 → Q (some (.int (-1000000000))) S P I))) ∧ ((wi x1 0 ((I b2 5) - 1)) = 0 → Q (some (.int (-1000000000))) S P I))) : B g MX8_tell 0 0 0 [(0, .ref r0), (1, .int x1), (2, .int x2)] [] S P I Q := by
  refine B.aload_n 0 dX8_tell_0 rfl rfl ?_
  obtain ⟨t1, h⟩ := h
  obtain ⟨b2, h⟩ := h
  obtain ⟨t3, h⟩ := h
  refine B.getP dX8_tell_1 fl_8_10 t1 t3 ?_
  refine B.iload_n 1 dX8_tell_4 rfl rfl ?_
  obtain ⟨t4, h⟩ := h
  refine B.callV (M' := MX7_hasHouse) (rc := 0) (rs := 0) (mc := 0) (ms := 0) (st := []) [.int x1] dX8_tell_5 mv_X7_hasHouse lk_X8_110 ⟨Nat.le_of_ble_eq_true rfl, Nat.le_of_ble_eq_true rfl⟩ rfl rfl (Nat.le_of_ble_eq_true rfl) t4 ?_
  refine T_of rfl (Nat.le_of_ble_eq_true rfl) ?_
  show B g MX7_hasHouse 0 0 0 [(0, .ref b2), (1, .int x1)] [] S P I _
  refine B.iload_n 1 dX7_hasHouse_0 rfl rfl ?_
  refine B.iconst 0 dX7_hasHouse_1 (by decide) ?_
  refine B.aload_n 0 dX7_hasHouse_2 rfl rfl ?_
  refine B.getI dX7_hasHouse_3 fl_7_38 t4 ?_
  refine B.iconst 1 dX7_hasHouse_6 (by decide) ?_
  refine B.isub dX7_hasHouse_7 ?_
  refine B.callSN (M' := MX8_within) (rc := 0) (rs := 0) (mc := 0) (ms := 0) (st := []) [.int x1, .int 0, .int ((I b2 5) - 1)] "KilnVillage" dX7_hasHouse_8 ms_X8_within ⟨604, by decide +kernel⟩ ⟨Nat.le_of_ble_eq_true rfl, Nat.le_of_ble_eq_true rfl⟩ rfl rfl (Nat.le_of_ble_eq_true rfl) (t_within ?_)
  show B g MX7_hasHouse 0 0 11 [(0, .ref b2), (1, .int x1)] [.int (wi x1 0 ((I b2 5) - 1))] S P I _
  refine B.ireturn dX7_hasHouse_11 rfl (nar_z (wi_01 _ _ _)) ?_
  show B g MX8_tell 0 0 8 [(0, .ref r0), (1, .int x1), (2, .int x2)] [.int (wi x1 0 ((I b2 5) - 1))] S P I _
  refine B.if_ne 14 dX8_tell_8 (by decide) (fun q5 => ?_) (fun q5 => ?_)
  · replace h := h.1 q5
    refine B.aload_n 0 dX8_tell_14 rfl rfl ?_
    refine B.getP dX8_tell_15 fl_8_10 t1 t3 ?_
    obtain ⟨b6, h⟩ := h
    obtain ⟨t7, h⟩ := h
    refine B.getP dX8_tell_18 fl_8_124 t4 t7 ?_
    refine B.iload_n 1 dX8_tell_21 rfl rfl ?_
    obtain ⟨t8, h⟩ := h
    obtain ⟨j9, h⟩ := h
    obtain ⟨t10, h⟩ := h
    obtain ⟨b11, h⟩ := h
    obtain ⟨t12, h⟩ := h
    refine B.aaload 3 (by decide) dX8_tell_22 t8 t10 t12 ?_
    refine B.astore_n (lv' := [(0, .ref r0), (1, .int x1), (2, .int x2), (3, .ref b11)]) dX8_tell_23 rfl (by decide) rfl ?_
    refine B.iload_n 2 dX8_tell_24 rfl rfl ?_
    rcases Decidable.em (x2 = 0) with q13 | q13_0
    · replace h := h.1 q13
      refine B.tableIn 72 dX8_tell_25 (by rw [q13]; decide) (by rw [q13]; decide) (by rw [q13]; rfl) (by decide) ?_
      refine B.aload_n 3 dX8_tell_72 rfl rfl ?_
      obtain ⟨t14, h⟩ := h
      refine B.getI dX8_tell_73 fl_8_191 t14 ?_
      refine B.ireturn dX8_tell_76 rfl rfl ?_
      exact h
    replace h := h.2
    rcases Decidable.em (x2 = 1) with q13 | q13_1
    · replace h := h.1 q13
      refine B.tableIn 77 dX8_tell_25 (by rw [q13]; decide) (by rw [q13]; decide) (by rw [q13]; rfl) (by decide) ?_
      refine B.aload_n 3 dX8_tell_77 rfl rfl ?_
      obtain ⟨t15, h⟩ := h
      refine B.getI dX8_tell_78 fl_8_194 t15 ?_
      refine B.ireturn dX8_tell_81 rfl rfl ?_
      exact h
    replace h := h.2
    rcases Decidable.em (x2 = 2) with q13 | q13_2
    · replace h := h.1 q13
      refine B.tableIn 82 dX8_tell_25 (by rw [q13]; decide) (by rw [q13]; decide) (by rw [q13]; rfl) (by decide) ?_
      refine B.aload_n 0 dX8_tell_82 rfl rfl ?_
      refine B.getP dX8_tell_83 fl_8_10 t1 t3 ?_
      refine B.iload_n 1 dX8_tell_86 rfl rfl ?_
      refine B.iconst 0 dX8_tell_87 (by decide) ?_
      refine B.callV (M' := MX7_potsOf) (rc := 0) (rs := 0) (mc := 0) (ms := 0) (st := []) [.int x1, .int 0] dX8_tell_88 mv_X7_potsOf lk_X8_197 ⟨Nat.le_of_ble_eq_true rfl, Nat.le_of_ble_eq_true rfl⟩ rfl rfl (Nat.le_of_ble_eq_true rfl) t4 ?_
      exact h
    replace h := h.2
    rcases Decidable.em (x2 = 3) with q13 | q13_3
    · replace h := h.1 q13
      refine B.tableIn 92 dX8_tell_25 (by rw [q13]; decide) (by rw [q13]; decide) (by rw [q13]; rfl) (by decide) ?_
      refine B.aload_n 0 dX8_tell_92 rfl rfl ?_
      refine B.getP dX8_tell_93 fl_8_10 t1 t3 ?_
      refine B.iload_n 1 dX8_tell_96 rfl rfl ?_
      refine B.iconst 1 dX8_tell_97 (by decide) ?_
      refine B.callV (M' := MX7_potsOf) (rc := 0) (rs := 0) (mc := 0) (ms := 0) (st := []) [.int x1, .int 1] dX8_tell_98 mv_X7_potsOf lk_X8_197 ⟨Nat.le_of_ble_eq_true rfl, Nat.le_of_ble_eq_true rfl⟩ rfl rfl (Nat.le_of_ble_eq_true rfl) t4 ?_
      exact h
    replace h := h.2
    rcases Decidable.em (x2 = 4) with q13 | q13_4
    · replace h := h.1 q13
      refine B.tableIn 102 dX8_tell_25 (by rw [q13]; decide) (by rw [q13]; decide) (by rw [q13]; rfl) (by decide) ?_
      refine B.aload_n 3 dX8_tell_102 rfl rfl ?_
      obtain ⟨t16, h⟩ := h
      refine B.getI dX8_tell_103 fl_8_201 t16 ?_
      refine B.ireturn dX8_tell_106 rfl rfl ?_
      exact h
    replace h := h.2
    rcases Decidable.em (x2 = 5) with q13 | q13_5
    · replace h := h.1 q13
      refine B.tableIn 107 dX8_tell_25 (by rw [q13]; decide) (by rw [q13]; decide) (by rw [q13]; rfl) (by decide) ?_
      refine B.aload_n 3 dX8_tell_107 rfl rfl ?_
      refine B.aload_n 3 dX8_tell_108 rfl rfl ?_
      obtain ⟨t17, h⟩ := h
      refine B.callV (M' := MX1_bestOrders) (rc := 0) (rs := 0) (mc := 0) (ms := 0) (st := [.ref b11]) [] dX8_tell_109 mv_X1_bestOrders lk_X8_204 ⟨Nat.le_of_ble_eq_true rfl, Nat.le_of_ble_eq_true rfl⟩ rfl rfl (Nat.le_of_ble_eq_true rfl) t17 ?_
      exact h
    replace h := h.2
    rcases Decidable.em (x2 = 6) with q13 | q13_6
    · replace h := h.1 q13
      refine B.tableIn 116 dX8_tell_25 (by rw [q13]; decide) (by rw [q13]; decide) (by rw [q13]; rfl) (by decide) ?_
      refine B.aload_n 3 dX8_tell_116 rfl rfl ?_
      obtain ⟨t18, h⟩ := h
      refine B.callV (M' := MX1_bestOrders) (rc := 0) (rs := 0) (mc := 0) (ms := 0) (st := []) [] dX8_tell_117 mv_X1_bestOrders lk_X8_204 ⟨Nat.le_of_ble_eq_true rfl, Nat.le_of_ble_eq_true rfl⟩ rfl rfl (Nat.le_of_ble_eq_true rfl) t18 ?_
      exact h
    replace h := h.2
    rcases Decidable.em (x2 = 7) with q13 | q13_7
    · replace h := h.1 q13
      refine B.tableIn 121 dX8_tell_25 (by rw [q13]; decide) (by rw [q13]; decide) (by rw [q13]; rfl) (by decide) ?_
      refine B.aload_n 3 dX8_tell_121 rfl rfl ?_
      obtain ⟨t19, h⟩ := h
      refine B.getI dX8_tell_122 fl_8_211 t19 ?_
      refine B.ireturn dX8_tell_125 rfl rfl ?_
      exact h
    replace h := h.2
    replace h := h q13_0 q13_1 q13_2 q13_3 q13_4 q13_5 q13_6 q13_7
    have qo : (x2).toInt < 0 ∨ 7 < (x2).toInt := by
      refine tsw_out (lo := 0) (hi := 7) (by decide) (by decide) (fun c h1 h2 => ?_)
      obtain rfl | rfl | rfl | rfl | rfl | rfl | rfl | rfl : c = 0 ∨ c = 1 ∨ c = 2 ∨ c = 3 ∨ c = 4 ∨ c = 5 ∨ c = 6 ∨ c = 7 := by omega
      · exact q13_0
      · exact q13_1
      · exact q13_2
      · exact q13_3
      · exact q13_4
      · exact q13_5
      · exact q13_6
      · exact q13_7
    refine B.tableOut 126 dX8_tell_25 qo (by decide) ?_
    refine B.ldc (-1000000000) dX8_tell_126 kc_X8_190 ?_
    refine B.ireturn dX8_tell_128 rfl rfl ?_
    exact h
  · replace h := h.2 q5
    refine B.ldc (-1000000000) dX8_tell_11 kc_X8_190 ?_
    refine B.ireturn dX8_tell_13 rfl rfl ?_
    exact h
theorem s_X8_tell_91 {g : GT} {S : ST} {P : PT} {I : IT} {Q : QT} {r0 : Nat} {x1 : Int32} {x2 : Int32} {r3 : Nat} {w_s0 : Int32} (h : Q (some (.int w_s0)) S P I) : B g MX8_tell 0 0 91 [(0, .ref r0), (1, .int x1), (2, .int x2), (3, .ref r3)] [.int w_s0] S P I Q := by
  refine B.ireturn dX8_tell_91 rfl rfl ?_
  exact h
theorem s_X8_tell_101 {g : GT} {S : ST} {P : PT} {I : IT} {Q : QT} {r0 : Nat} {x1 : Int32} {x2 : Int32} {r3 : Nat} {w_s0 : Int32} (h : Q (some (.int w_s0)) S P I) : B g MX8_tell 0 0 101 [(0, .ref r0), (1, .int x1), (2, .int x2), (3, .ref r3)] [.int w_s0] S P I Q := by
  refine B.ireturn dX8_tell_101 rfl rfl ?_
  exact h
theorem s_X8_tell_112 {g : GT} {S : ST} {P : PT} {I : IT} {Q : QT} {r0 : Nat} {x1 : Int32} {x2 : Int32} {r3 : Nat} {w_s0 : Int32} {a_s1 : Nat} (h : sT S a_s1 = 2 ∧ T g MX1_worthOf 0 0 [.ref a_s1, .int w_s0] S P I (fun r S' P' I' => B g MX8_tell 0 0 115 [(0, .ref r0), (1, .int x1), (2, .int x2), (3, .ref r3)] (r.toList ++ []) S' P' I' Q)) : B g MX8_tell 0 0 112 [(0, .ref r0), (1, .int x1), (2, .int x2), (3, .ref r3)] [.int w_s0, .ref a_s1] S P I Q := by
  obtain ⟨t1, h⟩ := h
  refine B.callV (M' := MX1_worthOf) (rc := 0) (rs := 0) (mc := 0) (ms := 0) (st := []) [.int w_s0] dX8_tell_112 mv_X1_worthOf lk_X8_207 ⟨Nat.le_of_ble_eq_true rfl, Nat.le_of_ble_eq_true rfl⟩ rfl rfl (Nat.le_of_ble_eq_true rfl) t1 ?_
  exact h
theorem s_X8_tell_115 {g : GT} {S : ST} {P : PT} {I : IT} {Q : QT} {r0 : Nat} {x1 : Int32} {x2 : Int32} {r3 : Nat} {w_s0 : Int32} (h : Q (some (.int w_s0)) S P I) : B g MX8_tell 0 0 115 [(0, .ref r0), (1, .int x1), (2, .int x2), (3, .ref r3)] [.int w_s0] S P I Q := by
  refine B.ireturn dX8_tell_115 rfl rfl ?_
  exact h
theorem s_X8_tell_120 {g : GT} {S : ST} {P : PT} {I : IT} {Q : QT} {r0 : Nat} {x1 : Int32} {x2 : Int32} {r3 : Nat} {w_s0 : Int32} (h : Q (some (.int w_s0)) S P I) : B g MX8_tell 0 0 120 [(0, .ref r0), (1, .int x1), (2, .int x2), (3, .ref r3)] [.int w_s0] S P I Q := by
  refine B.ireturn dX8_tell_120 rfl rfl ?_
  exact h
theorem s_X8_order_0 {g : GT} {S : ST} {P : PT} {I : IT} {Q : QT} {r0 : Nat} {x1 : Int32} {x2 : Int32} {x3 : Int32} {x4 : Int32} (h : sT S r0 = 9 ∧ ∃ b2, P r0 0 = b2 + 1 ∧ sT S b2 = 8 ∧ (((wi x1 0 ((I b2 5) - 1)) = 0 → Q (some (.int (-1))) S P I) ∧ (¬ (wi x1 0 ((I b2 5) - 1)) = 0 → ∃ b6, P b2 4 = b6 + 1 ∧ sT S b6 = 43 ∧ ∃ j9, ix x1 j9 (sL S b6) ∧ ∃ b11, P b6 j9 = b11 + 1 ∧ sT S b11 = 2 ∧ ((8 ≤ (I b11 4) → Q (some (.int (-1))) S P I) ∧ (¬ 8 ≤ (I b11 4) → (((wi x2 1 30) = 0 → Q (some (.int (-1))) S P I) ∧ (¬ (wi x2 1 30) = 0 → (((wi x3 1 200) = 0 → Q (some (.int (-1))) S P I) ∧ (¬ (wi x3 1 200) = 0 → ((¬ (wi x4 1 999) = 0 → T g MX1_takeOrder 0 0 [.ref b11, .int x2, .int x3, .int x4] S P I (fun r S' P' I' => B g MX8_order 0 0 83 [(0, .ref r0), (1, .int x1), (2, .int x2), (3, .int x3), (4, .int x4), (5, .ref b11)] (r.toList ++ []) S' P' I' Q)) ∧ ((wi x4 1 999) = 0 → Q (some (.int (-1))) S P I))))))))))) : B g MX8_order 0 0 0 [(0, .ref r0), (1, .int x1), (2, .int x2), (3, .int x3), (4, .int x4)] [] S P I Q := by
  refine B.aload_n 0 dX8_order_0 rfl rfl ?_
  obtain ⟨t1, h⟩ := h
  obtain ⟨b2, h⟩ := h
  obtain ⟨t3, h⟩ := h
  refine B.getP dX8_order_1 fl_8_10 t1 t3 ?_
  refine B.iload_n 1 dX8_order_4 rfl rfl ?_
  obtain ⟨t4, h⟩ := h
  refine B.callV (M' := MX7_hasHouse) (rc := 0) (rs := 0) (mc := 0) (ms := 0) (st := []) [.int x1] dX8_order_5 mv_X7_hasHouse lk_X8_110 ⟨Nat.le_of_ble_eq_true rfl, Nat.le_of_ble_eq_true rfl⟩ rfl rfl (Nat.le_of_ble_eq_true rfl) t4 ?_
  refine T_of rfl (Nat.le_of_ble_eq_true rfl) ?_
  show B g MX7_hasHouse 0 0 0 [(0, .ref b2), (1, .int x1)] [] S P I _
  refine B.iload_n 1 dX7_hasHouse_0 rfl rfl ?_
  refine B.iconst 0 dX7_hasHouse_1 (by decide) ?_
  refine B.aload_n 0 dX7_hasHouse_2 rfl rfl ?_
  refine B.getI dX7_hasHouse_3 fl_7_38 t4 ?_
  refine B.iconst 1 dX7_hasHouse_6 (by decide) ?_
  refine B.isub dX7_hasHouse_7 ?_
  refine B.callSN (M' := MX8_within) (rc := 0) (rs := 0) (mc := 0) (ms := 0) (st := []) [.int x1, .int 0, .int ((I b2 5) - 1)] "KilnVillage" dX7_hasHouse_8 ms_X8_within ⟨604, by decide +kernel⟩ ⟨Nat.le_of_ble_eq_true rfl, Nat.le_of_ble_eq_true rfl⟩ rfl rfl (Nat.le_of_ble_eq_true rfl) (t_within ?_)
  show B g MX7_hasHouse 0 0 11 [(0, .ref b2), (1, .int x1)] [.int (wi x1 0 ((I b2 5) - 1))] S P I _
  refine B.ireturn dX7_hasHouse_11 rfl (nar_z (wi_01 _ _ _)) ?_
  show B g MX8_order 0 0 8 [(0, .ref r0), (1, .int x1), (2, .int x2), (3, .int x3), (4, .int x4)] [.int (wi x1 0 ((I b2 5) - 1))] S P I _
  refine B.if_eq 61 dX8_order_8 (by decide) (fun q5 => ?_) (fun q5 => ?_)
  · replace h := h.1 q5
    refine B.iconst (-1) dX8_order_61 (by decide) ?_
    refine B.ireturn dX8_order_62 rfl rfl ?_
    exact h
  · replace h := h.2 q5
    refine B.aload_n 0 dX8_order_11 rfl rfl ?_
    refine B.getP dX8_order_12 fl_8_10 t1 t3 ?_
    obtain ⟨b6, h⟩ := h
    obtain ⟨t7, h⟩ := h
    refine B.getP dX8_order_15 fl_8_124 t4 t7 ?_
    refine B.iload_n 1 dX8_order_18 rfl rfl ?_
    obtain ⟨t8, h⟩ := h
    obtain ⟨j9, h⟩ := h
    obtain ⟨t10, h⟩ := h
    obtain ⟨b11, h⟩ := h
    obtain ⟨t12, h⟩ := h
    refine B.aaload 3 (by decide) dX8_order_19 t8 t10 t12 ?_
    obtain ⟨t13, h⟩ := h
    refine B.getI dX8_order_20 fl_8_201 t13 ?_
    refine B.bipush 8 dX8_order_23 (by decide) ?_
    refine B.icmp_ge 61 dX8_order_25 (by decide) (fun q14 => ?_) (fun q14 => ?_)
    · replace h := h.1 q14
      refine B.iconst (-1) dX8_order_61 (by decide) ?_
      refine B.ireturn dX8_order_62 rfl rfl ?_
      exact h
    · replace h := h.2 q14
      refine B.iload_n 2 dX8_order_28 rfl rfl ?_
      refine B.iconst 1 dX8_order_29 (by decide) ?_
      refine B.bipush 30 dX8_order_30 (by decide) ?_
      refine B.callS (M' := MX8_within) (rc := 0) (rs := 0) (mc := 0) (ms := 0) (st := []) [.int x2, .int 1, .int 30] dX8_order_32 ms_X8_within lk_X8_43 ⟨Nat.le_of_ble_eq_true rfl, Nat.le_of_ble_eq_true rfl⟩ rfl rfl (Nat.le_of_ble_eq_true rfl) (t_within ?_)
      show B g MX8_order 0 0 35 [(0, .ref r0), (1, .int x1), (2, .int x2), (3, .int x3), (4, .int x4)] [.int (wi x2 1 30)] S P I _
      refine B.if_eq 61 dX8_order_35 (by decide) (fun q15 => ?_) (fun q15 => ?_)
      · replace h := h.1 q15
        refine B.iconst (-1) dX8_order_61 (by decide) ?_
        refine B.ireturn dX8_order_62 rfl rfl ?_
        exact h
      · replace h := h.2 q15
        refine B.iload_n 3 dX8_order_38 rfl rfl ?_
        refine B.iconst 1 dX8_order_39 (by decide) ?_
        refine B.sipush 200 dX8_order_40 (by decide) ?_
        refine B.callS (M' := MX8_within) (rc := 0) (rs := 0) (mc := 0) (ms := 0) (st := []) [.int x3, .int 1, .int 200] dX8_order_43 ms_X8_within lk_X8_43 ⟨Nat.le_of_ble_eq_true rfl, Nat.le_of_ble_eq_true rfl⟩ rfl rfl (Nat.le_of_ble_eq_true rfl) (t_within ?_)
        show B g MX8_order 0 0 46 [(0, .ref r0), (1, .int x1), (2, .int x2), (3, .int x3), (4, .int x4)] [.int (wi x3 1 200)] S P I _
        refine B.if_eq 61 dX8_order_46 (by decide) (fun q16 => ?_) (fun q16 => ?_)
        · replace h := h.1 q16
          refine B.iconst (-1) dX8_order_61 (by decide) ?_
          refine B.ireturn dX8_order_62 rfl rfl ?_
          exact h
        · replace h := h.2 q16
          refine B.iload 4 dX8_order_49 rfl ?_
          refine B.iconst 1 dX8_order_51 (by decide) ?_
          refine B.sipush 999 dX8_order_52 (by decide) ?_
          refine B.callS (M' := MX8_within) (rc := 0) (rs := 0) (mc := 0) (ms := 0) (st := []) [.int x4, .int 1, .int 999] dX8_order_55 ms_X8_within lk_X8_43 ⟨Nat.le_of_ble_eq_true rfl, Nat.le_of_ble_eq_true rfl⟩ rfl rfl (Nat.le_of_ble_eq_true rfl) (t_within ?_)
          show B g MX8_order 0 0 58 [(0, .ref r0), (1, .int x1), (2, .int x2), (3, .int x3), (4, .int x4)] [.int (wi x4 1 999)] S P I _
          refine B.if_ne 63 dX8_order_58 (by decide) (fun q17 => ?_) (fun q17 => ?_)
          · replace h := h.1 q17
            refine B.aload_n 0 dX8_order_63 rfl rfl ?_
            refine B.getP dX8_order_64 fl_8_10 t1 t3 ?_
            refine B.getP dX8_order_67 fl_8_124 t4 t7 ?_
            refine B.iload_n 1 dX8_order_70 rfl rfl ?_
            refine B.aaload 3 (by decide) dX8_order_71 t8 t10 t12 ?_
            refine B.astore (lv' := [(0, .ref r0), (1, .int x1), (2, .int x2), (3, .int x3), (4, .int x4), (5, .ref b11)]) dX8_order_72 (by decide) rfl ?_
            refine B.aload 5 dX8_order_74 rfl ?_
            refine B.iload_n 2 dX8_order_76 rfl rfl ?_
            refine B.iload_n 3 dX8_order_77 rfl rfl ?_
            refine B.iload 4 dX8_order_78 rfl ?_
            refine B.callV (M' := MX1_takeOrder) (rc := 0) (rs := 0) (mc := 0) (ms := 0) (st := []) [.int x2, .int x3, .int x4] dX8_order_80 mv_X1_takeOrder lk_X8_214 ⟨Nat.le_of_ble_eq_true rfl, Nat.le_of_ble_eq_true rfl⟩ rfl rfl (Nat.le_of_ble_eq_true rfl) t13 ?_
            exact h
          · replace h := h.2 q17
            refine B.iconst (-1) dX8_order_61 (by decide) ?_
            refine B.ireturn dX8_order_62 rfl rfl ?_
            exact h
theorem s_X8_order_83 {g : GT} {S : ST} {P : PT} {I : IT} {Q : QT} {r0 : Nat} {x1 : Int32} {x2 : Int32} {x3 : Int32} {x4 : Int32} {r5 : Nat} (h : sT S r5 = 2 ∧ Q (some (.int ((I r5 4) - 1))) S P I) : B g MX8_order 0 0 83 [(0, .ref r0), (1, .int x1), (2, .int x2), (3, .int x3), (4, .int x4), (5, .ref r5)] [] S P I Q := by
  refine B.aload 5 dX8_order_83 rfl ?_
  obtain ⟨t1, h⟩ := h
  refine B.getI dX8_order_85 fl_8_201 t1 ?_
  refine B.iconst 1 dX8_order_88 (by decide) ?_
  refine B.isub dX8_order_89 ?_
  refine B.ireturn dX8_order_90 rfl rfl ?_
  exact h
theorem s_X8_inTime_0 {g : GT} {S : ST} {P : PT} {I : IT} {Q : QT} {r0 : Nat} {x1 : Int32} {x2 : Int32} (h : sT S r0 = 9 ∧ ∃ b2, P r0 0 = b2 + 1 ∧ sT S b2 = 8 ∧ (((wi x1 0 ((I b2 5) - 1)) = 0 → Q (some (.int 0)) S P I) ∧ (¬ (wi x1 0 ((I b2 5) - 1)) = 0 → ∃ b6, P b2 4 = b6 + 1 ∧ sT S b6 = 43 ∧ ∃ j9, ix x1 j9 (sL S b6) ∧ ∃ b11, P b6 j9 = b11 + 1 ∧ sT S b11 = 2 ∧ ((¬ ((x2).toUInt32 >>> (((I b11 4)).toUInt32 &&& Int32.toUInt32 31)).toInt32 = 0 → Q (some (.int 0)) S P I) ∧ (((x2).toUInt32 >>> (((I b11 4)).toUInt32 &&& Int32.toUInt32 31)).toInt32 = 0 → T g MX1_canDo 0 0 [.ref b11, .int x2] S P I (fun r S' P' I' => B g MX8_inTime 0 0 40 [(0, .ref r0), (1, .int x1), (2, .int x2)] (r.toList ++ []) S' P' I' Q)))))) : B g MX8_inTime 0 0 0 [(0, .ref r0), (1, .int x1), (2, .int x2)] [] S P I Q := by
  refine B.aload_n 0 dX8_inTime_0 rfl rfl ?_
  obtain ⟨t1, h⟩ := h
  obtain ⟨b2, h⟩ := h
  obtain ⟨t3, h⟩ := h
  refine B.getP dX8_inTime_1 fl_8_10 t1 t3 ?_
  refine B.iload_n 1 dX8_inTime_4 rfl rfl ?_
  obtain ⟨t4, h⟩ := h
  refine B.callV (M' := MX7_hasHouse) (rc := 0) (rs := 0) (mc := 0) (ms := 0) (st := []) [.int x1] dX8_inTime_5 mv_X7_hasHouse lk_X8_110 ⟨Nat.le_of_ble_eq_true rfl, Nat.le_of_ble_eq_true rfl⟩ rfl rfl (Nat.le_of_ble_eq_true rfl) t4 ?_
  refine T_of rfl (Nat.le_of_ble_eq_true rfl) ?_
  show B g MX7_hasHouse 0 0 0 [(0, .ref b2), (1, .int x1)] [] S P I _
  refine B.iload_n 1 dX7_hasHouse_0 rfl rfl ?_
  refine B.iconst 0 dX7_hasHouse_1 (by decide) ?_
  refine B.aload_n 0 dX7_hasHouse_2 rfl rfl ?_
  refine B.getI dX7_hasHouse_3 fl_7_38 t4 ?_
  refine B.iconst 1 dX7_hasHouse_6 (by decide) ?_
  refine B.isub dX7_hasHouse_7 ?_
  refine B.callSN (M' := MX8_within) (rc := 0) (rs := 0) (mc := 0) (ms := 0) (st := []) [.int x1, .int 0, .int ((I b2 5) - 1)] "KilnVillage" dX7_hasHouse_8 ms_X8_within ⟨604, by decide +kernel⟩ ⟨Nat.le_of_ble_eq_true rfl, Nat.le_of_ble_eq_true rfl⟩ rfl rfl (Nat.le_of_ble_eq_true rfl) (t_within ?_)
  show B g MX7_hasHouse 0 0 11 [(0, .ref b2), (1, .int x1)] [.int (wi x1 0 ((I b2 5) - 1))] S P I _
  refine B.ireturn dX7_hasHouse_11 rfl (nar_z (wi_01 _ _ _)) ?_
  show B g MX8_inTime 0 0 8 [(0, .ref r0), (1, .int x1), (2, .int x2)] [.int (wi x1 0 ((I b2 5) - 1))] S P I _
  refine B.if_eq 47 dX8_inTime_8 (by decide) (fun q5 => ?_) (fun q5 => ?_)
  · replace h := h.1 q5
    refine B.iconst 0 dX8_inTime_47 (by decide) ?_
    refine B.ireturn dX8_inTime_48 rfl rfl ?_
    exact h
  · replace h := h.2 q5
    refine B.aload_n 0 dX8_inTime_11 rfl rfl ?_
    refine B.getP dX8_inTime_12 fl_8_10 t1 t3 ?_
    obtain ⟨b6, h⟩ := h
    obtain ⟨t7, h⟩ := h
    refine B.getP dX8_inTime_15 fl_8_124 t4 t7 ?_
    refine B.iload_n 1 dX8_inTime_18 rfl rfl ?_
    obtain ⟨t8, h⟩ := h
    obtain ⟨j9, h⟩ := h
    obtain ⟨t10, h⟩ := h
    obtain ⟨b11, h⟩ := h
    obtain ⟨t12, h⟩ := h
    refine B.aaload 3 (by decide) dX8_inTime_19 t8 t10 t12 ?_
    refine B.iload_n 2 dX8_inTime_20 rfl rfl ?_
    obtain ⟨t13, h⟩ := h
    refine B.callV (M' := MX1_hasOrders) (rc := 0) (rs := 0) (mc := 0) (ms := 0) (st := []) [.int x2] dX8_inTime_21 mv_X1_hasOrders lk_X8_218 ⟨Nat.le_of_ble_eq_true rfl, Nat.le_of_ble_eq_true rfl⟩ rfl rfl (Nat.le_of_ble_eq_true rfl) t13 ?_
    refine T_of rfl (Nat.le_of_ble_eq_true rfl) ?_
    show B g MX1_hasOrders 0 0 0 [(0, .ref b11), (1, .int x2)] [] S P I _
    refine B.iload_n 1 dX1_hasOrders_0 rfl rfl ?_
    refine B.aload_n 0 dX1_hasOrders_1 rfl rfl ?_
    refine B.getI dX1_hasOrders_2 fl_1_25 t13 ?_
    refine B.iushr dX1_hasOrders_5 ?_
    refine B.if_ne 13 dX1_hasOrders_6 (by decide) (fun q14 => ?_) (fun q14 => ?_)
    · replace h := h.1 q14
      refine B.iconst 0 dX1_hasOrders_13 (by decide) ?_
      refine B.ireturn dX1_hasOrders_14 rfl rfl ?_
      show B g MX8_inTime 0 0 24 [(0, .ref r0), (1, .int x1), (2, .int x2)] [.int 0] S P I _
      refine B.if_eq 47 dX8_inTime_24 (by decide) (fun _ => ?_) (fun q => absurd q (by decide))
      refine B.iconst 0 dX8_inTime_47 (by decide) ?_
      refine B.ireturn dX8_inTime_48 rfl rfl ?_
      exact h
    · replace h := h.2 q14
      refine B.iconst 1 dX1_hasOrders_9 (by decide) ?_
      refine B.goto_ 14 dX1_hasOrders_10 (by decide) ?_
      refine B.ireturn dX1_hasOrders_14 rfl rfl ?_
      show B g MX8_inTime 0 0 24 [(0, .ref r0), (1, .int x1), (2, .int x2)] [.int 1] S P I _
      refine B.if_eq 47 dX8_inTime_24 (by decide) (fun q => absurd q (by decide)) (fun _ => ?_)
      refine B.aload_n 0 dX8_inTime_27 rfl rfl ?_
      refine B.getP dX8_inTime_28 fl_8_10 t1 t3 ?_
      refine B.getP dX8_inTime_31 fl_8_124 t4 t7 ?_
      refine B.iload_n 1 dX8_inTime_34 rfl rfl ?_
      refine B.aaload 3 (by decide) dX8_inTime_35 t8 t10 t12 ?_
      refine B.iload_n 2 dX8_inTime_36 rfl rfl ?_
      refine B.callV (M' := MX1_canDo) (rc := 0) (rs := 0) (mc := 0) (ms := 0) (st := []) [.int x2] dX8_inTime_37 mv_X1_canDo lk_X8_221 ⟨Nat.le_of_ble_eq_true rfl, Nat.le_of_ble_eq_true rfl⟩ rfl rfl (Nat.le_of_ble_eq_true rfl) t13 ?_
      exact h
theorem s_X8_inTime_40 {g : GT} {S : ST} {P : PT} {I : IT} {Q : QT} {r0 : Nat} {x1 : Int32} {x2 : Int32} {w_s0 : Int32} (h : ((w_s0 = 0 → Q (some (.int 0)) S P I) ∧ (¬ w_s0 = 0 → Q (some (.int 1)) S P I))) : B g MX8_inTime 0 0 40 [(0, .ref r0), (1, .int x1), (2, .int x2)] [.int w_s0] S P I Q := by
  refine B.if_eq 47 dX8_inTime_40 (by decide) (fun q1 => ?_) (fun q1 => ?_)
  · replace h := h.1 q1
    refine B.iconst 0 dX8_inTime_47 (by decide) ?_
    refine B.ireturn dX8_inTime_48 rfl rfl ?_
    exact h
  · replace h := h.2 q1
    refine B.iconst 1 dX8_inTime_43 (by decide) ?_
    refine B.goto_ 48 dX8_inTime_44 (by decide) ?_
    refine B.ireturn dX8_inTime_48 rfl rfl ?_
    exact h
theorem s_X8_forget_0 {g : GT} {S : ST} {P : PT} {I : IT} {Q : QT} {r0 : Nat} {x1 : Int32} (h : sT S r0 = 9 ∧ ∃ b2, P r0 0 = b2 + 1 ∧ sT S b2 = 8 ∧ ((¬ (wi x1 0 ((I b2 5) - 1)) = 0 → ∃ b6, P b2 4 = b6 + 1 ∧ sT S b6 = 43 ∧ ∃ j9, ix x1 j9 (sL S b6) ∧ ∃ b11, P b6 j9 = b11 + 1 ∧ sT S b11 = 2 ∧ Q (some (.int 1)) S P (u2 I b11 4 0)) ∧ ((wi x1 0 ((I b2 5) - 1)) = 0 → Q (some (.int 0)) S P I))) : B g MX8_forget 0 0 0 [(0, .ref r0), (1, .int x1)] [] S P I Q := by
  refine B.aload_n 0 dX8_forget_0 rfl rfl ?_
  obtain ⟨t1, h⟩ := h
  obtain ⟨b2, h⟩ := h
  obtain ⟨t3, h⟩ := h
  refine B.getP dX8_forget_1 fl_8_10 t1 t3 ?_
  refine B.iload_n 1 dX8_forget_4 rfl rfl ?_
  obtain ⟨t4, h⟩ := h
  refine B.callV (M' := MX7_hasHouse) (rc := 0) (rs := 0) (mc := 0) (ms := 0) (st := []) [.int x1] dX8_forget_5 mv_X7_hasHouse lk_X8_110 ⟨Nat.le_of_ble_eq_true rfl, Nat.le_of_ble_eq_true rfl⟩ rfl rfl (Nat.le_of_ble_eq_true rfl) t4 ?_
  refine T_of rfl (Nat.le_of_ble_eq_true rfl) ?_
  show B g MX7_hasHouse 0 0 0 [(0, .ref b2), (1, .int x1)] [] S P I _
  refine B.iload_n 1 dX7_hasHouse_0 rfl rfl ?_
  refine B.iconst 0 dX7_hasHouse_1 (by decide) ?_
  refine B.aload_n 0 dX7_hasHouse_2 rfl rfl ?_
  refine B.getI dX7_hasHouse_3 fl_7_38 t4 ?_
  refine B.iconst 1 dX7_hasHouse_6 (by decide) ?_
  refine B.isub dX7_hasHouse_7 ?_
  refine B.callSN (M' := MX8_within) (rc := 0) (rs := 0) (mc := 0) (ms := 0) (st := []) [.int x1, .int 0, .int ((I b2 5) - 1)] "KilnVillage" dX7_hasHouse_8 ms_X8_within ⟨604, by decide +kernel⟩ ⟨Nat.le_of_ble_eq_true rfl, Nat.le_of_ble_eq_true rfl⟩ rfl rfl (Nat.le_of_ble_eq_true rfl) (t_within ?_)
  show B g MX7_hasHouse 0 0 11 [(0, .ref b2), (1, .int x1)] [.int (wi x1 0 ((I b2 5) - 1))] S P I _
  refine B.ireturn dX7_hasHouse_11 rfl (nar_z (wi_01 _ _ _)) ?_
  show B g MX8_forget 0 0 8 [(0, .ref r0), (1, .int x1)] [.int (wi x1 0 ((I b2 5) - 1))] S P I _
  refine B.if_ne 13 dX8_forget_8 (by decide) (fun q5 => ?_) (fun q5 => ?_)
  · replace h := h.1 q5
    refine B.aload_n 0 dX8_forget_13 rfl rfl ?_
    refine B.getP dX8_forget_14 fl_8_10 t1 t3 ?_
    obtain ⟨b6, h⟩ := h
    obtain ⟨t7, h⟩ := h
    refine B.getP dX8_forget_17 fl_8_124 t4 t7 ?_
    refine B.iload_n 1 dX8_forget_20 rfl rfl ?_
    obtain ⟨t8, h⟩ := h
    obtain ⟨j9, h⟩ := h
    obtain ⟨t10, h⟩ := h
    obtain ⟨b11, h⟩ := h
    obtain ⟨t12, h⟩ := h
    refine B.aaload 3 (by decide) dX8_forget_21 t8 t10 t12 ?_
    refine B.iconst 0 dX8_forget_22 (by decide) ?_
    obtain ⟨t13, h⟩ := h
    refine B.putI dX8_forget_23 fw_8_201 t13 ?_
    refine B.iconst 1 dX8_forget_26 (by decide) ?_
    refine B.ireturn dX8_forget_27 rfl rfl ?_
    exact h
  · replace h := h.2 q5
    refine B.iconst 0 dX8_forget_11 (by decide) ?_
    refine B.ireturn dX8_forget_12 rfl rfl ?_
    exact h
theorem s_X8_count_0 {g : GT} {S : ST} {P : PT} {I : IT} {Q : QT} {r0 : Nat} {x1 : Int32} (h : ((x1 = 0 → sT S r0 = 9 ∧ ∃ b3, P r0 0 = b3 + 1 ∧ sT S b3 = 8 ∧ Q (some (.int (I b3 5))) S P I) ∧ (x1 = 1 → sT S r0 = 9 ∧ ∃ b7, P r0 0 = b7 + 1 ∧ sT S b7 = 8 ∧ Q (some (.int (I b7 11))) S P I) ∧ (x1 = 2 → sT S r0 = 9 ∧ ∃ b11, P r0 0 = b11 + 1 ∧ sT S b11 = 8 ∧ T g MX7_standingPots 0 0 [.ref b11] S P I (fun r S' P' I' => B g MX8_count 0 0 75 [(0, .ref r0), (1, .int x1)] (r.toList ++ []) S' P' I' Q)) ∧ (x1 = 3 → sT S r0 = 9 ∧ ∃ b15, P r0 0 = b15 + 1 ∧ sT S b15 = 8 ∧ ∃ b18, P b15 9 = b18 + 1 ∧ sT S b18 = 3 ∧ Q (some (.int (I b18 1))) S P I) ∧ (x1 = 4 → sT S r0 = 9 ∧ ∃ b22, P r0 0 = b22 + 1 ∧ sT S b22 = 8 ∧ ∃ b25, P b22 9 = b25 + 1 ∧ sT S b25 = 3 ∧ Q (some (.int (I b25 2))) S P I) ∧ (x1 = 5 → sT S r0 = 9 ∧ ∃ b29, P r0 0 = b29 + 1 ∧ sT S b29 = 8 ∧ Q (some (.int (I b29 12))) S P I) ∧ (x1 = 6 → sT S r0 = 9 ∧ ∃ b33, P r0 0 = b33 + 1 ∧ sT S b33 = 8 ∧ ∃ b36, P b33 1 = b36 + 1 ∧ sT S b36 = 1 ∧ Q (some (.int (I b36 0))) S P I) ∧ (x1 = 7 → sT S r0 = 9 ∧ ∃ b40, P r0 0 = b40 + 1 ∧ sT S b40 = 8 ∧ ∃ b43, P b40 9 = b43 + 1 ∧ sT S b43 = 3 ∧ Q (some (.int (I b43 0))) S P I) ∧ (x1 = 8 → sT S r0 = 9 ∧ ∃ b47, P r0 0 = b47 + 1 ∧ sT S b47 = 8 ∧ ∃ b50, P b47 9 = b50 + 1 ∧ sT S b50 = 3 ∧ T g MX2_heatsTogether 0 0 [.ref b50] S P I (fun r S' P' I' => B g MX8_count 0 0 138 [(0, .ref r0), (1, .int x1)] (r.toList ++ []) S' P' I' Q)) ∧ (¬ x1 = 0 → ¬ x1 = 1 → ¬ x1 = 2 → ¬ x1 = 3 → ¬ x1 = 4 → ¬ x1 = 5 → ¬ x1 = 6 → ¬ x1 = 7 → ¬ x1 = 8 → Q (some (.int (-1))) S P I))) : B g MX8_count 0 0 0 [(0, .ref r0), (1, .int x1)] [] S P I Q := by
  refine B.iload_n 1 dX8_count_0 rfl rfl ?_
  rcases Decidable.em (x1 = 0) with q1 | q1_0
  · replace h := h.1 q1
    refine B.tableIn 52 dX8_count_1 (by rw [q1]; decide) (by rw [q1]; decide) (by rw [q1]; rfl) (by decide) ?_
    refine B.aload_n 0 dX8_count_52 rfl rfl ?_
    obtain ⟨t2, h⟩ := h
    obtain ⟨b3, h⟩ := h
    obtain ⟨t4, h⟩ := h
    refine B.getP dX8_count_53 fl_8_10 t2 t4 ?_
    obtain ⟨t5, h⟩ := h
    refine B.getI dX8_count_56 fl_8_74 t5 ?_
    refine B.ireturn dX8_count_59 rfl rfl ?_
    exact h
  replace h := h.2
  rcases Decidable.em (x1 = 1) with q1 | q1_1
  · replace h := h.1 q1
    refine B.tableIn 60 dX8_count_1 (by rw [q1]; decide) (by rw [q1]; decide) (by rw [q1]; rfl) (by decide) ?_
    refine B.aload_n 0 dX8_count_60 rfl rfl ?_
    obtain ⟨t6, h⟩ := h
    obtain ⟨b7, h⟩ := h
    obtain ⟨t8, h⟩ := h
    refine B.getP dX8_count_61 fl_8_10 t6 t8 ?_
    obtain ⟨t9, h⟩ := h
    refine B.getI dX8_count_64 fl_8_107 t9 ?_
    refine B.ireturn dX8_count_67 rfl rfl ?_
    exact h
  replace h := h.2
  rcases Decidable.em (x1 = 2) with q1 | q1_2
  · replace h := h.1 q1
    refine B.tableIn 68 dX8_count_1 (by rw [q1]; decide) (by rw [q1]; decide) (by rw [q1]; rfl) (by decide) ?_
    refine B.aload_n 0 dX8_count_68 rfl rfl ?_
    obtain ⟨t10, h⟩ := h
    obtain ⟨b11, h⟩ := h
    obtain ⟨t12, h⟩ := h
    refine B.getP dX8_count_69 fl_8_10 t10 t12 ?_
    obtain ⟨t13, h⟩ := h
    refine B.callV (M' := MX7_standingPots) (rc := 0) (rs := 0) (mc := 0) (ms := 0) (st := []) [] dX8_count_72 mv_X7_standingPots lk_X8_87 ⟨Nat.le_of_ble_eq_true rfl, Nat.le_of_ble_eq_true rfl⟩ rfl rfl (Nat.le_of_ble_eq_true rfl) t13 ?_
    exact h
  replace h := h.2
  rcases Decidable.em (x1 = 3) with q1 | q1_3
  · replace h := h.1 q1
    refine B.tableIn 76 dX8_count_1 (by rw [q1]; decide) (by rw [q1]; decide) (by rw [q1]; rfl) (by decide) ?_
    refine B.aload_n 0 dX8_count_76 rfl rfl ?_
    obtain ⟨t14, h⟩ := h
    obtain ⟨b15, h⟩ := h
    obtain ⟨t16, h⟩ := h
    refine B.getP dX8_count_77 fl_8_10 t14 t16 ?_
    obtain ⟨t17, h⟩ := h
    obtain ⟨b18, h⟩ := h
    obtain ⟨t19, h⟩ := h
    refine B.getP dX8_count_80 fl_8_91 t17 t19 ?_
    obtain ⟨t20, h⟩ := h
    refine B.getI dX8_count_83 fl_8_224 t20 ?_
    refine B.ireturn dX8_count_86 rfl rfl ?_
    exact h
  replace h := h.2
  rcases Decidable.em (x1 = 4) with q1 | q1_4
  · replace h := h.1 q1
    refine B.tableIn 87 dX8_count_1 (by rw [q1]; decide) (by rw [q1]; decide) (by rw [q1]; rfl) (by decide) ?_
    refine B.aload_n 0 dX8_count_87 rfl rfl ?_
    obtain ⟨t21, h⟩ := h
    obtain ⟨b22, h⟩ := h
    obtain ⟨t23, h⟩ := h
    refine B.getP dX8_count_88 fl_8_10 t21 t23 ?_
    obtain ⟨t24, h⟩ := h
    obtain ⟨b25, h⟩ := h
    obtain ⟨t26, h⟩ := h
    refine B.getP dX8_count_91 fl_8_91 t24 t26 ?_
    obtain ⟨t27, h⟩ := h
    refine B.getI dX8_count_94 fl_8_227 t27 ?_
    refine B.ireturn dX8_count_97 rfl rfl ?_
    exact h
  replace h := h.2
  rcases Decidable.em (x1 = 5) with q1 | q1_5
  · replace h := h.1 q1
    refine B.tableIn 98 dX8_count_1 (by rw [q1]; decide) (by rw [q1]; decide) (by rw [q1]; rfl) (by decide) ?_
    refine B.aload_n 0 dX8_count_98 rfl rfl ?_
    obtain ⟨t28, h⟩ := h
    obtain ⟨b29, h⟩ := h
    obtain ⟨t30, h⟩ := h
    refine B.getP dX8_count_99 fl_8_10 t28 t30 ?_
    obtain ⟨t31, h⟩ := h
    refine B.getI dX8_count_102 fl_8_230 t31 ?_
    refine B.ireturn dX8_count_105 rfl rfl ?_
    exact h
  replace h := h.2
  rcases Decidable.em (x1 = 6) with q1 | q1_6
  · replace h := h.1 q1
    refine B.tableIn 106 dX8_count_1 (by rw [q1]; decide) (by rw [q1]; decide) (by rw [q1]; rfl) (by decide) ?_
    refine B.aload_n 0 dX8_count_106 rfl rfl ?_
    obtain ⟨t32, h⟩ := h
    obtain ⟨b33, h⟩ := h
    obtain ⟨t34, h⟩ := h
    refine B.getP dX8_count_107 fl_8_10 t32 t34 ?_
    obtain ⟨t35, h⟩ := h
    obtain ⟨b36, h⟩ := h
    obtain ⟨t37, h⟩ := h
    refine B.getP dX8_count_110 fl_8_58 t35 t37 ?_
    obtain ⟨t38, h⟩ := h
    refine B.getI dX8_count_113 fl_8_71 t38 ?_
    refine B.ireturn dX8_count_116 rfl rfl ?_
    exact h
  replace h := h.2
  rcases Decidable.em (x1 = 7) with q1 | q1_7
  · replace h := h.1 q1
    refine B.tableIn 117 dX8_count_1 (by rw [q1]; decide) (by rw [q1]; decide) (by rw [q1]; rfl) (by decide) ?_
    refine B.aload_n 0 dX8_count_117 rfl rfl ?_
    obtain ⟨t39, h⟩ := h
    obtain ⟨b40, h⟩ := h
    obtain ⟨t41, h⟩ := h
    refine B.getP dX8_count_118 fl_8_10 t39 t41 ?_
    obtain ⟨t42, h⟩ := h
    obtain ⟨b43, h⟩ := h
    obtain ⟨t44, h⟩ := h
    refine B.getP dX8_count_121 fl_8_91 t42 t44 ?_
    obtain ⟨t45, h⟩ := h
    refine B.getI dX8_count_124 fl_8_233 t45 ?_
    refine B.ireturn dX8_count_127 rfl rfl ?_
    exact h
  replace h := h.2
  rcases Decidable.em (x1 = 8) with q1 | q1_8
  · replace h := h.1 q1
    refine B.tableIn 128 dX8_count_1 (by rw [q1]; decide) (by rw [q1]; decide) (by rw [q1]; rfl) (by decide) ?_
    refine B.aload_n 0 dX8_count_128 rfl rfl ?_
    obtain ⟨t46, h⟩ := h
    obtain ⟨b47, h⟩ := h
    obtain ⟨t48, h⟩ := h
    refine B.getP dX8_count_129 fl_8_10 t46 t48 ?_
    obtain ⟨t49, h⟩ := h
    obtain ⟨b50, h⟩ := h
    obtain ⟨t51, h⟩ := h
    refine B.getP dX8_count_132 fl_8_91 t49 t51 ?_
    obtain ⟨t52, h⟩ := h
    refine B.callV (M' := MX2_heatsTogether) (rc := 0) (rs := 0) (mc := 0) (ms := 0) (st := []) [] dX8_count_135 mv_X2_heatsTogether lk_X8_236 ⟨Nat.le_of_ble_eq_true rfl, Nat.le_of_ble_eq_true rfl⟩ rfl rfl (Nat.le_of_ble_eq_true rfl) t52 ?_
    exact h
  replace h := h.2
  replace h := h q1_0 q1_1 q1_2 q1_3 q1_4 q1_5 q1_6 q1_7 q1_8
  have qo : (x1).toInt < 0 ∨ 8 < (x1).toInt := by
    refine tsw_out (lo := 0) (hi := 8) (by decide) (by decide) (fun c h1 h2 => ?_)
    obtain rfl | rfl | rfl | rfl | rfl | rfl | rfl | rfl | rfl : c = 0 ∨ c = 1 ∨ c = 2 ∨ c = 3 ∨ c = 4 ∨ c = 5 ∨ c = 6 ∨ c = 7 ∨ c = 8 := by omega
    · exact q1_0
    · exact q1_1
    · exact q1_2
    · exact q1_3
    · exact q1_4
    · exact q1_5
    · exact q1_6
    · exact q1_7
    · exact q1_8
  refine B.tableOut 139 dX8_count_1 qo (by decide) ?_
  refine B.iconst (-1) dX8_count_139 (by decide) ?_
  refine B.ireturn dX8_count_140 rfl rfl ?_
  exact h
theorem s_X8_count_75 {g : GT} {S : ST} {P : PT} {I : IT} {Q : QT} {r0 : Nat} {x1 : Int32} {w_s0 : Int32} (h : Q (some (.int w_s0)) S P I) : B g MX8_count 0 0 75 [(0, .ref r0), (1, .int x1)] [.int w_s0] S P I Q := by
  refine B.ireturn dX8_count_75 rfl rfl ?_
  exact h
theorem s_X8_count_138 {g : GT} {S : ST} {P : PT} {I : IT} {Q : QT} {r0 : Nat} {x1 : Int32} {w_s0 : Int32} (h : Q (some (.int w_s0)) S P I) : B g MX8_count 0 0 138 [(0, .ref r0), (1, .int x1)] [.int w_s0] S P I Q := by
  refine B.ireturn dX8_count_138 rfl rfl ?_
  exact h
theorem s_X8_again_0 {g : GT} {S : ST} {P : PT} {I : IT} {Q : QT} {r0 : Nat} {x1 : Int32} (h : (((wi x1 0 2) = 0 → Q (some (.int 0)) S P I) ∧ (¬ (wi x1 0 2) = 0 → sT S r0 = 9 ∧ ∃ b3, P r0 2 = b3 + 1 ∧ sT S b3 = 45 ∧ ∃ j6, ix x1 j6 (sL S b3) ∧ ((∀ y8 : Nat, (P b3 j6) = y8 + 1 → ∃ b10, P r0 0 = b10 + 1 ∧ ∃ b12, P b3 j6 = b12 + 1 ∧ sT S b10 = 8 ∧ T g MX7_copyFrom 0 0 [.ref b10, .ref b12] S P I (fun r S' P' I' => B g MX8_again 0 0 33 [(0, .ref r0), (1, .int x1)] (r.toList ++ []) S' P' I' Q)) ∧ ((P b3 j6) = 0 → Q (some (.int 0)) S P I))))) : B g MX8_again 0 0 0 [(0, .ref r0), (1, .int x1)] [] S P I Q := by
  refine B.iload_n 1 dX8_again_0 rfl rfl ?_
  refine B.iconst 0 dX8_again_1 (by decide) ?_
  refine B.iconst 2 dX8_again_2 (by decide) ?_
  refine B.callS (M' := MX8_within) (rc := 0) (rs := 0) (mc := 0) (ms := 0) (st := []) [.int x1, .int 0, .int 2] dX8_again_3 ms_X8_within lk_X8_43 ⟨Nat.le_of_ble_eq_true rfl, Nat.le_of_ble_eq_true rfl⟩ rfl rfl (Nat.le_of_ble_eq_true rfl) (t_within ?_)
  show B g MX8_again 0 0 6 [(0, .ref r0), (1, .int x1)] [.int (wi x1 0 2)] S P I _
  refine B.if_eq 18 dX8_again_6 (by decide) (fun q1 => ?_) (fun q1 => ?_)
  · replace h := h.1 q1
    refine B.iconst 0 dX8_again_18 (by decide) ?_
    refine B.ireturn dX8_again_19 rfl rfl ?_
    exact h
  · replace h := h.2 q1
    refine B.aload_n 0 dX8_again_9 rfl rfl ?_
    obtain ⟨t2, h⟩ := h
    obtain ⟨b3, h⟩ := h
    obtain ⟨t4, h⟩ := h
    refine B.getP dX8_again_10 fl_8_29 t2 t4 ?_
    refine B.iload_n 1 dX8_again_13 rfl rfl ?_
    obtain ⟨t5, h⟩ := h
    obtain ⟨j6, h⟩ := h
    obtain ⟨t7, h⟩ := h
    refine B.aaloadG (t := 5) (by decide) (by decide) dX8_again_14 t5 t7 ?_
    refine B.ifnonnull 20 dX8_again_15 (by decide) (fun y8 q9 => ?_) (fun q9 => ?_)
    · replace h := h.1 y8 q9
      refine B.aload_n 0 dX8_again_20 rfl rfl ?_
      obtain ⟨b10, h⟩ := h
      obtain ⟨t11, h⟩ := h
      refine B.getP dX8_again_21 fl_8_10 t2 t11 ?_
      refine B.aload_n 0 dX8_again_24 rfl rfl ?_
      refine B.getP dX8_again_25 fl_8_29 t2 t4 ?_
      refine B.iload_n 1 dX8_again_28 rfl rfl ?_
      obtain ⟨b12, h⟩ := h
      obtain ⟨t13, h⟩ := h
      refine B.aaload 5 (by decide) dX8_again_29 t5 t7 t13 ?_
      obtain ⟨t14, h⟩ := h
      refine B.callV (M' := MX7_copyFrom) (rc := 0) (rs := 0) (mc := 0) (ms := 0) (st := []) [.ref b12] dX8_again_30 mv_X7_copyFrom lk_X8_239 ⟨Nat.le_of_ble_eq_true rfl, Nat.le_of_ble_eq_true rfl⟩ rfl rfl (Nat.le_of_ble_eq_true rfl) t14 ?_
      exact h
    · replace h := h.2 q9
      refine B.iconst 0 dX8_again_18 (by decide) ?_
      refine B.ireturn dX8_again_19 rfl rfl ?_
      exact h
theorem s_X8_again_33 {g : GT} {S : ST} {P : PT} {I : IT} {Q : QT} {r0 : Nat} {x1 : Int32} (h : Q (some (.int 1)) S P I) : B g MX8_again 0 0 33 [(0, .ref r0), (1, .int x1)] [] S P I Q := by
  refine B.iconst 1 dX8_again_33 (by decide) ?_
  refine B.ireturn dX8_again_34 rfl rfl ?_
  exact h
