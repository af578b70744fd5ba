theorem s_X0_init_0 {g : GT} {rc rs : Nat} {S : ST} {P : PT} {I : IT} {Q : QT} {r0 : Nat} (h : sT S r0 = 1 ∧ sT (sA S 40 12) r0 = 1 ∧ sT (sA (sA S 40 12) 40 12) r0 = 1 ∧ sT (sA (sA (sA S 40 12) 40 12) 40 48) r0 = 1 ∧ sT (sA (sA (sA (sA S 40 12) 40 12) 40 48) 40 48) r0 = 1 ∧ sT (sA (sA (sA (sA (sA S 40 12) 40 12) 40 48) 40 48) 40 48) r0 = 1 ∧ Q none (sA (sA (sA (sA (sA S 40 12) 40 12) 40 48) 40 48) 40 48) (p2 (zP (p2 (zP (p2 (zP (p2 (zP (p2 (zP P (sN S)) r0 1 ((sN S) + 1)) (sN (sA S 40 12))) r0 2 ((sN (sA S 40 12)) + 1)) (sN (sA (sA S 40 12) 40 12))) r0 3 ((sN (sA (sA S 40 12) 40 12)) + 1)) (sN (sA (sA (sA S 40 12) 40 12) 40 48))) r0 4 ((sN (sA (sA (sA S 40 12) 40 12) 40 48)) + 1)) (sN (sA (sA (sA (sA S 40 12) 40 12) 40 48) 40 48))) r0 5 ((sN (sA (sA (sA (sA S 40 12) 40 12) 40 48) 40 48)) + 1)) (zI (zI (zI (zI (zI (u2 I r0 0 0) (sN S)) (sN (sA S 40 12))) (sN (sA (sA S 40 12) 40 12))) (sN (sA (sA (sA S 40 12) 40 12) 40 48))) (sN (sA (sA (sA (sA S 40 12) 40 12) 40 48) 40 48)))) : B g MX0_init (rc + 5) (rs + 168) 0 [(0, .ref r0)] [] S P I Q := by
  refine B.aload_n 0 dX0_init_0 rfl rfl ?_
  refine B.objInit dX0_init_1 lk_X0_3 (by decide) (by decide) (Nat.le_of_ble_eq_true rfl) ?_
  refine B.aload_n 0 dX0_init_4 rfl rfl ?_
  refine B.iconst 0 dX0_init_5 (by decide) ?_
  obtain ⟨t1, h⟩ := h
  refine B.putI dX0_init_6 fw_0_9 t1 ?_
  refine B.aload_n 0 dX0_init_9 rfl rfl ?_
  refine B.bipush 12 dX0_init_10 (by decide) ?_
  refine B.newarr (rc := (rc + 4)) (rs := (rs + 156)) (t := 0) (N := 12) .int (by decide) rfl rfl ac_int dX0_init_12 (by decide) (by decide) (by decide) ?_
  obtain ⟨t2, h⟩ := h
  refine B.putF dX0_init_14 fw_0_15 rfl t2 rfl rfl ?_
  refine B.aload_n 0 dX0_init_17 rfl rfl ?_
  refine B.bipush 12 dX0_init_18 (by decide) ?_
  refine B.newarr (rc := (rc + 3)) (rs := (rs + 144)) (t := 0) (N := 12) .int (by decide) rfl rfl ac_int dX0_init_20 (by decide) (by decide) (by decide) ?_
  obtain ⟨t3, h⟩ := h
  refine B.putF dX0_init_22 fw_0_19 rfl t3 rfl rfl ?_
  refine B.aload_n 0 dX0_init_25 rfl rfl ?_
  refine B.bipush 48 dX0_init_26 (by decide) ?_
  refine B.newarr (rc := (rc + 2)) (rs := (rs + 96)) (t := 0) (N := 48) .int (by decide) rfl rfl ac_int dX0_init_28 (by decide) (by decide) (by decide) ?_
  obtain ⟨t4, h⟩ := h
  refine B.putF dX0_init_30 fw_0_22 rfl t4 rfl rfl ?_
  refine B.aload_n 0 dX0_init_33 rfl rfl ?_
  refine B.bipush 48 dX0_init_34 (by decide) ?_
  refine B.newarr (rc := (rc + 1)) (rs := (rs + 48)) (t := 0) (N := 48) .int (by decide) rfl rfl ac_int dX0_init_36 (by decide) (by decide) (by decide) ?_
  obtain ⟨t5, h⟩ := h
  refine B.putF dX0_init_38 fw_0_25 rfl t5 rfl rfl ?_
  refine B.aload_n 0 dX0_init_41 rfl rfl ?_
  refine B.bipush 48 dX0_init_42 (by decide) ?_
  refine B.newarr (rc := rc) (rs := rs) (t := 0) (N := 48) .int (by decide) rfl rfl ac_int dX0_init_44 (by decide) (by decide) (by decide) ?_
  obtain ⟨t6, h⟩ := h
  refine B.putF dX0_init_46 fw_0_28 rfl t6 rfl rfl ?_
  refine B.return_ dX0_init_49 rfl ?_
  exact h
theorem s_X1_init_0 {g : GT} {rc rs : Nat} {S : ST} {P : PT} {I : IT} {Q : QT} {r0 : Nat} (h : sT S r0 = 2 ∧ sT (sA S 40 8) r0 = 2 ∧ sT (sA (sA S 40 8) 40 8) r0 = 2 ∧ sT (sA (sA (sA S 40 8) 40 8) 40 8) r0 = 2 ∧ sT (sA (sA (sA (sA S 40 8) 40 8) 40 8) 40 8) r0 = 2 ∧ Q none (sA (sA (sA (sA S 40 8) 40 8) 40 8) 40 8) (p2 (zP (p2 (zP (p2 (zP (p2 (zP P (sN S)) r0 5 ((sN S) + 1)) (sN (sA S 40 8))) r0 6 ((sN (sA S 40 8)) + 1)) (sN (sA (sA S 40 8) 40 8))) r0 7 ((sN (sA (sA S 40 8) 40 8)) + 1)) (sN (sA (sA (sA S 40 8) 40 8) 40 8))) r0 8 ((sN (sA (sA (sA S 40 8) 40 8) 40 8)) + 1)) (zI (zI (zI (zI (u2 (u2 (u2 (u2 (u2 I r0 0 0) r0 1 0) r0 2 0) r0 3 0) r0 4 0) (sN S)) (sN (sA S 40 8))) (sN (sA (sA S 40 8) 40 8))) (sN (sA (sA (sA S 40 8) 40 8) 40 8)))) : B g MX1_init (rc + 4) (rs + 32) 0 [(0, .ref r0)] [] S P I Q := by
  refine B.aload_n 0 dX1_init_0 rfl rfl ?_
  refine B.objInit dX1_init_1 lk_X1_3 (by decide) (by decide) (Nat.le_of_ble_eq_true rfl) ?_
  refine B.aload_n 0 dX1_init_4 rfl rfl ?_
  refine B.iconst 0 dX1_init_5 (by decide) ?_
  obtain ⟨t1, h⟩ := h
  refine B.putI dX1_init_6 fw_1_9 t1 ?_
  refine B.aload_n 0 dX1_init_9 rfl rfl ?_
  refine B.iconst 0 dX1_init_10 (by decide) ?_
  refine B.putI dX1_init_11 fw_1_15 t1 ?_
  refine B.aload_n 0 dX1_init_14 rfl rfl ?_
  refine B.iconst 0 dX1_init_15 (by decide) ?_
  refine B.putZ dX1_init_16 fw_1_18 t1 (by decide) ?_
  refine B.aload_n 0 dX1_init_19 rfl rfl ?_
  refine B.iconst 0 dX1_init_20 (by decide) ?_
  refine B.putI dX1_init_21 fw_1_22 t1 ?_
  refine B.aload_n 0 dX1_init_24 rfl rfl ?_
  refine B.iconst 0 dX1_init_25 (by decide) ?_
  refine B.putI dX1_init_26 fw_1_25 t1 ?_
  refine B.aload_n 0 dX1_init_29 rfl rfl ?_
  refine B.bipush 8 dX1_init_30 (by decide) ?_
  refine B.newarr (rc := (rc + 3)) (rs := (rs + 24)) (t := 0) (N := 8) .int (by decide) rfl rfl ac_int dX1_init_32 (by decide) (by decide) (by decide) ?_
  obtain ⟨t2, h⟩ := h
  refine B.putF dX1_init_34 fw_1_28 rfl t2 rfl rfl ?_
  refine B.aload_n 0 dX1_init_37 rfl rfl ?_
  refine B.bipush 8 dX1_init_38 (by decide) ?_
  refine B.newarr (rc := (rc + 2)) (rs := (rs + 16)) (t := 0) (N := 8) .int (by decide) rfl rfl ac_int dX1_init_40 (by decide) (by decide) (by decide) ?_
  obtain ⟨t3, h⟩ := h
  refine B.putF dX1_init_42 fw_1_32 rfl t3 rfl rfl ?_
  refine B.aload_n 0 dX1_init_45 rfl rfl ?_
  refine B.bipush 8 dX1_init_46 (by decide) ?_
  refine B.newarr (rc := (rc + 1)) (rs := (rs + 8)) (t := 0) (N := 8) .int (by decide) rfl rfl ac_int dX1_init_48 (by decide) (by decide) (by decide) ?_
  obtain ⟨t4, h⟩ := h
  refine B.putF dX1_init_50 fw_1_35 rfl t4 rfl rfl ?_
  refine B.aload_n 0 dX1_init_53 rfl rfl ?_
  refine B.bipush 8 dX1_init_54 (by decide) ?_
  refine B.newarr (rc := rc) (rs := rs) (t := 0) (N := 8) .int (by decide) rfl rfl ac_int dX1_init_56 (by decide) (by decide) (by decide) ?_
  obtain ⟨t5, h⟩ := h
  refine B.putF dX1_init_58 fw_1_38 rfl t5 rfl rfl ?_
  refine B.return_ dX1_init_61 rfl ?_
  exact h
theorem s_X2_init_0 {g : GT} {rc rs : Nat} {S : ST} {P : PT} {I : IT} {Q : QT} {r0 : Nat} (h : sT S r0 = 3 ∧ sT (sA S 40 6) r0 = 3 ∧ sT (sA (sA S 40 6) 40 6) r0 = 3 ∧ sT (sA (sA (sA S 40 6) 40 6) 40 24) r0 = 3 ∧ sT (sA (sA (sA (sA S 40 6) 40 6) 40 24) 40 24) r0 = 3 ∧ T g MX2_build 0 0 [.ref r0, .int 3] (sA (sA (sA (sA S 40 6) 40 6) 40 24) 40 24) (p2 (zP (p2 (zP (p2 (zP (p2 (zP P (sN S)) r0 3 ((sN S) + 1)) (sN (sA S 40 6))) r0 4 ((sN (sA S 40 6)) + 1)) (sN (sA (sA S 40 6) 40 6))) r0 5 ((sN (sA (sA S 40 6) 40 6)) + 1)) (sN (sA (sA (sA S 40 6) 40 6) 40 24))) r0 6 ((sN (sA (sA (sA S 40 6) 40 6) 40 24)) + 1)) (zI (zI (zI (zI (u2 (u2 (u2 I r0 0 0) r0 1 0) r0 2 0) (sN S)) (sN (sA S 40 6))) (sN (sA (sA S 40 6) 40 6))) (sN (sA (sA (sA S 40 6) 40 6) 40 24))) (fun r S' P' I' => B g MX2_init rc rs 56 [(0, .ref r0)] (r.toList ++ []) S' P' I' Q)) : B g MX2_init (rc + 4) (rs + 60) 0 [(0, .ref r0)] [] S P I Q := by
  refine B.aload_n 0 dX2_init_0 rfl rfl ?_
  refine B.objInit dX2_init_1 lk_X2_3 (by decide) (by decide) (Nat.le_of_ble_eq_true rfl) ?_
  refine B.aload_n 0 dX2_init_4 rfl rfl ?_
  refine B.iconst 0 dX2_init_5 (by decide) ?_
  obtain ⟨t1, h⟩ := h
  refine B.putI dX2_init_6 fw_2_9 t1 ?_
  refine B.aload_n 0 dX2_init_9 rfl rfl ?_
  refine B.iconst 0 dX2_init_10 (by decide) ?_
  refine B.putI dX2_init_11 fw_2_15 t1 ?_
  refine B.aload_n 0 dX2_init_14 rfl rfl ?_
  refine B.iconst 0 dX2_init_15 (by decide) ?_
  refine B.putI dX2_init_16 fw_2_18 t1 ?_
  refine B.aload_n 0 dX2_init_19 rfl rfl ?_
  refine B.bipush 6 dX2_init_20 (by decide) ?_
  refine B.newarr (rc := (rc + 3)) (rs := (rs + 54)) (t := 0) (N := 6) .int (by decide) rfl rfl ac_int dX2_init_22 (by decide) (by decide) (by decide) ?_
  obtain ⟨t2, h⟩ := h
  refine B.putF dX2_init_24 fw_2_21 rfl t2 rfl rfl ?_
  refine B.aload_n 0 dX2_init_27 rfl rfl ?_
  refine B.bipush 6 dX2_init_28 (by decide) ?_
  refine B.newarr (rc := (rc + 2)) (rs := (rs + 48)) (t := 0) (N := 6) .int (by decide) rfl rfl ac_int dX2_init_30 (by decide) (by decide) (by decide) ?_
  obtain ⟨t3, h⟩ := h
  refine B.putF dX2_init_32 fw_2_25 rfl t3 rfl rfl ?_
  refine B.aload_n 0 dX2_init_35 rfl rfl ?_
  refine B.bipush 24 dX2_init_36 (by decide) ?_
  refine B.newarr (rc := (rc + 1)) (rs := (rs + 24)) (t := 0) (N := 24) .int (by decide) rfl rfl ac_int dX2_init_38 (by decide) (by decide) (by decide) ?_
  obtain ⟨t4, h⟩ := h
  refine B.putF dX2_init_40 fw_2_28 rfl t4 rfl rfl ?_
  refine B.aload_n 0 dX2_init_43 rfl rfl ?_
  refine B.bipush 24 dX2_init_44 (by decide) ?_
  refine B.newarr (rc := rc) (rs := rs) (t := 0) (N := 24) .int (by decide) rfl rfl ac_int dX2_init_46 (by decide) (by decide) (by decide) ?_
  obtain ⟨t5, h⟩ := h
  refine B.putF dX2_init_48 fw_2_31 rfl t5 rfl rfl ?_
  refine B.aload_n 0 dX2_init_51 rfl rfl ?_
  refine B.iconst 3 dX2_init_52 (by decide) ?_
  refine B.callV (M' := MX2_build) (rc := rc) (rs := rs) (mc := 0) (ms := 0) (st := []) [.int 3] dX2_init_53 mv_X2_build lk_X2_34 ⟨Nat.le_of_ble_eq_true rfl, Nat.le_of_ble_eq_true rfl⟩ rfl rfl (Nat.le_of_ble_eq_true rfl) t5 ?_
  exact h
theorem s_X2_init_56 {g : GT} {rc rs : Nat} {S : ST} {P : PT} {I : IT} {Q : QT} {r0 : Nat} (h : sT S r0 = 3 ∧ T g MX2_clear 0 0 [.ref r0] S P I (fun r S' P' I' => B g MX2_init rc rs 60 [(0, .ref r0)] (r.toList ++ []) S' P' I' Q)) : B g MX2_init rc rs 56 [(0, .ref r0)] [] S P I Q := by
  refine B.aload_n 0 dX2_init_56 rfl rfl ?_
  obtain ⟨t1, h⟩ := h
  refine B.callV (M' := MX2_clear) (rc := rc) (rs := rs) (mc := 0) (ms := 0) (st := []) [] dX2_init_57 mv_X2_clear lk_X2_38 ⟨Nat.le_of_ble_eq_true rfl, Nat.le_of_ble_eq_true rfl⟩ rfl rfl (Nat.le_of_ble_eq_true rfl) t1 ?_
  exact h
theorem s_X2_init_60 {g : GT} {rc rs : Nat} {S : ST} {P : PT} {I : IT} {Q : QT} {r0 : Nat} (h : Q none S P I) : B g MX2_init rc rs 60 [(0, .ref r0)] [] S P I Q := by
  refine B.return_ dX2_init_60 rfl ?_
  exact h
theorem s_X3_init_0 {g : GT} {rc rs : Nat} {S : ST} {P : PT} {I : IT} {Q : QT} {r0 : Nat} (h : sT S r0 = 4 ∧ Q none S P (u2 (u2 (u2 (u2 (u2 (u2 (u2 (u2 I r0 0 0) r0 1 0) r0 2 0) r0 3 0) r0 4 (-1)) r0 5 (-1)) r0 6 0) r0 7 0)) : B g MX3_init rc rs 0 [(0, .ref r0)] [] S P I Q := by
  refine B.aload_n 0 dX3_init_0 rfl rfl ?_
  refine B.objInit dX3_init_1 lk_X3_3 (by decide) (by decide) (Nat.le_of_ble_eq_true rfl) ?_
  refine B.aload_n 0 dX3_init_4 rfl rfl ?_
  refine B.iconst 0 dX3_init_5 (by decide) ?_
  obtain ⟨t1, h⟩ := h
  refine B.putI dX3_init_6 fw_3_9 t1 ?_
  refine B.aload_n 0 dX3_init_9 rfl rfl ?_
  refine B.iconst 0 dX3_init_10 (by decide) ?_
  refine B.putI dX3_init_11 fw_3_15 t1 ?_
  refine B.aload_n 0 dX3_init_14 rfl rfl ?_
  refine B.iconst 0 dX3_init_15 (by decide) ?_
  refine B.putI dX3_init_16 fw_3_18 t1 ?_
  refine B.aload_n 0 dX3_init_19 rfl rfl ?_
  refine B.iconst 0 dX3_init_20 (by decide) ?_
  refine B.putI dX3_init_21 fw_3_21 t1 ?_
  refine B.aload_n 0 dX3_init_24 rfl rfl ?_
  refine B.iconst (-1) dX3_init_25 (by decide) ?_
  refine B.putI dX3_init_26 fw_3_24 t1 ?_
  refine B.aload_n 0 dX3_init_29 rfl rfl ?_
  refine B.iconst (-1) dX3_init_30 (by decide) ?_
  refine B.putI dX3_init_31 fw_3_27 t1 ?_
  refine B.aload_n 0 dX3_init_34 rfl rfl ?_
  refine B.iconst 0 dX3_init_35 (by decide) ?_
  refine B.putZ dX3_init_36 fw_3_30 t1 (by decide) ?_
  refine B.aload_n 0 dX3_init_39 rfl rfl ?_
  refine B.iconst 0 dX3_init_40 (by decide) ?_
  refine B.putI dX3_init_41 fw_3_34 t1 ?_
  refine B.return_ dX3_init_44 rfl ?_
  exact h
theorem s_X5_init_0 {g : GT} {rc rs : Nat} {S : ST} {P : PT} {I : IT} {Q : QT} {r0 : Nat} (h : sT (sA S 41 300) r0 = 6 ∧ Q none (sA S 41 300) (p2 (zP P (sN S)) r0 0 ((sN S) + 1)) (u2 (zI I (sN S)) r0 1 0)) : B g MX5_init (rc + 1) (rs + 300) 0 [(0, .ref r0)] [] S P I Q := by
  refine B.aload_n 0 dX5_init_0 rfl rfl ?_
  refine B.objInit dX5_init_1 lk_X5_3 (by decide) (by decide) (Nat.le_of_ble_eq_true rfl) ?_
  refine B.aload_n 0 dX5_init_4 rfl rfl ?_
  refine B.sipush 300 dX5_init_5 (by decide) ?_
  refine B.newarr (rc := rc) (rs := rs) (t := 1) (N := 300) .byte (by decide) rfl rfl ac_byte dX5_init_8 (by decide) (by decide) (by decide) ?_
  obtain ⟨t1, h⟩ := h
  refine B.putF dX5_init_10 fw_5_9 rfl t1 rfl rfl ?_
  refine B.aload_n 0 dX5_init_13 rfl rfl ?_
  refine B.iconst 0 dX5_init_14 (by decide) ?_
  refine B.putI dX5_init_15 fw_5_15 t1 ?_
  refine B.return_ dX5_init_18 rfl ?_
  exact h
theorem s_X6_init_0 {g : GT} {rc rs : Nat} {S : ST} {P : PT} {I : IT} {Q : QT} {r0 : Nat} {r1 : Nat} (h : sT (sA S 40 301) r0 = 7 ∧ sT (sA (sA S 40 301) 40 301) r0 = 7 ∧ sT (sA (sA (sA S 40 301) 40 301) 40 301) r0 = 7 ∧ Q none (sA (sA (sA S 40 301) 40 301) 40 301) (p2 (p2 (zP (p2 (zP (p2 (zP P (sN S)) r0 1 ((sN S) + 1)) (sN (sA S 40 301))) r0 2 ((sN (sA S 40 301)) + 1)) (sN (sA (sA S 40 301) 40 301))) r0 3 ((sN (sA (sA S 40 301) 40 301)) + 1)) r0 0 (r1 + 1)) (u2 (u2 (u2 (zI (zI (zI I (sN S)) (sN (sA S 40 301))) (sN (sA (sA S 40 301) 40 301))) r0 4 0) r0 5 0) r0 6 0)) : B g MX6_init (rc + 3) (rs + 903) 0 [(0, .ref r0), (1, .ref r1)] [] S P I Q := by
  refine B.aload_n 0 dX6_init_0 rfl rfl ?_
  refine B.objInit dX6_init_1 lk_X6_3 (by decide) (by decide) (Nat.le_of_ble_eq_true rfl) ?_
  refine B.aload_n 0 dX6_init_4 rfl rfl ?_
  refine B.sipush 301 dX6_init_5 (by decide) ?_
  refine B.newarr (rc := (rc + 2)) (rs := (rs + 602)) (t := 0) (N := 301) .int (by decide) rfl rfl ac_int dX6_init_8 (by decide) (by decide) (by decide) ?_
  obtain ⟨t1, h⟩ := h
  refine B.putF dX6_init_10 fw_6_9 rfl t1 rfl rfl ?_
  refine B.aload_n 0 dX6_init_13 rfl rfl ?_
  refine B.sipush 301 dX6_init_14 (by decide) ?_
  refine B.newarr (rc := (rc + 1)) (rs := (rs + 301)) (t := 0) (N := 301) .int (by decide) rfl rfl ac_int dX6_init_17 (by decide) (by decide) (by decide) ?_
  obtain ⟨t2, h⟩ := h
  refine B.putF dX6_init_19 fw_6_15 rfl t2 rfl rfl ?_
  refine B.aload_n 0 dX6_init_22 rfl rfl ?_
  refine B.sipush 301 dX6_init_23 (by decide) ?_
  refine B.newarr (rc := rc) (rs := rs) (t := 0) (N := 301) .int (by decide) rfl rfl ac_int dX6_init_26 (by decide) (by decide) (by decide) ?_
  obtain ⟨t3, h⟩ := h
  refine B.putF dX6_init_28 fw_6_18 rfl t3 rfl rfl ?_
  refine B.aload_n 0 dX6_init_31 rfl rfl ?_
  refine B.iconst 0 dX6_init_32 (by decide) ?_
  refine B.putI dX6_init_33 fw_6_21 t3 ?_
  refine B.aload_n 0 dX6_init_36 rfl rfl ?_
  refine B.iconst 0 dX6_init_37 (by decide) ?_
  refine B.putI dX6_init_38 fw_6_25 t3 ?_
  refine B.aload_n 0 dX6_init_41 rfl rfl ?_
  refine B.iconst 0 dX6_init_42 (by decide) ?_
  refine B.putI dX6_init_43 fw_6_28 t3 ?_
  refine B.aload_n 0 dX6_init_46 rfl rfl ?_
  refine B.aload_n 1 dX6_init_47 rfl rfl ?_
  refine B.putF dX6_init_48 fw_6_31 rfl t3 rfl rfl ?_
  refine B.return_ dX6_init_51 rfl ?_
  exact h
theorem s_X4_init_0 {g : GT} {rc rs : Nat} {S : ST} {P : PT} {I : IT} {Q : QT} {r0 : Nat} {r1 : Nat} (h : T g MX0_init 5 168 [.ref (sN S)] (sA S 1 0) (zP P (sN S)) (zI I (sN S)) (fun r S' P' I' => B g MX4_init rc rs 12 [(0, .ref r0), (1, .ref r1)] (r.toList ++ [.ref (sN S), .ref r0]) S' P' I' Q)) : B g MX4_init (rc + 6) (rs + 174) 0 [(0, .ref r0), (1, .ref r1)] [] S P I Q := by
  refine B.aload_n 0 dX4_init_0 rfl rfl ?_
  refine B.objInit dX4_init_1 lk_X4_3 (by decide) (by decide) (Nat.le_of_ble_eq_true rfl) ?_
  refine B.aload_n 0 dX4_init_4 rfl rfl ?_
  refine B.newobj (rc := (rc + 5)) (rs := (rs + 168)) 0 (RX0, TX0, 6) rfl ck_X4_9 nw_0.1 nw_0.2 dX4_init_5 ?_
  refine B.dup dX4_init_8 rfl ?_
  refine B.callIN (M' := MX0_init) (rc := rc) (rs := rs) (mc := 5) (ms := 168) (st := [.ref (sN S), .ref r0]) [] "KilnVillage" dX4_init_9 mi_X0_init ⟨333, by decide +kernel⟩ ⟨Nat.le_of_ble_eq_true rfl, Nat.le_of_ble_eq_true rfl⟩ rfl rfl (Nat.le_of_ble_eq_true rfl) ?_
  exact h
theorem s_X4_init_12 {g : GT} {rc rs : Nat} {S : ST} {P : PT} {I : IT} {Q : QT} {r0 : Nat} {r1 : Nat} {a_s0 : Nat} {a_s1 : Nat} (h : sT S a_s1 = 5 ∧ sT S r0 = 5 ∧ T g MX6_init 3 903 [.ref (sN S), .ref r1] (sA S 7 0) (zP (p2 P a_s1 0 (a_s0 + 1)) (sN S)) (zI (u2 (u2 (u2 I r0 1 0) r0 2 (-1)) r0 4 0) (sN S)) (fun r S' P' I' => B g MX4_init rc rs 39 [(0, .ref r0), (1, .ref r1)] (r.toList ++ [.ref (sN S), .ref r0]) S' P' I' Q)) : B g MX4_init (rc + 4) (rs + 910) 12 [(0, .ref r0), (1, .ref r1)] [.ref a_s0, .ref a_s1] S P I Q := by
  obtain ⟨t1, h⟩ := h
  refine B.putF dX4_init_12 fw_4_12 rfl t1 rfl rfl ?_
  refine B.aload_n 0 dX4_init_15 rfl rfl ?_
  refine B.iconst 0 dX4_init_16 (by decide) ?_
  obtain ⟨t2, h⟩ := h
  refine B.putI dX4_init_17 fw_4_18 t2 ?_
  refine B.aload_n 0 dX4_init_20 rfl rfl ?_
  refine B.iconst (-1) dX4_init_21 (by decide) ?_
  refine B.putI dX4_init_22 fw_4_22 t2 ?_
  refine B.aload_n 0 dX4_init_25 rfl rfl ?_
  refine B.iconst 0 dX4_init_26 (by decide) ?_
  refine B.putI dX4_init_27 fw_4_25 t2 ?_
  refine B.aload_n 0 dX4_init_30 rfl rfl ?_
  refine B.newobj (rc := (rc + 3)) (rs := (rs + 903)) 6 (RX6, TX6, 7) rfl ck_X4_28 nw_6.1 nw_6.2 dX4_init_31 ?_
  refine B.dup dX4_init_34 rfl ?_
  refine B.aload_n 1 dX4_init_35 rfl rfl ?_
  refine B.callI (M' := MX6_init) (rc := rc) (rs := rs) (mc := 3) (ms := 903) (st := [.ref (sN S), .ref r0]) [.ref r1] dX4_init_36 mi_X6_init lk_X4_30 ⟨Nat.le_of_ble_eq_true rfl, Nat.le_of_ble_eq_true rfl⟩ rfl rfl (Nat.le_of_ble_eq_true rfl) ?_
  exact h
theorem s_X4_init_39 {g : GT} {rc rs : Nat} {S : ST} {P : PT} {I : IT} {Q : QT} {r0 : Nat} {r1 : Nat} {a_s0 : Nat} {a_s1 : Nat} (h : sT S a_s1 = 5 ∧ Q none S (p2 P a_s1 3 (a_s0 + 1)) I) : B g MX4_init rc rs 39 [(0, .ref r0), (1, .ref r1)] [.ref a_s0, .ref a_s1] S P I Q := by
  obtain ⟨t1, h⟩ := h
  refine B.putF dX4_init_39 fw_4_33 rfl t1 rfl rfl ?_
  refine B.return_ dX4_init_42 rfl ?_
  exact h
theorem s_X7_init_0 {g : GT} {rc rs : Nat} {S : ST} {P : PT} {I : IT} {Q : QT} {r0 : Nat} (h : T g MX5_init 1 300 [.ref (sN S)] (sA S 6 0) (zP P (sN S)) (zI I (sN S)) (fun r S' P' I' => B g MX7_init rc rs 12 [(0, .ref r0)] (r.toList ++ [.ref (sN S), .ref r0]) S' P' I' Q)) : B g MX7_init (rc + 2) (rs + 302) 0 [(0, .ref r0)] [] S P I Q := by
  refine B.aload_n 0 dX7_init_0 rfl rfl ?_
  refine B.objInit dX7_init_1 lk_X7_3 (by decide) (by decide) (Nat.le_of_ble_eq_true rfl) ?_
  refine B.aload_n 0 dX7_init_4 rfl rfl ?_
  refine B.newobj (rc := (rc + 1)) (rs := (rs + 300)) 5 (RX5, TX5, 2) rfl ck_X7_9 nw_5.1 nw_5.2 dX7_init_5 ?_
  refine B.dup dX7_init_8 rfl ?_
  refine B.callIN (M' := MX5_init) (rc := rc) (rs := rs) (mc := 1) (ms := 300) (st := [.ref (sN S), .ref r0]) [] "KilnVillage" dX7_init_9 mi_X5_init ⟨88, by decide +kernel⟩ ⟨Nat.le_of_ble_eq_true rfl, Nat.le_of_ble_eq_true rfl⟩ rfl rfl (Nat.le_of_ble_eq_true rfl) ?_
  exact h
theorem s_X7_init_12 {g : GT} {rc rs : Nat} {S : ST} {P : PT} {I : IT} {Q : QT} {r0 : Nat} {a_s0 : Nat} {a_s1 : Nat} (h : sT S a_s1 = 8 ∧ T g MX0_init 5 168 [.ref (sN S)] (sA S 1 0) (zP (p2 P a_s1 0 (a_s0 + 1)) (sN S)) (zI I (sN S)) (fun r S' P' I' => B g MX7_init rc rs 23 [(0, .ref r0)] (r.toList ++ [.ref (sN S), .ref r0]) S' P' I' Q)) : B g MX7_init (rc + 6) (rs + 174) 12 [(0, .ref r0)] [.ref a_s0, .ref a_s1] S P I Q := by
  obtain ⟨t1, h⟩ := h
  refine B.putF dX7_init_12 fw_7_12 rfl t1 rfl rfl ?_
  refine B.aload_n 0 dX7_init_15 rfl rfl ?_
  refine B.newobj (rc := (rc + 5)) (rs := (rs + 168)) 0 (RX0, TX0, 6) rfl ck_X7_18 nw_0.1 nw_0.2 dX7_init_16 ?_
  refine B.dup dX7_init_19 rfl ?_
  refine B.callIN (M' := MX0_init) (rc := rc) (rs := rs) (mc := 5) (ms := 168) (st := [.ref (sN S), .ref r0]) [] "KilnVillage" dX7_init_20 mi_X0_init ⟨105, by decide +kernel⟩ ⟨Nat.le_of_ble_eq_true rfl, Nat.le_of_ble_eq_true rfl⟩ rfl rfl (Nat.le_of_ble_eq_true rfl) ?_
  exact h
theorem s_X7_init_23 {g : GT} {rc rs : Nat} {S : ST} {P : PT} {I : IT} {Q : QT} {r0 : Nat} {a_s0 : Nat} {a_s1 : Nat} (h : sT S a_s1 = 8 ∧ sT S r0 = 8 ∧ sT (sA S 43 8) r0 = 8 ∧ ∃ j4, ix 0 j4 (sL (sA (sA S 43 8) 40 5) (sN (sA S 43 8))) ∧ ∃ j6, ix 1 j6 (sL (sA (sA S 43 8) 40 5) (sN (sA S 43 8))) ∧ ∃ j8, ix 2 j8 (sL (sA (sA S 43 8) 40 5) (sN (sA S 43 8))) ∧ ∃ j10, ix 3 j10 (sL (sA (sA S 43 8) 40 5) (sN (sA S 43 8))) ∧ ∃ j12, ix 4 j12 (sL (sA (sA S 43 8) 40 5) (sN (sA S 43 8))) ∧ sT (sA (sA S 43 8) 40 5) r0 = 8 ∧ ∃ j15, ix 0 j15 (sL (sA (sA (sA S 43 8) 40 5) 40 5) (sN (sA (sA S 43 8) 40 5))) ∧ ∃ j17, ix 1 j17 (sL (sA (sA (sA S 43 8) 40 5) 40 5) (sN (sA (sA S 43 8) 40 5))) ∧ ∃ j19, ix 2 j19 (sL (sA (sA (sA S 43 8) 40 5) 40 5) (sN (sA (sA S 43 8) 40 5))) ∧ ∃ j21, ix 3 j21 (sL (sA (sA (sA S 43 8) 40 5) 40 5) (sN (sA (sA S 43 8) 40 5))) ∧ ∃ j23, ix 4 j23 (sL (sA (sA (sA S 43 8) 40 5) 40 5) (sN (sA (sA S 43 8) 40 5))) ∧ sT (sA (sA (sA S 43 8) 40 5) 40 5) r0 = 8 ∧ ∃ j26, ix 0 j26 (sL (sA (sA (sA (sA S 43 8) 40 5) 40 5) 40 4) (sN (sA (sA (sA S 43 8) 40 5) 40 5))) ∧ ∃ j28, ix 1 j28 (sL (sA (sA (sA (sA S 43 8) 40 5) 40 5) 40 4) (sN (sA (sA (sA S 43 8) 40 5) 40 5))) ∧ ∃ j30, ix 2 j30 (sL (sA (sA (sA (sA S 43 8) 40 5) 40 5) 40 4) (sN (sA (sA (sA S 43 8) 40 5) 40 5))) ∧ ∃ j32, ix 3 j32 (sL (sA (sA (sA (sA S 43 8) 40 5) 40 5) 40 4) (sN (sA (sA (sA S 43 8) 40 5) 40 5))) ∧ sT (sA (sA (sA (sA S 43 8) 40 5) 40 5) 40 4) r0 = 8 ∧ T g MX2_init 4 60 [.ref (sN (sA (sA (sA (sA S 43 8) 40 5) 40 5) 40 4))] (sA (sA (sA (sA (sA S 43 8) 40 5) 40 5) 40 4) 3 0) (zP (p2 (zP (p2 (zP (p2 (zP (p2 (zP (p2 P a_s1 1 (a_s0 + 1)) (sN S)) r0 4 ((sN S) + 1)) (sN (sA S 43 8))) r0 6 ((sN (sA S 43 8)) + 1)) (sN (sA (sA S 43 8) 40 5))) r0 7 ((sN (sA (sA S 43 8) 40 5)) + 1)) (sN (sA (sA (sA S 43 8) 40 5) 40 5))) r0 8 ((sN (sA (sA (sA S 43 8) 40 5) 40 5)) + 1)) (sN (sA (sA (sA (sA S 43 8) 40 5) 40 5) 40 4))) (zI (u2 (u2 (u2 (u2 (zI (u2 (u2 (u2 (u2 (u2 (zI (u2 (u2 (u2 (u2 (u2 (zI (u2 (zI (u2 (u2 I r0 2 0) r0 3 (-1)) (sN S)) r0 5 0) (sN (sA S 43 8))) (sN (sA S 43 8)) j4 10) (sN (sA S 43 8)) j6 10) (sN (sA S 43 8)) j8 10) (sN (sA S 43 8)) j10 10) (sN (sA S 43 8)) j12 10) (sN (sA (sA S 43 8) 40 5))) (sN (sA (sA S 43 8) 40 5)) j15 200) (sN (sA (sA S 43 8) 40 5)) j17 200) (sN (sA (sA S 43 8) 40 5)) j19 200) (sN (sA (sA S 43 8) 40 5)) j21 200) (sN (sA (sA S 43 8) 40 5)) j23 200) (sN (sA (sA (sA S 43 8) 40 5) 40 5))) (sN (sA (sA (sA S 43 8) 40 5) 40 5)) j26 5) (sN (sA (sA (sA S 43 8) 40 5) 40 5)) j28 5) (sN (sA (sA (sA S 43 8) 40 5) 40 5)) j30 5) (sN (sA (sA (sA S 43 8) 40 5) 40 5)) j32 5) (sN (sA (sA (sA (sA S 43 8) 40 5) 40 5) 40 4))) (fun r S' P' I' => B g MX7_init rc rs 150 [(0, .ref r0)] (r.toList ++ [.ref (sN (sA (sA (sA (sA S 43 8) 40 5) 40 5) 40 4)), .ref r0]) S' P' I' Q)) : B g MX7_init (rc + 9) (rs + 89) 23 [(0, .ref r0)] [.ref a_s0, .ref a_s1] S P I Q := by
  obtain ⟨t1, h⟩ := h
  refine B.putF dX7_init_23 fw_7_21 rfl t1 rfl rfl ?_
  refine B.aload_n 0 dX7_init_26 rfl rfl ?_
  refine B.iconst 0 dX7_init_27 (by decide) ?_
  obtain ⟨t2, h⟩ := h
  refine B.putI dX7_init_28 fw_7_25 t2 ?_
  refine B.aload_n 0 dX7_init_31 rfl rfl ?_
  refine B.iconst (-1) dX7_init_32 (by decide) ?_
  refine B.putI dX7_init_33 fw_7_29 t2 ?_
  refine B.aload_n 0 dX7_init_36 rfl rfl ?_
  refine B.bipush 8 dX7_init_37 (by decide) ?_
  refine B.newrefs (rc := (rc + 8)) (rs := (rs + 81)) (t := 3) (N := 8) 1 (RX1, TX1, 9) (by decide) rfl rfl ck_X7_32 (by decide) dX7_init_39 (by decide) (by decide) (by decide) ?_
  obtain ⟨t3, h⟩ := h
  refine B.putF dX7_init_42 fw_7_34 rfl t3 rfl rfl ?_
  refine B.aload_n 0 dX7_init_45 rfl rfl ?_
  refine B.iconst 0 dX7_init_46 (by decide) ?_
  refine B.putI dX7_init_47 fw_7_38 t3 ?_
  refine B.aload_n 0 dX7_init_50 rfl rfl ?_
  refine B.iconst 5 dX7_init_51 (by decide) ?_
  refine B.newarr (rc := (rc + 7)) (rs := (rs + 76)) (t := 0) (N := 5) .int (by decide) rfl rfl ac_int dX7_init_52 (by decide) (by decide) (by decide) ?_
  refine B.dup dX7_init_54 rfl ?_
  refine B.iconst 0 dX7_init_55 (by decide) ?_
  refine B.bipush 10 dX7_init_56 (by decide) ?_
  obtain ⟨j4, h⟩ := h
  obtain ⟨t5, h⟩ := h
  refine B.iastore dX7_init_58 (by rw [sA_t, if_pos rfl]) t5 ?_
  refine B.dup dX7_init_59 rfl ?_
  refine B.iconst 1 dX7_init_60 (by decide) ?_
  refine B.bipush 10 dX7_init_61 (by decide) ?_
  obtain ⟨j6, h⟩ := h
  obtain ⟨t7, h⟩ := h
  refine B.iastore dX7_init_63 (by rw [sA_t, if_pos rfl]) t7 ?_
  refine B.dup dX7_init_64 rfl ?_
  refine B.iconst 2 dX7_init_65 (by decide) ?_
  refine B.bipush 10 dX7_init_66 (by decide) ?_
  obtain ⟨j8, h⟩ := h
  obtain ⟨t9, h⟩ := h
  refine B.iastore dX7_init_68 (by rw [sA_t, if_pos rfl]) t9 ?_
  refine B.dup dX7_init_69 rfl ?_
  refine B.iconst 3 dX7_init_70 (by decide) ?_
  refine B.bipush 10 dX7_init_71 (by decide) ?_
  obtain ⟨j10, h⟩ := h
  obtain ⟨t11, h⟩ := h
  refine B.iastore dX7_init_73 (by rw [sA_t, if_pos rfl]) t11 ?_
  refine B.dup dX7_init_74 rfl ?_
  refine B.iconst 4 dX7_init_75 (by decide) ?_
  refine B.bipush 10 dX7_init_76 (by decide) ?_
  obtain ⟨j12, h⟩ := h
  obtain ⟨t13, h⟩ := h
  refine B.iastore dX7_init_78 (by rw [sA_t, if_pos rfl]) t13 ?_
  obtain ⟨t14, h⟩ := h
  refine B.putF dX7_init_79 fw_7_41 rfl t14 rfl rfl ?_
  refine B.aload_n 0 dX7_init_82 rfl rfl ?_
  refine B.iconst 5 dX7_init_83 (by decide) ?_
  refine B.newarr (rc := (rc + 6)) (rs := (rs + 71)) (t := 0) (N := 5) .int (by decide) rfl rfl ac_int dX7_init_84 (by decide) (by decide) (by decide) ?_
  refine B.dup dX7_init_86 rfl ?_
  refine B.iconst 0 dX7_init_87 (by decide) ?_
  refine B.sipush 200 dX7_init_88 (by decide) ?_
  obtain ⟨j15, h⟩ := h
  obtain ⟨t16, h⟩ := h
  refine B.iastore dX7_init_91 (by rw [sA_t, if_pos rfl]) t16 ?_
  refine B.dup dX7_init_92 rfl ?_
  refine B.iconst 1 dX7_init_93 (by decide) ?_
  refine B.sipush 200 dX7_init_94 (by decide) ?_
  obtain ⟨j17, h⟩ := h
  obtain ⟨t18, h⟩ := h
  refine B.iastore dX7_init_97 (by rw [sA_t, if_pos rfl]) t18 ?_
  refine B.dup dX7_init_98 rfl ?_
  refine B.iconst 2 dX7_init_99 (by decide) ?_
  refine B.sipush 200 dX7_init_100 (by decide) ?_
  obtain ⟨j19, h⟩ := h
  obtain ⟨t20, h⟩ := h
  refine B.iastore dX7_init_103 (by rw [sA_t, if_pos rfl]) t20 ?_
  refine B.dup dX7_init_104 rfl ?_
  refine B.iconst 3 dX7_init_105 (by decide) ?_
  refine B.sipush 200 dX7_init_106 (by decide) ?_
  obtain ⟨j21, h⟩ := h
  obtain ⟨t22, h⟩ := h
  refine B.iastore dX7_init_109 (by rw [sA_t, if_pos rfl]) t22 ?_
  refine B.dup dX7_init_110 rfl ?_
  refine B.iconst 4 dX7_init_111 (by decide) ?_
  refine B.sipush 200 dX7_init_112 (by decide) ?_
  obtain ⟨j23, h⟩ := h
  obtain ⟨t24, h⟩ := h
  refine B.iastore dX7_init_115 (by rw [sA_t, if_pos rfl]) t24 ?_
  obtain ⟨t25, h⟩ := h
  refine B.putF dX7_init_116 fw_7_45 rfl t25 rfl rfl ?_
  refine B.aload_n 0 dX7_init_119 rfl rfl ?_
  refine B.iconst 4 dX7_init_120 (by decide) ?_
  refine B.newarr (rc := (rc + 5)) (rs := (rs + 67)) (t := 0) (N := 4) .int (by decide) rfl rfl ac_int dX7_init_121 (by decide) (by decide) (by decide) ?_
  refine B.dup dX7_init_123 rfl ?_
  refine B.iconst 0 dX7_init_124 (by decide) ?_
  refine B.iconst 5 dX7_init_125 (by decide) ?_
  obtain ⟨j26, h⟩ := h
  obtain ⟨t27, h⟩ := h
  refine B.iastore dX7_init_126 (by rw [sA_t, if_pos rfl]) t27 ?_
  refine B.dup dX7_init_127 rfl ?_
  refine B.iconst 1 dX7_init_128 (by decide) ?_
  refine B.iconst 5 dX7_init_129 (by decide) ?_
  obtain ⟨j28, h⟩ := h
  obtain ⟨t29, h⟩ := h
  refine B.iastore dX7_init_130 (by rw [sA_t, if_pos rfl]) t29 ?_
  refine B.dup dX7_init_131 rfl ?_
  refine B.iconst 2 dX7_init_132 (by decide) ?_
  refine B.iconst 5 dX7_init_133 (by decide) ?_
  obtain ⟨j30, h⟩ := h
  obtain ⟨t31, h⟩ := h
  refine B.iastore dX7_init_134 (by rw [sA_t, if_pos rfl]) t31 ?_
  refine B.dup dX7_init_135 rfl ?_
  refine B.iconst 3 dX7_init_136 (by decide) ?_
  refine B.iconst 5 dX7_init_137 (by decide) ?_
  obtain ⟨j32, h⟩ := h
  obtain ⟨t33, h⟩ := h
  refine B.iastore dX7_init_138 (by rw [sA_t, if_pos rfl]) t33 ?_
  obtain ⟨t34, h⟩ := h
  refine B.putF dX7_init_139 fw_7_48 rfl t34 rfl rfl ?_
  refine B.aload_n 0 dX7_init_142 rfl rfl ?_
  refine B.newobj (rc := (rc + 4)) (rs := (rs + 60)) 2 (RX2, TX2, 7) rfl ck_X7_51 nw_2.1 nw_2.2 dX7_init_143 ?_
  refine B.dup dX7_init_146 rfl ?_
  refine B.callI (M' := MX2_init) (rc := rc) (rs := rs) (mc := 4) (ms := 60) (st := [.ref (sN (sA (sA (sA (sA S 43 8) 40 5) 40 5) 40 4)), .ref r0]) [] dX7_init_147 mi_X2_init lk_X7_53 ⟨Nat.le_of_ble_eq_true rfl, Nat.le_of_ble_eq_true rfl⟩ rfl rfl (Nat.le_of_ble_eq_true rfl) ?_
  exact h
theorem s_X7_init_150 {g : GT} {rc rs : Nat} {S : ST} {P : PT} {I : IT} {Q : QT} {r0 : Nat} {a_s0 : Nat} {a_s1 : Nat} (h : sT S a_s1 = 8 ∧ sT (sA S 44 24) r0 = 8 ∧ B g MX7_init rc rs 174 [(0, .ref r0), (1, .int 0)] [] (sA S 44 24) (p2 (zP (p2 P a_s1 9 (a_s0 + 1)) (sN S)) r0 10 ((sN S) + 1)) (u2 (u2 (zI I (sN S)) r0 11 0) r0 12 0) Q) : B g MX7_init (rc + 1) (rs + 24) 150 [(0, .ref r0)] [.ref a_s0, .ref a_s1] S P I Q := by
  obtain ⟨t1, h⟩ := h
  refine B.putF dX7_init_150 fw_7_54 rfl t1 rfl rfl ?_
  refine B.aload_n 0 dX7_init_153 rfl rfl ?_
  refine B.bipush 24 dX7_init_154 (by decide) ?_
  refine B.newrefs (rc := rc) (rs := rs) (t := 4) (N := 24) 3 (RX3, TX3, 8) (by decide) rfl rfl ck_X7_58 (by decide) dX7_init_156 (by decide) (by decide) (by decide) ?_
  obtain ⟨t2, h⟩ := h
  refine B.putF dX7_init_159 fw_7_60 rfl t2 rfl rfl ?_
  refine B.aload_n 0 dX7_init_162 rfl rfl ?_
  refine B.iconst 0 dX7_init_163 (by decide) ?_
  refine B.putI dX7_init_164 fw_7_64 t2 ?_
  refine B.aload_n 0 dX7_init_167 rfl rfl ?_
  refine B.iconst 0 dX7_init_168 (by decide) ?_
  refine B.putI dX7_init_169 fw_7_67 t2 ?_
  refine B.iconst 0 dX7_init_172 (by decide) ?_
  refine B.istore_n (lv' := [(0, .ref r0), (1, .int 0)]) dX7_init_173 rfl (by decide) rfl ?_
  exact h
theorem s_X7_init_174 {g : GT} {rc rs : Nat} {S : ST} {P : PT} {I : IT} {Q : QT} {r0 : Nat} {x1 : Int32} (h : ((8 ≤ x1 → B g MX7_init (rc + 5) (rs + 41) 201 [(0, .ref r0), (1, .int 0)] [] S P I Q) ∧ (¬ 8 ≤ x1 → sT S r0 = 8 ∧ ∃ b3, P r0 4 = b3 + 1 ∧ T g MX1_init 4 32 [.ref (sN S)] (sA S 2 0) (zP P (sN S)) (zI I (sN S)) (fun r S' P' I' => B g MX7_init rc rs 192 [(0, .ref r0), (1, .int x1)] (r.toList ++ [.ref (sN S), .int x1, .ref b3]) S' P' I' Q)))) : B g MX7_init (rc + 5) (rs + 41) 174 [(0, .ref r0), (1, .int x1)] [] S P I Q := by
  refine B.iload_n 1 dX7_init_174 rfl rfl ?_
  refine B.bipush 8 dX7_init_175 (by decide) ?_
  refine B.icmp_ge 199 dX7_init_177 (by decide) (fun q1 => ?_) (fun q1 => ?_)
  · replace h := h.1 q1
    refine B.iconst 0 dX7_init_199 (by decide) ?_
    refine B.istore_n (lv' := [(0, .ref r0), (1, .int 0)]) dX7_init_200 rfl (by decide) rfl ?_
    exact h
  · replace h := h.2 q1
    refine B.aload_n 0 dX7_init_180 rfl rfl ?_
    obtain ⟨t2, h⟩ := h
    obtain ⟨b3, h⟩ := h
    obtain ⟨t4, h⟩ := h
    refine B.getP dX7_init_181 fl_7_34 t2 t4 ?_
    refine B.iload_n 1 dX7_init_184 rfl rfl ?_
    refine B.newobj (rc := (rc + 4)) (rs := (rs + 32)) 1 (RX1, TX1, 9) rfl ck_X7_32 nw_1.1 nw_1.2 dX7_init_185 ?_
    refine B.dup dX7_init_188 rfl ?_
    refine B.callIN (M' := MX1_init) (rc := rc) (rs := rs) (mc := 4) (ms := 32) (st := [.ref (sN S), .int x1, .ref b3]) [] "KilnVillage" dX7_init_189 mi_X1_init ⟨186, by decide +kernel⟩ ⟨Nat.le_of_ble_eq_true rfl, Nat.le_of_ble_eq_true rfl⟩ rfl rfl (Nat.le_of_ble_eq_true rfl) ?_
    exact h
theorem s_X7_init_192 {g : GT} {rc rs : Nat} {S : ST} {P : PT} {I : IT} {Q : QT} {r0 : Nat} {x1 : Int32} {a_s0 : Nat} {w_s1 : Int32} {a_s2 : Nat} (h : sT S a_s2 = 43 ∧ ∃ j2, ix w_s1 j2 (sL S a_s2) ∧ sT S a_s0 = 2 ∧ B g MX7_init rc rs 174 [(0, .ref r0), (1, .int (x1 + 1))] [] S (p2 P a_s2 j2 (a_s0 + 1)) I Q) : B g MX7_init rc rs 192 [(0, .ref r0), (1, .int x1)] [.ref a_s0, .int w_s1, .ref a_s2] S P I Q := by
  obtain ⟨t1, h⟩ := h
  obtain ⟨j2, h⟩ := h
  obtain ⟨t3, h⟩ := h
  obtain ⟨t4, h⟩ := h
  refine B.aastore 3 1 (RX1, TX1, 9) (by decide) rfl rfl dX7_init_192 t1 t3 t4 ?_
  refine B.iinc (lv' := [(0, .ref r0), (1, .int (x1 + 1))]) 1 (x1 + 1) dX7_init_193 rfl rfl (by decide) rfl ?_
  refine B.goto_ 174 dX7_init_196 (by decide) ?_
  exact h
theorem s_X7_init_201 {g : GT} {rc rs : Nat} {S : ST} {P : PT} {I : IT} {Q : QT} {r0 : Nat} {x1 : Int32} (h : ((24 ≤ x1 → Q none S P I) ∧ (¬ 24 ≤ x1 → sT S r0 = 8 ∧ ∃ b3, P r0 10 = b3 + 1 ∧ T g MX3_init 0 0 [.ref (sN S)] (sA S 4 0) (zP P (sN S)) (zI I (sN S)) (fun r S' P' I' => B g MX7_init rc rs 219 [(0, .ref r0), (1, .int x1)] (r.toList ++ [.ref (sN S), .int x1, .ref b3]) S' P' I' Q)))) : B g MX7_init (rc + 1) (rs + 8) 201 [(0, .ref r0), (1, .int x1)] [] S P I Q := by
  refine B.iload_n 1 dX7_init_201 rfl rfl ?_
  refine B.bipush 24 dX7_init_202 (by decide) ?_
  refine B.icmp_ge 226 dX7_init_204 (by decide) (fun q1 => ?_) (fun q1 => ?_)
  · replace h := h.1 q1
    refine B.return_ dX7_init_226 rfl ?_
    exact h
  · replace h := h.2 q1
    refine B.aload_n 0 dX7_init_207 rfl rfl ?_
    obtain ⟨t2, h⟩ := h
    obtain ⟨b3, h⟩ := h
    obtain ⟨t4, h⟩ := h
    refine B.getP dX7_init_208 fl_7_60 t2 t4 ?_
    refine B.iload_n 1 dX7_init_211 rfl rfl ?_
    refine B.newobj (rc := rc) (rs := rs) 3 (RX3, TX3, 8) rfl ck_X7_58 nw_3.1 nw_3.2 dX7_init_212 ?_
    refine B.dup dX7_init_215 rfl ?_
    refine B.callIN (M' := MX3_init) (rc := rc) (rs := rs) (mc := 0) (ms := 0) (st := [.ref (sN S), .int x1, .ref b3]) [] "KilnVillage" dX7_init_216 mi_X3_init ⟨228, by decide +kernel⟩ ⟨Nat.le_of_ble_eq_true rfl, Nat.le_of_ble_eq_true rfl⟩ rfl rfl (Nat.le_of_ble_eq_true rfl) ?_
    exact h
theorem s_X7_init_219 {g : GT} {rc rs : Nat} {S : ST} {P : PT} {I : IT} {Q : QT} {r0 : Nat} {x1 : Int32} {a_s0 : Nat} {w_s1 : Int32} {a_s2 : Nat} (h : sT S a_s2 = 44 ∧ ∃ j2, ix w_s1 j2 (sL S a_s2) ∧ sT S a_s0 = 4 ∧ B g MX7_init rc rs 201 [(0, .ref r0), (1, .int (x1 + 1))] [] S (p2 P a_s2 j2 (a_s0 + 1)) I Q) : B g MX7_init rc rs 219 [(0, .ref r0), (1, .int x1)] [.ref a_s0, .int w_s1, .ref a_s2] S P I Q := by
  obtain ⟨t1, h⟩ := h
  obtain ⟨j2, h⟩ := h
  obtain ⟨t3, h⟩ := h
  obtain ⟨t4, h⟩ := h
  refine B.aastore 4 3 (RX3, TX3, 8) (by decide) rfl rfl dX7_init_219 t1 t3 t4 ?_
  refine B.iinc (lv' := [(0, .ref r0), (1, .int (x1 + 1))]) 1 (x1 + 1) dX7_init_220 rfl rfl (by decide) rfl ?_
  refine B.goto_ 201 dX7_init_223 (by decide) ?_
  exact h
theorem s_X8_init_0 {g : GT} {rc rs : Nat} {S : ST} {P : PT} {I : IT} {Q : QT} {r0 : Nat} (h : T g MX7_init 83 1117 [.ref (sN S)] (sA S 8 0) (zP P (sN S)) (zI I (sN S)) (fun r S' P' I' => B g MX8_init rc rs 12 [(0, .ref r0)] (r.toList ++ [.ref (sN S), .ref r0]) S' P' I' Q)) : B g MX8_init (rc + 84) (rs + 1130) 0 [(0, .ref r0)] [] S P I Q := by
  refine B.aload_n 0 dX8_init_0 rfl rfl ?_
  refine B.objInit dX8_init_1 lk_X8_1 (by decide) (by decide) (Nat.le_of_ble_eq_true rfl) ?_
  refine B.aload_n 0 dX8_init_4 rfl rfl ?_
  refine B.newobj (rc := (rc + 83)) (rs := (rs + 1117)) 7 (RX7, TX7, 13) rfl ck_X8_7 nw_7.1 nw_7.2 dX8_init_5 ?_
  refine B.dup dX8_init_8 rfl ?_
  refine B.callI (M' := MX7_init) (rc := rc) (rs := rs) (mc := 83) (ms := 1117) (st := [.ref (sN S), .ref r0]) [] dX8_init_9 mi_X7_init lk_X8_9 ⟨Nat.le_of_ble_eq_true rfl, Nat.le_of_ble_eq_true rfl⟩ rfl rfl (Nat.le_of_ble_eq_true rfl) ?_
  exact h
theorem s_X8_init_12 {g : GT} {rc rs : Nat} {S : ST} {P : PT} {I : IT} {Q : QT} {r0 : Nat} {a_s0 : Nat} {a_s1 : Nat} (h : sT S a_s1 = 9 ∧ sT (sA S 5 0) r0 = 9 ∧ ∃ b3, (zP (p2 P a_s1 0 (a_s0 + 1)) (sN S)) r0 0 = b3 + 1 ∧ sT (sA S 5 0) b3 = 8 ∧ ∃ b6, (zP (p2 P a_s1 0 (a_s0 + 1)) (sN S)) b3 0 = b6 + 1 ∧ T g MX4_init 10 1084 [.ref (sN S), .ref b6] (sA S 5 0) (zP (p2 P a_s1 0 (a_s0 + 1)) (sN S)) (zI I (sN S)) (fun r S' P' I' => B g MX8_init rc rs 30 [(0, .ref r0)] (r.toList ++ [.ref (sN S), .ref r0]) S' P' I' Q)) : B g MX8_init (rc + 11) (rs + 1089) 12 [(0, .ref r0)] [.ref a_s0, .ref a_s1] S P I Q := by
  obtain ⟨t1, h⟩ := h
  refine B.putF dX8_init_12 fw_8_10 rfl t1 rfl rfl ?_
  refine B.aload_n 0 dX8_init_15 rfl rfl ?_
  refine B.newobj (rc := (rc + 10)) (rs := (rs + 1084)) 4 (RX4, TX4, 5) rfl ck_X8_16 nw_4.1 nw_4.2 dX8_init_16 ?_
  refine B.dup dX8_init_19 rfl ?_
  refine B.aload_n 0 dX8_init_20 rfl rfl ?_
  obtain ⟨t2, h⟩ := h
  obtain ⟨b3, h⟩ := h
  obtain ⟨t4, h⟩ := h
  refine B.getP dX8_init_21 fl_8_10 t2 t4 ?_
  obtain ⟨t5, h⟩ := h
  obtain ⟨b6, h⟩ := h
  obtain ⟨t7, h⟩ := h
  refine B.getP dX8_init_24 fl_8_18 t5 t7 ?_
  refine B.callI (M' := MX4_init) (rc := rc) (rs := rs) (mc := 10) (ms := 1084) (st := [.ref (sN S), .ref r0]) [.ref b6] dX8_init_27 mi_X4_init lk_X8_22 ⟨Nat.le_of_ble_eq_true rfl, Nat.le_of_ble_eq_true rfl⟩ rfl rfl (Nat.le_of_ble_eq_true rfl) ?_
  exact h
theorem s_X8_init_30 {g : GT} {rc rs : Nat} {S : ST} {P : PT} {I : IT} {Q : QT} {r0 : Nat} {a_s0 : Nat} {a_s1 : Nat} (h : sT S a_s1 = 9 ∧ sT (sA S 45 3) r0 = 9 ∧ Q none (sA S 45 3) (p2 (zP (p2 P a_s1 1 (a_s0 + 1)) (sN S)) r0 2 ((sN S) + 1)) (zI I (sN S))) : B g MX8_init (rc + 1) (rs + 3) 30 [(0, .ref r0)] [.ref a_s0, .ref a_s1] S P I Q := by
  obtain ⟨t1, h⟩ := h
  refine B.putF dX8_init_30 fw_8_25 rfl t1 rfl rfl ?_
  refine B.aload_n 0 dX8_init_33 rfl rfl ?_
  refine B.iconst 3 dX8_init_34 (by decide) ?_
  refine B.newrefs (rc := rc) (rs := rs) (t := 5) (N := 3) 7 (RX7, TX7, 13) (by decide) rfl rfl ck_X8_7 (by decide) dX8_init_35 (by decide) (by decide) (by decide) ?_
  obtain ⟨t2, h⟩ := h
  refine B.putF dX8_init_38 fw_8_29 rfl t2 rfl rfl ?_
  refine B.return_ dX8_init_41 rfl ?_
  exact h
theorem s_X9_init_0 {g : GT} {rc rs : Nat} {S : ST} {P : PT} {I : IT} {Q : QT} {r0 : Nat} (h : sT (sA S 40 4080) r0 = 10 ∧ sT (sA (sA S 40 4080) 42 3) r0 = 10 ∧ sT (sA (sA (sA S 40 4080) 42 3) 40 216) r0 = 10 ∧ sT (sA (sA (sA (sA S 40 4080) 42 3) 40 216) 40 4) r0 = 10 ∧ sT (sA (sA (sA (sA (sA S 40 4080) 42 3) 40 216) 40 4) 40 6) r0 = 10 ∧ ∃ b6, (p2 (zP (p2 (zP (p2 (zP (p2 (zP (p2 (zP P (sN S)) r0 0 ((sN S) + 1)) (sN (sA S 40 4080))) r0 1 ((sN (sA S 40 4080)) + 1)) (sN (sA (sA S 40 4080) 42 3))) r0 11 ((sN (sA (sA S 40 4080) 42 3)) + 1)) (sN (sA (sA (sA S 40 4080) 42 3) 40 216))) r0 12 ((sN (sA (sA (sA S 40 4080) 42 3) 40 216)) + 1)) (sN (sA (sA (sA (sA S 40 4080) 42 3) 40 216) 40 4))) r0 13 ((sN (sA (sA (sA (sA S 40 4080) 42 3) 40 216) 40 4)) + 1)) r0 0 = b6 + 1 ∧ sT (sA (sA (sA (sA (sA S 40 4080) 42 3) 40 216) 40 4) 40 6) b6 = 40 ∧ ∃ j9, ix 9 j9 (sL (sA (sA (sA (sA (sA S 40 4080) 42 3) 40 216) 40 4) 40 6) b6) ∧ B g MX9_init rc rs 54 [(0, .ref r0), (1, .int 0)] [] (sA (sA (sA (sA (sA S 40 4080) 42 3) 40 216) 40 4) 40 6) (p2 (zP (p2 (zP (p2 (zP (p2 (zP (p2 (zP P (sN S)) r0 0 ((sN S) + 1)) (sN (sA S 40 4080))) r0 1 ((sN (sA S 40 4080)) + 1)) (sN (sA (sA S 40 4080) 42 3))) r0 11 ((sN (sA (sA S 40 4080) 42 3)) + 1)) (sN (sA (sA (sA S 40 4080) 42 3) 40 216))) r0 12 ((sN (sA (sA (sA S 40 4080) 42 3) 40 216)) + 1)) (sN (sA (sA (sA (sA S 40 4080) 42 3) 40 216) 40 4))) r0 13 ((sN (sA (sA (sA (sA S 40 4080) 42 3) 40 216) 40 4)) + 1)) (u2 (zI (zI (zI (zI (zI I (sN S)) (sN (sA S 40 4080))) (sN (sA (sA S 40 4080) 42 3))) (sN (sA (sA (sA S 40 4080) 42 3) 40 216))) (sN (sA (sA (sA (sA S 40 4080) 42 3) 40 216) 40 4))) b6 j9 (-1)) Q) : B g MX9_init (rc + 5) (rs + 4309) 0 [(0, .ref r0)] [] S P I Q := by
  refine B.aload_n 0 dX9_init_0 rfl rfl ?_
  refine B.objInit dX9_init_1 lk_X9_1 (by decide) (by decide) (Nat.le_of_ble_eq_true rfl) ?_
  refine B.aload_n 0 dX9_init_4 rfl rfl ?_
  refine B.sipush 4080 dX9_init_5 (by decide) ?_
  refine B.newarr (rc := (rc + 4)) (rs := (rs + 229)) (t := 0) (N := 4080) .int (by decide) rfl rfl ac_int dX9_init_8 (by decide) (by decide) (by decide) ?_
  obtain ⟨t1, h⟩ := h
  refine B.putF dX9_init_10 fw_9_7 rfl t1 rfl rfl ?_
  refine B.aload_n 0 dX9_init_13 rfl rfl ?_
  refine B.iconst 3 dX9_init_14 (by decide) ?_
  refine B.newarr (rc := (rc + 3)) (rs := (rs + 226)) (t := 2) (N := 3) .boolean (by decide) rfl rfl ac_boolean dX9_init_15 (by decide) (by decide) (by decide) ?_
  obtain ⟨t2, h⟩ := h
  refine B.putF dX9_init_17 fw_9_13 rfl t2 rfl rfl ?_
  refine B.aload_n 0 dX9_init_20 rfl rfl ?_
  refine B.sipush 216 dX9_init_21 (by decide) ?_
  refine B.newarr (rc := (rc + 2)) (rs := (rs + 10)) (t := 0) (N := 216) .int (by decide) rfl rfl ac_int dX9_init_24 (by decide) (by decide) (by decide) ?_
  obtain ⟨t3, h⟩ := h
  refine B.putF dX9_init_26 fw_9_17 rfl t3 rfl rfl ?_
  refine B.aload_n 0 dX9_init_29 rfl rfl ?_
  refine B.iconst 4 dX9_init_30 (by decide) ?_
  refine B.newarr (rc := (rc + 1)) (rs := (rs + 6)) (t := 0) (N := 4) .int (by decide) rfl rfl ac_int dX9_init_31 (by decide) (by decide) (by decide) ?_
  obtain ⟨t4, h⟩ := h
  refine B.putF dX9_init_33 fw_9_20 rfl t4 rfl rfl ?_
  refine B.aload_n 0 dX9_init_36 rfl rfl ?_
  refine B.bipush 6 dX9_init_37 (by decide) ?_
  refine B.newarr (rc := rc) (rs := rs) (t := 0) (N := 6) .int (by decide) rfl rfl ac_int dX9_init_39 (by decide) (by decide) (by decide) ?_
  obtain ⟨t5, h⟩ := h
  refine B.putF dX9_init_41 fw_9_23 rfl t5 rfl rfl ?_
  refine B.aload_n 0 dX9_init_44 rfl rfl ?_
  obtain ⟨b6, h⟩ := h
  obtain ⟨t7, h⟩ := h
  refine B.getP dX9_init_45 fl_9_7 t5 t7 ?_
  refine B.bipush 9 dX9_init_48 (by decide) ?_
  refine B.iconst (-1) dX9_init_50 (by decide) ?_
  obtain ⟨t8, h⟩ := h
  obtain ⟨j9, h⟩ := h
  obtain ⟨t10, h⟩ := h
  refine B.iastore dX9_init_51 t8 t10 ?_
  refine B.iconst 0 dX9_init_52 (by decide) ?_
  refine B.istore_n (lv' := [(0, .ref r0), (1, .int 0)]) dX9_init_53 rfl (by decide) rfl ?_
  exact h
theorem s_X9_init_54 {g : GT} {rc rs : Nat} {S : ST} {P : PT} {I : IT} {Q : QT} {r0 : Nat} {x1 : Int32} (h : ((5 ≤ x1 → B g MX9_init rc rs 96 [(0, .ref r0), (1, .int 0)] [] S P I Q) ∧ (¬ 5 ≤ x1 → sT S r0 = 10 ∧ ∃ b3, P r0 0 = b3 + 1 ∧ sT S b3 = 40 ∧ ∃ j6, ix (40 + (2 * x1)) j6 (sL S b3) ∧ ∃ j8, ix ((40 + (2 * x1)) + 1) j8 (sL S b3) ∧ B g MX9_init rc rs 54 [(0, .ref r0), (1, .int (x1 + 1))] [] S P (u2 (u2 I b3 j6 10) b3 j8 200) Q))) : B g MX9_init rc rs 54 [(0, .ref r0), (1, .int x1)] [] S P I Q := by
  refine B.iload_n 1 dX9_init_54 rfl rfl ?_
  refine B.iconst 5 dX9_init_55 (by decide) ?_
  refine B.icmp_ge 94 dX9_init_56 (by decide) (fun q1 => ?_) (fun q1 => ?_)
  · replace h := h.1 q1
    refine B.iconst 0 dX9_init_94 (by decide) ?_
    refine B.istore_n (lv' := [(0, .ref r0), (1, .int 0)]) dX9_init_95 rfl (by decide) rfl ?_
    exact h
  · replace h := h.2 q1
    refine B.aload_n 0 dX9_init_59 rfl rfl ?_
    obtain ⟨t2, h⟩ := h
    obtain ⟨b3, h⟩ := h
    obtain ⟨t4, h⟩ := h
    refine B.getP dX9_init_60 fl_9_7 t2 t4 ?_
    refine B.bipush 40 dX9_init_63 (by decide) ?_
    refine B.iconst 2 dX9_init_65 (by decide) ?_
    refine B.iload_n 1 dX9_init_66 rfl rfl ?_
    refine B.imul dX9_init_67 ?_
    refine B.iadd dX9_init_68 ?_
    refine B.bipush 10 dX9_init_69 (by decide) ?_
    obtain ⟨t5, h⟩ := h
    obtain ⟨j6, h⟩ := h
    obtain ⟨t7, h⟩ := h
    refine B.iastore dX9_init_71 t5 t7 ?_
    refine B.aload_n 0 dX9_init_72 rfl rfl ?_
    refine B.getP dX9_init_73 fl_9_7 t2 t4 ?_
    refine B.bipush 40 dX9_init_76 (by decide) ?_
    refine B.iconst 2 dX9_init_78 (by decide) ?_
    refine B.iload_n 1 dX9_init_79 rfl rfl ?_
    refine B.imul dX9_init_80 ?_
    refine B.iadd dX9_init_81 ?_
    refine B.iconst 1 dX9_init_82 (by decide) ?_
    refine B.iadd dX9_init_83 ?_
    refine B.sipush 200 dX9_init_84 (by decide) ?_
    obtain ⟨j8, h⟩ := h
    obtain ⟨t9, h⟩ := h
    refine B.iastore dX9_init_87 t5 t9 ?_
    refine B.iinc (lv' := [(0, .ref r0), (1, .int (x1 + 1))]) 1 (x1 + 1) dX9_init_88 rfl rfl (by decide) rfl ?_
    refine B.goto_ 54 dX9_init_91 (by decide) ?_
    exact h
theorem s_X9_init_96 {g : GT} {rc rs : Nat} {S : ST} {P : PT} {I : IT} {Q : QT} {r0 : Nat} {x1 : Int32} (h : ((4 ≤ x1 → sT S r0 = 10 ∧ T g MX9_begins 0 0 [.ref r0, .int 3] S P I (fun r S' P' I' => B g MX9_init rc rs 122 [(0, .ref r0), (1, .int x1)] (r.toList ++ []) S' P' I' Q)) ∧ (¬ 4 ≤ x1 → sT S r0 = 10 ∧ ∃ b4, P r0 0 = b4 + 1 ∧ sT S b4 = 40 ∧ ∃ j7, ix (50 + x1) j7 (sL S b4) ∧ B g MX9_init rc rs 96 [(0, .ref r0), (1, .int (x1 + 1))] [] S P (u2 I b4 j7 5) Q))) : B g MX9_init rc rs 96 [(0, .ref r0), (1, .int x1)] [] S P I Q := by
  refine B.iload_n 1 dX9_init_96 rfl rfl ?_
  refine B.iconst 4 dX9_init_97 (by decide) ?_
  refine B.icmp_ge 117 dX9_init_98 (by decide) (fun q1 => ?_) (fun q1 => ?_)
  · replace h := h.1 q1
    refine B.aload_n 0 dX9_init_117 rfl rfl ?_
    refine B.iconst 3 dX9_init_118 (by decide) ?_
    obtain ⟨t2, h⟩ := h
    refine B.callV (M' := MX9_begins) (rc := rc) (rs := rs) (mc := 0) (ms := 0) (st := []) [.int 3] dX9_init_119 mv_X9_begins lk_X9_26 ⟨Nat.le_of_ble_eq_true rfl, Nat.le_of_ble_eq_true rfl⟩ rfl rfl (Nat.le_of_ble_eq_true rfl) t2 ?_
    exact h
  · replace h := h.2 q1
    refine B.aload_n 0 dX9_init_101 rfl rfl ?_
    obtain ⟨t3, h⟩ := h
    obtain ⟨b4, h⟩ := h
    obtain ⟨t5, h⟩ := h
    refine B.getP dX9_init_102 fl_9_7 t3 t5 ?_
    refine B.bipush 50 dX9_init_105 (by decide) ?_
    refine B.iload_n 1 dX9_init_107 rfl rfl ?_
    refine B.iadd dX9_init_108 ?_
    refine B.iconst 5 dX9_init_109 (by decide) ?_
    obtain ⟨t6, h⟩ := h
    obtain ⟨j7, h⟩ := h
    obtain ⟨t8, h⟩ := h
    refine B.iastore dX9_init_110 t6 t8 ?_
    refine B.iinc (lv' := [(0, .ref r0), (1, .int (x1 + 1))]) 1 (x1 + 1) dX9_init_111 rfl rfl (by decide) rfl ?_
    refine B.goto_ 96 dX9_init_114 (by decide) ?_
    exact h
theorem s_X9_init_122 {g : GT} {rc rs : Nat} {S : ST} {P : PT} {I : IT} {Q : QT} {r0 : Nat} {x1 : Int32} (h : Q none S P I) : B g MX9_init rc rs 122 [(0, .ref r0), (1, .int x1)] [] S P I Q := by
  refine B.return_ dX9_init_122 rfl ?_
  exact h
theorem s_X8_image_0 {g : GT} {rc rs : Nat} {S : ST} {P : PT} {I : IT} {Q : QT} {r0 : Nat} {x1 : Int32} (h : ((¬ (wi x1 0 2) = 0 → sT S r0 = 9 ∧ ∃ b3, P r0 2 = b3 + 1 ∧ sT S b3 = 45 ∧ ∃ j6, ix x1 j6 (sL S b3) ∧ ((∀ y8 : Nat, (P b3 j6) = y8 + 1 → ∃ b10, P b3 j6 = b10 + 1 ∧ ∃ b12, P r0 0 = b12 + 1 ∧ sT S b10 = 8 ∧ T g MX7_copyFrom 0 0 [.ref b10, .ref b12] S P I (fun r S' P' I' => B g MX8_image (rc + 84) (rs + 1130) 46 [(0, .ref r0), (1, .int x1)] (r.toList ++ []) S' P' I' Q)) ∧ ((P b3 j6) = 0 → T g MX7_init 83 1117 [.ref (sN S)] (sA S 8 0) (zP P (sN S)) (zI I (sN S)) (fun r S' P' I' => B g MX8_image rc rs 32 [(0, .ref r0), (1, .int x1)] (r.toList ++ [.ref (sN S), .int x1, .ref b3]) S' P' I' Q)))) ∧ ((wi x1 0 2) = 0 → Q (some (.int 0)) S P I))) : B g MX8_image (rc + 84) (rs + 1130) 0 [(0, .ref r0), (1, .int x1)] [] S P I Q := by
  refine B.iload_n 1 dX8_image_0 rfl rfl ?_
  refine B.iconst 0 dX8_image_1 (by decide) ?_
  refine B.iconst 2 dX8_image_2 (by decide) ?_
  refine B.callS (M' := MX8_within) (rc := (rc + 84)) (rs := (rs + 1130)) (mc := 0) (ms := 0) (st := []) [.int x1, .int 0, .int 2] dX8_image_3 ms_X8_within lk_X8_43 ⟨Nat.le_of_ble_eq_true rfl, Nat.le_of_ble_eq_true rfl⟩ rfl rfl (Nat.le_of_ble_eq_true rfl) (t_within ?_)
  show B g MX8_image (rc + 84) (rs + 1130) 6 [(0, .ref r0), (1, .int x1)] [.int (wi x1 0 2)] S P I _
  refine B.if_ne 11 dX8_image_6 (by decide) (fun q1 => ?_) (fun q1 => ?_)
  · replace h := h.1 q1
    refine B.aload_n 0 dX8_image_11 rfl rfl ?_
    obtain ⟨t2, h⟩ := h
    obtain ⟨b3, h⟩ := h
    obtain ⟨t4, h⟩ := h
    refine B.getP dX8_image_12 fl_8_29 t2 t4 ?_
    refine B.iload_n 1 dX8_image_15 rfl rfl ?_
    obtain ⟨t5, h⟩ := h
    obtain ⟨j6, h⟩ := h
    obtain ⟨t7, h⟩ := h
    refine B.aaloadG (t := 5) (by decide) (by decide) dX8_image_16 t5 t7 ?_
    refine B.ifnonnull 33 dX8_image_17 (by decide) (fun y8 q9 => ?_) (fun q9 => ?_)
    · replace h := h.1 y8 q9
      refine B.aload_n 0 dX8_image_33 rfl rfl ?_
      refine B.getP dX8_image_34 fl_8_29 t2 t4 ?_
      refine B.iload_n 1 dX8_image_37 rfl rfl ?_
      obtain ⟨b10, h⟩ := h
      obtain ⟨t11, h⟩ := h
      refine B.aaload 5 (by decide) dX8_image_38 t5 t7 t11 ?_
      refine B.aload_n 0 dX8_image_39 rfl rfl ?_
      obtain ⟨b12, h⟩ := h
      obtain ⟨t13, h⟩ := h
      refine B.getP dX8_image_40 fl_8_10 t2 t13 ?_
      obtain ⟨t14, h⟩ := h
      refine B.callV (M' := MX7_copyFrom) (rc := (rc + 84)) (rs := (rs + 1130)) (mc := 0) (ms := 0) (st := []) [.ref b12] dX8_image_43 mv_X7_copyFrom lk_X8_239 ⟨Nat.le_of_ble_eq_true rfl, Nat.le_of_ble_eq_true rfl⟩ rfl rfl (Nat.le_of_ble_eq_true rfl) t14 ?_
      exact h
    · replace h := h.2 q9
      refine B.aload_n 0 dX8_image_20 rfl rfl ?_
      refine B.getP dX8_image_21 fl_8_29 t2 t4 ?_
      refine B.iload_n 1 dX8_image_24 rfl rfl ?_
      refine B.newobj (rc := (rc + 83)) (rs := (rs + 1117)) 7 (RX7, TX7, 13) rfl ck_X8_7 nw_7.1 nw_7.2 dX8_image_25 ?_
      refine B.dup dX8_image_28 rfl ?_
      refine B.callI (M' := MX7_init) (rc := rc) (rs := rs) (mc := 83) (ms := 1117) (st := [.ref (sN S), .int x1, .ref b3]) [] dX8_image_29 mi_X7_init lk_X8_9 ⟨Nat.le_of_ble_eq_true rfl, Nat.le_of_ble_eq_true rfl⟩ rfl rfl (Nat.le_of_ble_eq_true rfl) ?_
      exact h
  · replace h := h.2 q1
    refine B.iconst 0 dX8_image_9 (by decide) ?_
    refine B.ireturn dX8_image_10 rfl rfl ?_
    exact h
theorem s_X8_image_32 {g : GT} {rc rs : Nat} {S : ST} {P : PT} {I : IT} {Q : QT} {r0 : Nat} {x1 : Int32} {a_s0 : Nat} {w_s1 : Int32} {a_s2 : Nat} (h : sT S a_s2 = 45 ∧ ∃ j2, ix w_s1 j2 (sL S a_s2) ∧ sT S a_s0 = 8 ∧ sT S r0 = 9 ∧ ∃ b6, (p2 P a_s2 j2 (a_s0 + 1)) r0 2 = b6 + 1 ∧ sT S b6 = 45 ∧ ∃ j9, ix x1 j9 (sL S b6) ∧ ∃ b11, (p2 P a_s2 j2 (a_s0 + 1)) b6 j9 = b11 + 1 ∧ ∃ b13, (p2 P a_s2 j2 (a_s0 + 1)) r0 0 = b13 + 1 ∧ sT S b11 = 8 ∧ T g MX7_copyFrom 0 0 [.ref b11, .ref b13] S (p2 P a_s2 j2 (a_s0 + 1)) I (fun r S' P' I' => B g MX8_image rc rs 46 [(0, .ref r0), (1, .int x1)] (r.toList ++ []) S' P' I' Q)) : B g MX8_image rc rs 32 [(0, .ref r0), (1, .int x1)] [.ref a_s0, .int w_s1, .ref a_s2] S P I Q := by
  obtain ⟨t1, h⟩ := h
  obtain ⟨j2, h⟩ := h
  obtain ⟨t3, h⟩ := h
  obtain ⟨t4, h⟩ := h
  refine B.aastore 5 7 (RX7, TX7, 13) (by decide) rfl rfl dX8_image_32 t1 t3 t4 ?_
  refine B.aload_n 0 dX8_image_33 rfl rfl ?_
  obtain ⟨t5, h⟩ := h
  obtain ⟨b6, h⟩ := h
  obtain ⟨t7, h⟩ := h
  refine B.getP dX8_image_34 fl_8_29 t5 t7 ?_
  refine B.iload_n 1 dX8_image_37 rfl rfl ?_
  obtain ⟨t8, h⟩ := h
  obtain ⟨j9, h⟩ := h
  obtain ⟨t10, h⟩ := h
  obtain ⟨b11, h⟩ := h
  obtain ⟨t12, h⟩ := h
  refine B.aaload 5 (by decide) dX8_image_38 t8 t10 t12 ?_
  refine B.aload_n 0 dX8_image_39 rfl rfl ?_
  obtain ⟨b13, h⟩ := h
  obtain ⟨t14, h⟩ := h
  refine B.getP dX8_image_40 fl_8_10 t5 t14 ?_
  obtain ⟨t15, h⟩ := h
  refine B.callV (M' := MX7_copyFrom) (rc := rc) (rs := rs) (mc := 0) (ms := 0) (st := []) [.ref b13] dX8_image_43 mv_X7_copyFrom lk_X8_239 ⟨Nat.le_of_ble_eq_true rfl, Nat.le_of_ble_eq_true rfl⟩ rfl rfl (Nat.le_of_ble_eq_true rfl) t15 ?_
  exact h
theorem s_X8_image_46 {g : GT} {rc rs : Nat} {S : ST} {P : PT} {I : IT} {Q : QT} {r0 : Nat} {x1 : Int32} (h : Q (some (.int 1)) S P I) : B g MX8_image rc rs 46 [(0, .ref r0), (1, .int x1)] [] S P I Q := by
  refine B.iconst 1 dX8_image_46 (by decide) ?_
  refine B.ireturn dX8_image_47 rfl rfl ?_
  exact h
