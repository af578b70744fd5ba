theorem s_X9_advance_0 {g : GT} {S : ST} {P : PT} {I : IT} {Q : QT} {r0 : Nat} (h : sT S r0 = 10 ∧ LM S P r0 ∧ (0 ≤ (I r0 3) ∧ I r0 2 ≤ 300) ∧ (((byA I r0 (I r0 3)) = 10 → B g MX9_advance 0 0 0 [(0, .ref r0)] [] S P (u2 I r0 3 ((I r0 3) + 1)) Q) ∧ (¬ (byA I r0 (I r0 3)) = 10 → LM S P r0 ∧ (0 ≤ (I r0 3) ∧ I r0 2 ≤ 300) ∧ ((¬ (byA I r0 (I r0 3)) = 32 → LM S P r0 ∧ (0 ≤ (I r0 3) ∧ (u2 I r0 4 (I r0 3)) r0 2 ≤ 300) ∧ ((0 ≤ (byA (u2 I r0 4 (I r0 3)) r0 (I r0 3)) → (((isLt (byA (u2 I r0 4 (I r0 3)) r0 (I r0 3))) = 0 → (((isDg (byA (u2 I r0 4 (I r0 3)) r0 (I r0 3))) = 0 → (((isSg (byA (u2 I r0 4 (I r0 3)) r0 (I r0 3))) = 0 → Q none S P (u2 (u2 (u2 (u2 I r0 4 (I r0 3)) r0 3 ((I r0 3) + 1)) r0 7 (byA (u2 I r0 4 (I r0 3)) r0 (I r0 3))) r0 5 4)) ∧ (¬ (isSg (byA (u2 I r0 4 (I r0 3)) r0 (I r0 3))) = 0 → Q none S P (u2 (u2 (u2 (u2 I r0 4 (I r0 3)) r0 3 ((I r0 3) + 1)) r0 7 (byA (u2 I r0 4 (I r0 3)) r0 (I r0 3))) r0 5 2)))) ∧ (¬ (isDg (byA (u2 I r0 4 (I r0 3)) r0 (I r0 3))) = 0 → B g MX9_advance 0 0 198 [(0, .ref r0), (1, .int (byA (u2 I r0 4 (I r0 3)) r0 (I r0 3)))] [] S P (u2 (u2 I r0 4 (I r0 3)) r0 6 0) Q))) ∧ (¬ (isLt (byA (u2 I r0 4 (I r0 3)) r0 (I r0 3))) = 0 → B g MX9_advance 0 0 77 [(0, .ref r0), (1, .int (byA (u2 I r0 4 (I r0 3)) r0 (I r0 3))), (2, .long 0)] [] S P (u2 I r0 4 (I r0 3)) Q))) ∧ (¬ 0 ≤ (byA (u2 I r0 4 (I r0 3)) r0 (I r0 3)) → Q none S P (u2 (u2 I r0 4 (I r0 3)) r0 5 0)))) ∧ ((byA I r0 (I r0 3)) = 32 → B g MX9_advance 0 0 0 [(0, .ref r0)] [] S P (u2 I r0 3 ((I r0 3) + 1)) Q))))) : B g MX9_advance 0 0 0 [(0, .ref r0)] [] S P I Q := by
  refine B.aload_n 0 dX9_advance_0 rfl rfl ?_
  refine B.aload_n 0 dX9_advance_1 rfl rfl ?_
  obtain ⟨t1, h⟩ := h
  refine B.getI dX9_advance_2 fl_9_54 t1 ?_
  obtain ⟨t2, h⟩ := h
  obtain ⟨t3, h⟩ := h
  refine B.callV (M' := MX9_byteAt) (rc := 0) (rs := 0) (mc := 0) (ms := 0) (st := []) [.int (I r0 3)] dX9_advance_5 mv_X9_byteAt lk_X9_57 ⟨Nat.le_of_ble_eq_true rfl, Nat.le_of_ble_eq_true rfl⟩ rfl rfl (Nat.le_of_ble_eq_true rfl) t1 (t_byteAt t2 t3 ?_)
  show B g MX9_advance 0 0 8 [(0, .ref r0)] [.int (byA I r0 (I r0 3))] S P I _
  refine B.bipush 10 dX9_advance_8 (by decide) ?_
  refine B.icmp_eq 26 dX9_advance_10 (by decide) (fun q4 => ?_) (fun q4 => ?_)
  · replace h := h.1 q4
    refine B.aload_n 0 dX9_advance_26 rfl rfl ?_
    refine B.dup dX9_advance_27 rfl ?_
    refine B.getI dX9_advance_28 fl_9_54 t1 ?_
    refine B.iconst 1 dX9_advance_31 (by decide) ?_
    refine B.iadd dX9_advance_32 ?_
    refine B.putI dX9_advance_33 fw_9_54 t1 ?_
    refine B.goto_ 0 dX9_advance_36 (by decide) ?_
    exact h
  · replace h := h.2 q4
    refine B.aload_n 0 dX9_advance_13 rfl rfl ?_
    refine B.aload_n 0 dX9_advance_14 rfl rfl ?_
    refine B.getI dX9_advance_15 fl_9_54 t1 ?_
    obtain ⟨t5, h⟩ := h
    obtain ⟨t6, h⟩ := h
    refine B.callV (M' := MX9_byteAt) (rc := 0) (rs := 0) (mc := 0) (ms := 0) (st := []) [.int (I r0 3)] dX9_advance_18 mv_X9_byteAt lk_X9_57 ⟨Nat.le_of_ble_eq_true rfl, Nat.le_of_ble_eq_true rfl⟩ rfl rfl (Nat.le_of_ble_eq_true rfl) t1 (t_byteAt t5 t6 ?_)
    show B g MX9_advance 0 0 21 [(0, .ref r0)] [.int (byA I r0 (I r0 3))] S P I _
    refine B.bipush 32 dX9_advance_21 (by decide) ?_
    refine B.icmp_ne 39 dX9_advance_23 (by decide) (fun q7 => ?_) (fun q7 => ?_)
    · replace h := h.1 q7
      refine B.aload_n 0 dX9_advance_39 rfl rfl ?_
      refine B.aload_n 0 dX9_advance_40 rfl rfl ?_
      refine B.getI dX9_advance_41 fl_9_54 t1 ?_
      refine B.putI dX9_advance_44 fw_9_61 t1 ?_
      refine B.aload_n 0 dX9_advance_47 rfl rfl ?_
      refine B.aload_n 0 dX9_advance_48 rfl rfl ?_
      refine B.getI dX9_advance_49 fl_9_54 t1 ?_
      rw [u2_k (I := I) (a := r0) (k := 4) (b := r0) (j := 3) (x := (I r0 3)) (by decide)]
      obtain ⟨t8, h⟩ := h
      obtain ⟨t9, h⟩ := h
      refine B.callV (M' := MX9_byteAt) (rc := 0) (rs := 0) (mc := 0) (ms := 0) (st := []) [.int (I r0 3)] dX9_advance_52 mv_X9_byteAt lk_X9_57 ⟨Nat.le_of_ble_eq_true rfl, Nat.le_of_ble_eq_true rfl⟩ rfl rfl (Nat.le_of_ble_eq_true rfl) t1 (t_byteAt t8 t9 ?_)
      show B g MX9_advance 0 0 55 [(0, .ref r0)] [.int (byA (u2 I r0 4 (I r0 3)) r0 (I r0 3))] S P (u2 I r0 4 (I r0 3)) _
      refine B.istore_n (lv' := [(0, .ref r0), (1, .int (byA (u2 I r0 4 (I r0 3)) r0 (I r0 3)))]) dX9_advance_55 rfl (by decide) rfl ?_
      refine B.iload_n 1 dX9_advance_56 rfl rfl ?_
      refine B.if_ge 68 dX9_advance_57 (by decide) (fun q10 => ?_) (fun q10 => ?_)
      · replace h := h.1 q10
        refine B.iload_n 1 dX9_advance_68 rfl rfl ?_
        refine B.callS (M' := MX9_isLetter) (rc := 0) (rs := 0) (mc := 0) (ms := 0) (st := []) [.int (byA (u2 I r0 4 (I r0 3)) r0 (I r0 3))] dX9_advance_69 ms_X9_isLetter lk_X9_67 ⟨Nat.le_of_ble_eq_true rfl, Nat.le_of_ble_eq_true rfl⟩ rfl rfl (Nat.le_of_ble_eq_true rfl) (t_isLetter9 ?_)
        show B g MX9_advance 0 0 72 [(0, .ref r0), (1, .int (byA (u2 I r0 4 (I r0 3)) r0 (I r0 3)))] [.int (isLt (byA (u2 I r0 4 (I r0 3)) r0 (I r0 3)))] S P (u2 I r0 4 (I r0 3)) _
        refine B.if_eq 186 dX9_advance_72 (by decide) (fun q11 => ?_) (fun q11 => ?_)
        · replace h := h.1 q11
          refine B.iload_n 1 dX9_advance_186 rfl rfl ?_
          refine B.callS (M' := MX9_isDigit) (rc := 0) (rs := 0) (mc := 0) (ms := 0) (st := []) [.int (byA (u2 I r0 4 (I r0 3)) r0 (I r0 3))] dX9_advance_187 ms_X9_isDigit lk_X9_78 ⟨Nat.le_of_ble_eq_true rfl, Nat.le_of_ble_eq_true rfl⟩ rfl rfl (Nat.le_of_ble_eq_true rfl) (t_isDigit9 ?_)
          show B g MX9_advance 0 0 190 [(0, .ref r0), (1, .int (byA (u2 I r0 4 (I r0 3)) r0 (I r0 3)))] [.int (isDg (byA (u2 I r0 4 (I r0 3)) r0 (I r0 3)))] S P (u2 I r0 4 (I r0 3)) _
          refine B.if_eq 286 dX9_advance_190 (by decide) (fun q12 => ?_) (fun q12 => ?_)
          · replace h := h.1 q12
            refine B.aload_n 0 dX9_advance_286 rfl rfl ?_
            refine B.dup dX9_advance_287 rfl ?_
            refine B.getI dX9_advance_288 fl_9_54 t1 ?_
            rw [u2_k (I := I) (a := r0) (k := 4) (b := r0) (j := 3) (x := (I r0 3)) (by decide)]
            refine B.iconst 1 dX9_advance_291 (by decide) ?_
            refine B.iadd dX9_advance_292 ?_
            refine B.putI dX9_advance_293 fw_9_54 t1 ?_
            refine B.aload_n 0 dX9_advance_296 rfl rfl ?_
            refine B.iload_n 1 dX9_advance_297 rfl rfl ?_
            refine B.putI dX9_advance_298 fw_9_84 t1 ?_
            refine B.aload_n 0 dX9_advance_301 rfl rfl ?_
            refine B.iload_n 1 dX9_advance_302 rfl rfl ?_
            refine B.callS (M' := MX9_isSignByte) (rc := 0) (rs := 0) (mc := 0) (ms := 0) (st := [.ref r0]) [.int (byA (u2 I r0 4 (I r0 3)) r0 (I r0 3))] dX9_advance_303 ms_X9_isSignByte lk_X9_87 ⟨Nat.le_of_ble_eq_true rfl, Nat.le_of_ble_eq_true rfl⟩ rfl rfl (Nat.le_of_ble_eq_true rfl) (t_isSign ?_)
            show B g MX9_advance 0 0 306 [(0, .ref r0), (1, .int (byA (u2 I r0 4 (I r0 3)) r0 (I r0 3)))] [.int (isSg (byA (u2 I r0 4 (I r0 3)) r0 (I r0 3))), .ref r0] S P (u2 (u2 (u2 I r0 4 (I r0 3)) r0 3 ((I r0 3) + 1)) r0 7 (byA (u2 I r0 4 (I r0 3)) r0 (I r0 3))) _
            refine B.if_eq 313 dX9_advance_306 (by decide) (fun q13 => ?_) (fun q13 => ?_)
            · replace h := h.1 q13
              refine B.iconst 4 dX9_advance_313 (by decide) ?_
              refine B.putI dX9_advance_314 fw_9_64 t1 ?_
              refine B.return_ dX9_advance_317 rfl ?_
              exact h
            · replace h := h.2 q13
              refine B.iconst 2 dX9_advance_309 (by decide) ?_
              refine B.goto_ 314 dX9_advance_310 (by decide) ?_
              refine B.putI dX9_advance_314 fw_9_64 t1 ?_
              refine B.return_ dX9_advance_317 rfl ?_
              exact h
          · replace h := h.2 q12
            refine B.aload_n 0 dX9_advance_193 rfl rfl ?_
            refine B.iconst 0 dX9_advance_194 (by decide) ?_
            refine B.putI dX9_advance_195 fw_9_81 t1 ?_
            exact h
        · replace h := h.2 q11
          refine B.lconst 0 dX9_advance_75 (by decide) ?_
          refine B.lstore_n (lv' := [(0, .ref r0), (1, .int (byA (u2 I r0 4 (I r0 3)) r0 (I r0 3))), (2, .long 0)]) dX9_advance_76 rfl (by decide) rfl ?_
          exact h
      · replace h := h.2 q10
        refine B.aload_n 0 dX9_advance_60 rfl rfl ?_
        refine B.iconst 0 dX9_advance_61 (by decide) ?_
        refine B.putI dX9_advance_62 fw_9_64 t1 ?_
        refine B.goto_ 317 dX9_advance_65 (by decide) ?_
        refine B.return_ dX9_advance_317 rfl ?_
        exact h
    · replace h := h.2 q7
      refine B.aload_n 0 dX9_advance_26 rfl rfl ?_
      refine B.dup dX9_advance_27 rfl ?_
      refine B.getI dX9_advance_28 fl_9_54 t1 ?_
      refine B.iconst 1 dX9_advance_31 (by decide) ?_
      refine B.iadd dX9_advance_32 ?_
      refine B.putI dX9_advance_33 fw_9_54 t1 ?_
      refine B.goto_ 0 dX9_advance_36 (by decide) ?_
      exact h
theorem s_X9_advance_77 {g : GT} {S : ST} {P : PT} {I : IT} {Q : QT} {r0 : Nat} {x1 : Int32} {l2 : Int64} (h : sT S r0 = 10 ∧ LM S P r0 ∧ (0 ≤ (I r0 3) ∧ I r0 2 ≤ 300) ∧ (((isLt (byA I r0 (I r0 3))) = 0 → ((((I r0 3) - (I r0 4)) ≤ 7 → T g MX9_wordOf 0 0 [.long l2] S P I (fun r S' P' I' => B g MX9_advance 0 0 162 [(0, .ref r0), (1, .int x1), (2, .long l2)] (r.toList ++ [.ref r0]) S' P' I' Q)) ∧ (¬ ((I r0 3) - (I r0 4)) ≤ 7 → B g MX9_advance 0 0 162 [(0, .ref r0), (1, .int x1), (2, .long l2)] [.int 99, .ref r0] S P I Q))) ∧ (¬ (isLt (byA I r0 (I r0 3))) = 0 → ((8 ≤ ((I r0 3) - (I r0 4)) → B g MX9_advance 0 0 77 [(0, .ref r0), (1, .int x1), (2, .long l2)] [] S P (u2 I r0 3 ((I r0 3) + 1)) Q) ∧ (¬ 8 ≤ ((I r0 3) - (I r0 4)) → LM S P r0 ∧ (0 ≤ (I r0 3) ∧ I r0 2 ≤ 300) ∧ B g MX9_advance 0 0 77 [(0, .ref r0), (1, .int x1), (2, .long (((32 * l2) + ((byA I r0 (I r0 3))).toInt64) - 96))] [] S P (u2 I r0 3 ((I r0 3) + 1)) Q))))) : B g MX9_advance 0 0 77 [(0, .ref r0), (1, .int x1), (2, .long l2)] [] S P I Q := by
  refine B.aload_n 0 dX9_advance_77 rfl rfl ?_
  refine B.aload_n 0 dX9_advance_78 rfl rfl ?_
  obtain ⟨t1, h⟩ := h
  refine B.getI dX9_advance_79 fl_9_54 t1 ?_
  obtain ⟨t2, h⟩ := h
  obtain ⟨t3, h⟩ := h
  refine B.callV (M' := MX9_byteAt) (rc := 0) (rs := 0) (mc := 0) (ms := 0) (st := []) [.int (I r0 3)] dX9_advance_82 mv_X9_byteAt lk_X9_57 ⟨Nat.le_of_ble_eq_true rfl, Nat.le_of_ble_eq_true rfl⟩ rfl rfl (Nat.le_of_ble_eq_true rfl) t1 (t_byteAt t2 t3 ?_)
  show B g MX9_advance 0 0 85 [(0, .ref r0), (1, .int x1), (2, .long l2)] [.int (byA I r0 (I r0 3))] S P I _
  refine B.callS (M' := MX9_isLetter) (rc := 0) (rs := 0) (mc := 0) (ms := 0) (st := []) [.int (byA I r0 (I r0 3))] dX9_advance_85 ms_X9_isLetter lk_X9_67 ⟨Nat.le_of_ble_eq_true rfl, Nat.le_of_ble_eq_true rfl⟩ rfl rfl (Nat.le_of_ble_eq_true rfl) (t_isLetter9 ?_)
  show B g MX9_advance 0 0 88 [(0, .ref r0), (1, .int x1), (2, .long l2)] [.int (isLt (byA I r0 (I r0 3)))] S P I _
  refine B.if_eq 138 dX9_advance_88 (by decide) (fun q4 => ?_) (fun q4 => ?_)
  · replace h := h.1 q4
    refine B.aload_n 0 dX9_advance_138 rfl rfl ?_
    refine B.aload_n 0 dX9_advance_139 rfl rfl ?_
    refine B.getI dX9_advance_140 fl_9_54 t1 ?_
    refine B.aload_n 0 dX9_advance_143 rfl rfl ?_
    refine B.getI dX9_advance_144 fl_9_61 t1 ?_
    refine B.isub dX9_advance_147 ?_
    refine B.bipush 7 dX9_advance_148 (by decide) ?_
    refine B.icmp_le 158 dX9_advance_150 (by decide) (fun q5 => ?_) (fun q5 => ?_)
    · replace h := h.1 q5
      refine B.lload_n 2 dX9_advance_158 rfl rfl ?_
      refine B.callS (M' := MX9_wordOf) (rc := 0) (rs := 0) (mc := 0) (ms := 0) (st := [.ref r0]) [.long l2] dX9_advance_159 ms_X9_wordOf lk_X9_71 ⟨Nat.le_of_ble_eq_true rfl, Nat.le_of_ble_eq_true rfl⟩ rfl rfl (Nat.le_of_ble_eq_true rfl) ?_
      exact h
    · replace h := h.2 q5
      refine B.bipush 99 dX9_advance_153 (by decide) ?_
      refine B.goto_ 162 dX9_advance_155 (by decide) ?_
      exact h
  · replace h := h.2 q4
    refine B.aload_n 0 dX9_advance_91 rfl rfl ?_
    refine B.getI dX9_advance_92 fl_9_54 t1 ?_
    refine B.aload_n 0 dX9_advance_95 rfl rfl ?_
    refine B.getI dX9_advance_96 fl_9_61 t1 ?_
    refine B.isub dX9_advance_99 ?_
    refine B.bipush 8 dX9_advance_100 (by decide) ?_
    refine B.icmp_ge 125 dX9_advance_102 (by decide) (fun q6 => ?_) (fun q6 => ?_)
    · replace h := h.1 q6
      refine B.aload_n 0 dX9_advance_125 rfl rfl ?_
      refine B.dup dX9_advance_126 rfl ?_
      refine B.getI dX9_advance_127 fl_9_54 t1 ?_
      refine B.iconst 1 dX9_advance_130 (by decide) ?_
      refine B.iadd dX9_advance_131 ?_
      refine B.putI dX9_advance_132 fw_9_54 t1 ?_
      refine B.goto_ 77 dX9_advance_135 (by decide) ?_
      exact h
    · replace h := h.2 q6
      refine B.ldc2 32 dX9_advance_105 kl_X9_34 ?_
      refine B.lload_n 2 dX9_advance_108 rfl rfl ?_
      refine B.lmul dX9_advance_109 ?_
      refine B.aload_n 0 dX9_advance_110 rfl rfl ?_
      refine B.aload_n 0 dX9_advance_111 rfl rfl ?_
      refine B.getI dX9_advance_112 fl_9_54 t1 ?_
      obtain ⟨t7, h⟩ := h
      obtain ⟨t8, h⟩ := h
      refine B.callV (M' := MX9_byteAt) (rc := 0) (rs := 0) (mc := 0) (ms := 0) (st := [.long (32 * l2)]) [.int (I r0 3)] dX9_advance_115 mv_X9_byteAt lk_X9_57 ⟨Nat.le_of_ble_eq_true rfl, Nat.le_of_ble_eq_true rfl⟩ rfl rfl (Nat.le_of_ble_eq_true rfl) t1 (t_byteAt t7 t8 ?_)
      show B g MX9_advance 0 0 118 [(0, .ref r0), (1, .int x1), (2, .long l2)] [.int (byA I r0 (I r0 3)), .long (32 * l2)] S P I _
      refine B.i2l dX9_advance_118 ?_
      refine B.ladd dX9_advance_119 ?_
      refine B.ldc2 96 dX9_advance_120 kl_X9_36 ?_
      refine B.lsub dX9_advance_123 ?_
      refine B.lstore_n (lv' := [(0, .ref r0), (1, .int x1), (2, .long (((32 * l2) + ((byA I r0 (I r0 3))).toInt64) - 96))]) dX9_advance_124 rfl (by decide) rfl ?_
      refine B.aload_n 0 dX9_advance_125 rfl rfl ?_
      refine B.dup dX9_advance_126 rfl ?_
      refine B.getI dX9_advance_127 fl_9_54 t1 ?_
      refine B.iconst 1 dX9_advance_130 (by decide) ?_
      refine B.iadd dX9_advance_131 ?_
      refine B.putI dX9_advance_132 fw_9_54 t1 ?_
      refine B.goto_ 77 dX9_advance_135 (by decide) ?_
      exact h
theorem s_X9_advance_162 {g : GT} {S : ST} {P : PT} {I : IT} {Q : QT} {r0 : Nat} {x1 : Int32} {l2 : Int64} {w_s0 : Int32} {a_s1 : Nat} (h : sT S a_s1 = 10 ∧ sT S r0 = 10 ∧ ((¬ ((u2 I a_s1 8 w_s0) r0 8) = 99 → Q none S P (u2 (u2 I a_s1 8 w_s0) r0 5 3)) ∧ (((u2 I a_s1 8 w_s0) r0 8) = 99 → Q none S P (u2 (u2 I a_s1 8 w_s0) r0 5 4)))) : B g MX9_advance 0 0 162 [(0, .ref r0), (1, .int x1), (2, .long l2)] [.int w_s0, .ref a_s1] S P I Q := by
  obtain ⟨t1, h⟩ := h
  refine B.putI dX9_advance_162 fw_9_75 t1 ?_
  refine B.aload_n 0 dX9_advance_165 rfl rfl ?_
  refine B.aload_n 0 dX9_advance_166 rfl rfl ?_
  obtain ⟨t2, h⟩ := h
  refine B.getI dX9_advance_167 fl_9_75 t2 ?_
  refine B.bipush 99 dX9_advance_170 (by decide) ?_
  refine B.icmp_ne 179 dX9_advance_172 (by decide) (fun q3 => ?_) (fun q3 => ?_)
  · replace h := h.1 q3
    refine B.iconst 3 dX9_advance_179 (by decide) ?_
    refine B.putI dX9_advance_180 fw_9_64 t2 ?_
    refine B.goto_ 317 dX9_advance_183 (by decide) ?_
    refine B.return_ dX9_advance_317 rfl ?_
    exact h
  · replace h := h.2 q3
    refine B.iconst 4 dX9_advance_175 (by decide) ?_
    refine B.goto_ 180 dX9_advance_176 (by decide) ?_
    refine B.putI dX9_advance_180 fw_9_64 t2 ?_
    refine B.goto_ 317 dX9_advance_183 (by decide) ?_
    refine B.return_ dX9_advance_317 rfl ?_
    exact h
theorem s_X9_advance_198 {g : GT} {S : ST} {P : PT} {I : IT} {Q : QT} {r0 : Nat} {x1 : Int32} (h : sT S r0 = 10 ∧ LM S P r0 ∧ (0 ≤ (I r0 3) ∧ I r0 2 ≤ 300) ∧ (((isDg (byA I r0 (I r0 3))) = 0 → ((((I r0 3) - (I r0 4)) ≤ 3 → Q none S P (u2 I r0 5 1)) ∧ (¬ ((I r0 3) - (I r0 4)) ≤ 3 → Q none S P (u2 I r0 5 4)))) ∧ (¬ (isDg (byA I r0 (I r0 3))) = 0 → ((3 ≤ ((I r0 3) - (I r0 4)) → B g MX9_advance 0 0 198 [(0, .ref r0), (1, .int x1)] [] S P (u2 I r0 3 ((I r0 3) + 1)) Q) ∧ (¬ 3 ≤ ((I r0 3) - (I r0 4)) → LM S P r0 ∧ (0 ≤ (I r0 3) ∧ I r0 2 ≤ 300) ∧ B g MX9_advance 0 0 198 [(0, .ref r0), (1, .int x1)] [] S P (u2 (u2 I r0 6 (((10 * (I r0 6)) + (byA I r0 (I r0 3))) - 48)) r0 3 ((I r0 3) + 1)) Q))))) : B g MX9_advance 0 0 198 [(0, .ref r0), (1, .int x1)] [] S P I Q := by
  refine B.aload_n 0 dX9_advance_198 rfl rfl ?_
  refine B.aload_n 0 dX9_advance_199 rfl rfl ?_
  obtain ⟨t1, h⟩ := h
  refine B.getI dX9_advance_200 fl_9_54 t1 ?_
  obtain ⟨t2, h⟩ := h
  obtain ⟨t3, h⟩ := h
  refine B.callV (M' := MX9_byteAt) (rc := 0) (rs := 0) (mc := 0) (ms := 0) (st := []) [.int (I r0 3)] dX9_advance_203 mv_X9_byteAt lk_X9_57 ⟨Nat.le_of_ble_eq_true rfl, Nat.le_of_ble_eq_true rfl⟩ rfl rfl (Nat.le_of_ble_eq_true rfl) t1 (t_byteAt t2 t3 ?_)
  show B g MX9_advance 0 0 206 [(0, .ref r0), (1, .int x1)] [.int (byA I r0 (I r0 3))] S P I _
  refine B.callS (M' := MX9_isDigit) (rc := 0) (rs := 0) (mc := 0) (ms := 0) (st := []) [.int (byA I r0 (I r0 3))] dX9_advance_206 ms_X9_isDigit lk_X9_78 ⟨Nat.le_of_ble_eq_true rfl, Nat.le_of_ble_eq_true rfl⟩ rfl rfl (Nat.le_of_ble_eq_true rfl) (t_isDigit9 ?_)
  show B g MX9_advance 0 0 209 [(0, .ref r0), (1, .int x1)] [.int (isDg (byA I r0 (I r0 3)))] S P I _
  refine B.if_eq 261 dX9_advance_209 (by decide) (fun q4 => ?_) (fun q4 => ?_)
  · replace h := h.1 q4
    refine B.aload_n 0 dX9_advance_261 rfl rfl ?_
    refine B.aload_n 0 dX9_advance_262 rfl rfl ?_
    refine B.getI dX9_advance_263 fl_9_54 t1 ?_
    refine B.aload_n 0 dX9_advance_266 rfl rfl ?_
    refine B.getI dX9_advance_267 fl_9_61 t1 ?_
    refine B.isub dX9_advance_270 ?_
    refine B.iconst 3 dX9_advance_271 (by decide) ?_
    refine B.icmp_le 279 dX9_advance_272 (by decide) (fun q5 => ?_) (fun q5 => ?_)
    · replace h := h.1 q5
      refine B.iconst 1 dX9_advance_279 (by decide) ?_
      refine B.putI dX9_advance_280 fw_9_64 t1 ?_
      refine B.goto_ 317 dX9_advance_283 (by decide) ?_
      refine B.return_ dX9_advance_317 rfl ?_
      exact h
    · replace h := h.2 q5
      refine B.iconst 4 dX9_advance_275 (by decide) ?_
      refine B.goto_ 280 dX9_advance_276 (by decide) ?_
      refine B.putI dX9_advance_280 fw_9_64 t1 ?_
      refine B.goto_ 317 dX9_advance_283 (by decide) ?_
      refine B.return_ dX9_advance_317 rfl ?_
      exact h
  · replace h := h.2 q4
    refine B.aload_n 0 dX9_advance_212 rfl rfl ?_
    refine B.getI dX9_advance_213 fl_9_54 t1 ?_
    refine B.aload_n 0 dX9_advance_216 rfl rfl ?_
    refine B.getI dX9_advance_217 fl_9_61 t1 ?_
    refine B.isub dX9_advance_220 ?_
    refine B.iconst 3 dX9_advance_221 (by decide) ?_
    refine B.icmp_ge 248 dX9_advance_222 (by decide) (fun q6 => ?_) (fun q6 => ?_)
    · replace h := h.1 q6
      refine B.aload_n 0 dX9_advance_248 rfl rfl ?_
      refine B.dup dX9_advance_249 rfl ?_
      refine B.getI dX9_advance_250 fl_9_54 t1 ?_
      refine B.iconst 1 dX9_advance_253 (by decide) ?_
      refine B.iadd dX9_advance_254 ?_
      refine B.putI dX9_advance_255 fw_9_54 t1 ?_
      refine B.goto_ 198 dX9_advance_258 (by decide) ?_
      exact h
    · replace h := h.2 q6
      refine B.aload_n 0 dX9_advance_225 rfl rfl ?_
      refine B.bipush 10 dX9_advance_226 (by decide) ?_
      refine B.aload_n 0 dX9_advance_228 rfl rfl ?_
      refine B.getI dX9_advance_229 fl_9_81 t1 ?_
      refine B.imul dX9_advance_232 ?_
      refine B.aload_n 0 dX9_advance_233 rfl rfl ?_
      refine B.aload_n 0 dX9_advance_234 rfl rfl ?_
      refine B.getI dX9_advance_235 fl_9_54 t1 ?_
      obtain ⟨t7, h⟩ := h
      obtain ⟨t8, h⟩ := h
      refine B.callV (M' := MX9_byteAt) (rc := 0) (rs := 0) (mc := 0) (ms := 0) (st := [.int (10 * (I r0 6)), .ref r0]) [.int (I r0 3)] dX9_advance_238 mv_X9_byteAt lk_X9_57 ⟨Nat.le_of_ble_eq_true rfl, Nat.le_of_ble_eq_true rfl⟩ rfl rfl (Nat.le_of_ble_eq_true rfl) t1 (t_byteAt t7 t8 ?_)
      show B g MX9_advance 0 0 241 [(0, .ref r0), (1, .int x1)] [.int (byA I r0 (I r0 3)), .int (10 * (I r0 6)), .ref r0] S P I _
      refine B.iadd dX9_advance_241 ?_
      refine B.bipush 48 dX9_advance_242 (by decide) ?_
      refine B.isub dX9_advance_244 ?_
      refine B.putI dX9_advance_245 fw_9_81 t1 ?_
      refine B.aload_n 0 dX9_advance_248 rfl rfl ?_
      refine B.dup dX9_advance_249 rfl ?_
      refine B.getI dX9_advance_250 fl_9_54 t1 ?_
      rw [u2_k (I := I) (a := r0) (k := 6) (b := r0) (j := 3) (x := (((10 * (I r0 6)) + (byA I r0 (I r0 3))) - 48)) (by decide)]
      refine B.iconst 1 dX9_advance_253 (by decide) ?_
      refine B.iadd dX9_advance_254 ?_
      refine B.putI dX9_advance_255 fw_9_54 t1 ?_
      refine B.goto_ 198 dX9_advance_258 (by decide) ?_
      exact h
theorem s_X9_aTest_0 {g : GT} {S : ST} {P : PT} {I : IT} {Q : QT} {r0 : Nat} (h : sT S r0 = 10 ∧ ∃ b2, P r0 12 = b2 + 1 ∧ T g MX9_takes 0 0 [.ref r0, .int 32] S P I (fun r S' P' I' => B g MX9_aTest 0 0 11 [(0, .ref r0)] (r.toList ++ [.int 0, .ref b2]) S' P' I' Q)) : B g MX9_aTest 0 0 0 [(0, .ref r0)] [] S P I Q := by
  refine B.aload_n 0 dX9_aTest_0 rfl rfl ?_
  obtain ⟨t1, h⟩ := h
  obtain ⟨b2, h⟩ := h
  obtain ⟨t3, h⟩ := h
  refine B.getP dX9_aTest_1 fl_9_20 t1 t3 ?_
  refine B.iconst 0 dX9_aTest_4 (by decide) ?_
  refine B.aload_n 0 dX9_aTest_5 rfl rfl ?_
  refine B.bipush 32 dX9_aTest_6 (by decide) ?_
  refine B.callV (M' := MX9_takes) (rc := 0) (rs := 0) (mc := 0) (ms := 0) (st := [.int 0, .ref b2]) [.int 32] dX9_aTest_8 mv_X9_takes lk_X9_100 ⟨Nat.le_of_ble_eq_true rfl, Nat.le_of_ble_eq_true rfl⟩ rfl rfl (Nat.le_of_ble_eq_true rfl) t1 ?_
  exact h
theorem s_X9_aTest_11 {g : GT} {S : ST} {P : PT} {I : IT} {Q : QT} {r0 : Nat} {w_s0 : Int32} {w_s1 : Int32} {a_s2 : Nat} (h : ((w_s0 = 0 → B g MX9_aTest 0 0 19 [(0, .ref r0)] [.int 0, .int w_s1, .ref a_s2] S P I Q) ∧ (¬ w_s0 = 0 → B g MX9_aTest 0 0 19 [(0, .ref r0)] [.int 1, .int w_s1, .ref a_s2] S P I Q))) : B g MX9_aTest 0 0 11 [(0, .ref r0)] [.int w_s0, .int w_s1, .ref a_s2] S P I Q := by
  refine B.if_eq 18 dX9_aTest_11 (by decide) (fun q1 => ?_) (fun q1 => ?_)
  · replace h := h.1 q1
    refine B.iconst 0 dX9_aTest_18 (by decide) ?_
    exact h
  · replace h := h.2 q1
    refine B.iconst 1 dX9_aTest_14 (by decide) ?_
    refine B.goto_ 19 dX9_aTest_15 (by decide) ?_
    exact h
theorem s_X9_aTest_19 {g : GT} {S : ST} {P : PT} {I : IT} {Q : QT} {r0 : Nat} {w_s0 : Int32} {w_s1 : Int32} {a_s2 : Nat} (h : sT S a_s2 = 40 ∧ ∃ j2, ix w_s1 j2 (sL S a_s2) ∧ sT S r0 = 10 ∧ ∃ b5, P r0 12 = b5 + 1 ∧ sT S b5 = 40 ∧ ∃ j8, ix 1 j8 (sL S b5) ∧ ((¬ ((u2 (u2 I a_s2 j2 w_s0) b5 j8 ((u2 I a_s2 j2 w_s0) r0 8)) r0 9) = 0 → ((((u2 (u2 I a_s2 j2 w_s0) b5 j8 ((u2 I a_s2 j2 w_s0) r0 8)) r0 9) = 0 → ∃ b12, P r0 0 = b12 + 1 ∧ sT S b12 = 40 ∧ ∃ j15, ix 8 j15 (sL S b12) ∧ ∃ j17, ix 9 j17 (sL S b12) ∧ Q none S P (u2 (u2 (u2 (u2 (u2 I a_s2 j2 w_s0) b5 j8 ((u2 I a_s2 j2 w_s0) r0 8)) r0 9 1) b12 j15 1) b12 j17 ((u2 (u2 (u2 (u2 I a_s2 j2 w_s0) b5 j8 ((u2 I a_s2 j2 w_s0) r0 8)) r0 9 1) b12 j15 1) r0 4))) ∧ (¬ ((u2 (u2 I a_s2 j2 w_s0) b5 j8 ((u2 I a_s2 j2 w_s0) r0 8)) r0 9) = 0 → Q none S P (u2 (u2 I a_s2 j2 w_s0) b5 j8 ((u2 I a_s2 j2 w_s0) r0 8))))) ∧ (((u2 (u2 I a_s2 j2 w_s0) b5 j8 ((u2 I a_s2 j2 w_s0) r0 8)) r0 9) = 0 → ((¬ ((u2 (u2 I a_s2 j2 w_s0) b5 j8 ((u2 I a_s2 j2 w_s0) r0 8)) r0 5) = 3 → ((((u2 (u2 I a_s2 j2 w_s0) b5 j8 ((u2 I a_s2 j2 w_s0) r0 8)) r0 9) = 0 → ∃ b21, P r0 0 = b21 + 1 ∧ sT S b21 = 40 ∧ ∃ j24, ix 8 j24 (sL S b21) ∧ ∃ j26, ix 9 j26 (sL S b21) ∧ Q none S P (u2 (u2 (u2 (u2 (u2 I a_s2 j2 w_s0) b5 j8 ((u2 I a_s2 j2 w_s0) r0 8)) r0 9 1) b21 j24 1) b21 j26 ((u2 (u2 (u2 (u2 I a_s2 j2 w_s0) b5 j8 ((u2 I a_s2 j2 w_s0) r0 8)) r0 9 1) b21 j24 1) r0 4))) ∧ (¬ ((u2 (u2 I a_s2 j2 w_s0) b5 j8 ((u2 I a_s2 j2 w_s0) r0 8)) r0 9) = 0 → Q none S P (u2 (u2 I a_s2 j2 w_s0) b5 j8 ((u2 I a_s2 j2 w_s0) r0 8))))) ∧ (((u2 (u2 I a_s2 j2 w_s0) b5 j8 ((u2 I a_s2 j2 w_s0) r0 8)) r0 5) = 3 → ((¬ (wi ((u2 (u2 I a_s2 j2 w_s0) b5 j8 ((u2 I a_s2 j2 w_s0) r0 8)) r0 8) 1 7) = 0 → T g MX9_advance 0 0 [.ref r0] S P (u2 (u2 I a_s2 j2 w_s0) b5 j8 ((u2 I a_s2 j2 w_s0) r0 8)) (fun r S' P' I' => B g MX9_aTest 0 0 67 [(0, .ref r0)] (r.toList ++ []) S' P' I' Q)) ∧ ((wi ((u2 (u2 I a_s2 j2 w_s0) b5 j8 ((u2 I a_s2 j2 w_s0) r0 8)) r0 8) 1 7) = 0 → ((((u2 (u2 I a_s2 j2 w_s0) b5 j8 ((u2 I a_s2 j2 w_s0) r0 8)) r0 9) = 0 → ∃ b30, P r0 0 = b30 + 1 ∧ sT S b30 = 40 ∧ ∃ j33, ix 8 j33 (sL S b30) ∧ ∃ j35, ix 9 j35 (sL S b30) ∧ Q none S P (u2 (u2 (u2 (u2 (u2 I a_s2 j2 w_s0) b5 j8 ((u2 I a_s2 j2 w_s0) r0 8)) r0 9 1) b30 j33 1) b30 j35 ((u2 (u2 (u2 (u2 I a_s2 j2 w_s0) b5 j8 ((u2 I a_s2 j2 w_s0) r0 8)) r0 9 1) b30 j33 1) r0 4))) ∧ (¬ ((u2 (u2 I a_s2 j2 w_s0) b5 j8 ((u2 I a_s2 j2 w_s0) r0 8)) r0 9) = 0 → Q none S P (u2 (u2 I a_s2 j2 w_s0) b5 j8 ((u2 I a_s2 j2 w_s0) r0 8))))))))))) : B g MX9_aTest 0 0 19 [(0, .ref r0)] [.int w_s0, .int w_s1, .ref a_s2] S P I Q := by
  obtain ⟨t1, h⟩ := h
  obtain ⟨j2, h⟩ := h
  obtain ⟨t3, h⟩ := h
  refine B.iastore dX9_aTest_19 t1 t3 ?_
  refine B.aload_n 0 dX9_aTest_20 rfl rfl ?_
  obtain ⟨t4, h⟩ := h
  obtain ⟨b5, h⟩ := h
  obtain ⟨t6, h⟩ := h
  refine B.getP dX9_aTest_21 fl_9_20 t4 t6 ?_
  refine B.iconst 1 dX9_aTest_24 (by decide) ?_
  refine B.aload_n 0 dX9_aTest_25 rfl rfl ?_
  refine B.getI dX9_aTest_26 fl_9_75 t4 ?_
  obtain ⟨t7, h⟩ := h
  obtain ⟨j8, h⟩ := h
  obtain ⟨t9, h⟩ := h
  refine B.iastore dX9_aTest_29 t7 t9 ?_
  refine B.aload_n 0 dX9_aTest_30 rfl rfl ?_
  refine B.getI dX9_aTest_31 fl_9_90 t4 ?_
  refine B.if_ne 58 dX9_aTest_34 (by decide) (fun q10 => ?_) (fun q10 => ?_)
  · replace h := h.1 q10
    refine B.aload_n 0 dX9_aTest_58 rfl rfl ?_
    refine B.callV (M' := MX9_stops) (rc := 0) (rs := 0) (mc := 0) (ms := 0) (st := []) [] dX9_aTest_59 mv_X9_stops lk_X9_97 ⟨Nat.le_of_ble_eq_true rfl, Nat.le_of_ble_eq_true rfl⟩ rfl rfl (Nat.le_of_ble_eq_true rfl) t4 ?_
    refine T_of rfl (Nat.le_of_ble_eq_true rfl) ?_
    show B g MX9_stops 0 0 0 [(0, .ref r0)] [] S P (u2 (u2 I a_s2 j2 w_s0) b5 j8 ((u2 I a_s2 j2 w_s0) r0 8)) _
    refine B.aload_n 0 dX9_stops_0 rfl rfl ?_
    refine B.getI dX9_stops_1 fl_9_90 t4 ?_
    refine B.if_eq 8 dX9_stops_4 (by decide) (fun q11 => ?_) (fun q11 => ?_)
    · replace h := h.1 q11
      refine B.aload_n 0 dX9_stops_8 rfl rfl ?_
      refine B.iconst 1 dX9_stops_9 (by decide) ?_
      refine B.putZ dX9_stops_10 fw_9_90 t4 (by decide) ?_
      refine B.aload_n 0 dX9_stops_13 rfl rfl ?_
      obtain ⟨b12, h⟩ := h
      obtain ⟨t13, h⟩ := h
      refine B.getP dX9_stops_14 fl_9_7 t4 t13 ?_
      refine B.bipush 8 dX9_stops_17 (by decide) ?_
      refine B.iconst 1 dX9_stops_19 (by decide) ?_
      obtain ⟨t14, h⟩ := h
      obtain ⟨j15, h⟩ := h
      obtain ⟨t16, h⟩ := h
      refine B.iastore dX9_stops_20 t14 t16 ?_
      refine B.aload_n 0 dX9_stops_21 rfl rfl ?_
      refine B.getP dX9_stops_22 fl_9_7 t4 t13 ?_
      refine B.bipush 9 dX9_stops_25 (by decide) ?_
      refine B.aload_n 0 dX9_stops_27 rfl rfl ?_
      refine B.getI dX9_stops_28 fl_9_61 t4 ?_
      obtain ⟨j17, h⟩ := h
      obtain ⟨t18, h⟩ := h
      refine B.iastore dX9_stops_31 t14 t18 ?_
      refine B.return_ dX9_stops_32 rfl ?_
      show B g MX9_aTest 0 0 62 [(0, .ref r0)] [] S P (u2 (u2 (u2 (u2 (u2 I a_s2 j2 w_s0) b5 j8 ((u2 I a_s2 j2 w_s0) r0 8)) r0 9 1) b12 j15 1) b12 j17 ((u2 (u2 (u2 (u2 I a_s2 j2 w_s0) b5 j8 ((u2 I a_s2 j2 w_s0) r0 8)) r0 9 1) b12 j15 1) r0 4)) _
      refine B.return_ dX9_aTest_62 rfl ?_
      exact h
    · replace h := h.2 q11
      refine B.return_ dX9_stops_7 rfl ?_
      show B g MX9_aTest 0 0 62 [(0, .ref r0)] [] S P (u2 (u2 I a_s2 j2 w_s0) b5 j8 ((u2 I a_s2 j2 w_s0) r0 8)) _
      refine B.return_ dX9_aTest_62 rfl ?_
      exact h
  · replace h := h.2 q10
    refine B.aload_n 0 dX9_aTest_37 rfl rfl ?_
    refine B.getI dX9_aTest_38 fl_9_64 t4 ?_
    refine B.iconst 3 dX9_aTest_41 (by decide) ?_
    refine B.icmp_ne 58 dX9_aTest_42 (by decide) (fun q19 => ?_) (fun q19 => ?_)
    · replace h := h.1 q19
      refine B.aload_n 0 dX9_aTest_58 rfl rfl ?_
      refine B.callV (M' := MX9_stops) (rc := 0) (rs := 0) (mc := 0) (ms := 0) (st := []) [] dX9_aTest_59 mv_X9_stops lk_X9_97 ⟨Nat.le_of_ble_eq_true rfl, Nat.le_of_ble_eq_true rfl⟩ rfl rfl (Nat.le_of_ble_eq_true rfl) t4 ?_
      refine T_of rfl (Nat.le_of_ble_eq_true rfl) ?_
      show B g MX9_stops 0 0 0 [(0, .ref r0)] [] S P (u2 (u2 I a_s2 j2 w_s0) b5 j8 ((u2 I a_s2 j2 w_s0) r0 8)) _
      refine B.aload_n 0 dX9_stops_0 rfl rfl ?_
      refine B.getI dX9_stops_1 fl_9_90 t4 ?_
      refine B.if_eq 8 dX9_stops_4 (by decide) (fun q20 => ?_) (fun q20 => ?_)
      · replace h := h.1 q20
        refine B.aload_n 0 dX9_stops_8 rfl rfl ?_
        refine B.iconst 1 dX9_stops_9 (by decide) ?_
        refine B.putZ dX9_stops_10 fw_9_90 t4 (by decide) ?_
        refine B.aload_n 0 dX9_stops_13 rfl rfl ?_
        obtain ⟨b21, h⟩ := h
        obtain ⟨t22, h⟩ := h
        refine B.getP dX9_stops_14 fl_9_7 t4 t22 ?_
        refine B.bipush 8 dX9_stops_17 (by decide) ?_
        refine B.iconst 1 dX9_stops_19 (by decide) ?_
        obtain ⟨t23, h⟩ := h
        obtain ⟨j24, h⟩ := h
        obtain ⟨t25, h⟩ := h
        refine B.iastore dX9_stops_20 t23 t25 ?_
        refine B.aload_n 0 dX9_stops_21 rfl rfl ?_
        refine B.getP dX9_stops_22 fl_9_7 t4 t22 ?_
        refine B.bipush 9 dX9_stops_25 (by decide) ?_
        refine B.aload_n 0 dX9_stops_27 rfl rfl ?_
        refine B.getI dX9_stops_28 fl_9_61 t4 ?_
        obtain ⟨j26, h⟩ := h
        obtain ⟨t27, h⟩ := h
        refine B.iastore dX9_stops_31 t23 t27 ?_
        refine B.return_ dX9_stops_32 rfl ?_
        show B g MX9_aTest 0 0 62 [(0, .ref r0)] [] S P (u2 (u2 (u2 (u2 (u2 I a_s2 j2 w_s0) b5 j8 ((u2 I a_s2 j2 w_s0) r0 8)) r0 9 1) b21 j24 1) b21 j26 ((u2 (u2 (u2 (u2 I a_s2 j2 w_s0) b5 j8 ((u2 I a_s2 j2 w_s0) r0 8)) r0 9 1) b21 j24 1) r0 4)) _
        refine B.return_ dX9_aTest_62 rfl ?_
        exact h
      · replace h := h.2 q20
        refine B.return_ dX9_stops_7 rfl ?_
        show B g MX9_aTest 0 0 62 [(0, .ref r0)] [] S P (u2 (u2 I a_s2 j2 w_s0) b5 j8 ((u2 I a_s2 j2 w_s0) r0 8)) _
        refine B.return_ dX9_aTest_62 rfl ?_
        exact h
    · replace h := h.2 q19
      refine B.aload_n 0 dX9_aTest_45 rfl rfl ?_
      refine B.getI dX9_aTest_46 fl_9_75 t4 ?_
      refine B.iconst 1 dX9_aTest_49 (by decide) ?_
      refine B.bipush 7 dX9_aTest_50 (by decide) ?_
      refine B.callS (M' := MX9_isIn) (rc := 0) (rs := 0) (mc := 0) (ms := 0) (st := []) [.int ((u2 (u2 I a_s2 j2 w_s0) b5 j8 ((u2 I a_s2 j2 w_s0) r0 8)) r0 8), .int 1, .int 7] dX9_aTest_52 ms_X9_isIn lk_X9_103 ⟨Nat.le_of_ble_eq_true rfl, Nat.le_of_ble_eq_true rfl⟩ rfl rfl (Nat.le_of_ble_eq_true rfl) (t_isIn ?_)
      show B g MX9_aTest 0 0 55 [(0, .ref r0)] [.int (wi ((u2 (u2 I a_s2 j2 w_s0) b5 j8 ((u2 I a_s2 j2 w_s0) r0 8)) r0 8) 1 7)] S P (u2 (u2 I a_s2 j2 w_s0) b5 j8 ((u2 I a_s2 j2 w_s0) r0 8)) _
      refine B.if_ne 63 dX9_aTest_55 (by decide) (fun q28 => ?_) (fun q28 => ?_)
      · replace h := h.1 q28
        refine B.aload_n 0 dX9_aTest_63 rfl rfl ?_
        refine B.callV (M' := MX9_advance) (rc := 0) (rs := 0) (mc := 0) (ms := 0) (st := []) [] dX9_aTest_64 mv_X9_advance lk_X9_94 ⟨Nat.le_of_ble_eq_true rfl, Nat.le_of_ble_eq_true rfl⟩ rfl rfl (Nat.le_of_ble_eq_true rfl) t4 ?_
        exact h
      · replace h := h.2 q28
        refine B.aload_n 0 dX9_aTest_58 rfl rfl ?_
        refine B.callV (M' := MX9_stops) (rc := 0) (rs := 0) (mc := 0) (ms := 0) (st := []) [] dX9_aTest_59 mv_X9_stops lk_X9_97 ⟨Nat.le_of_ble_eq_true rfl, Nat.le_of_ble_eq_true rfl⟩ rfl rfl (Nat.le_of_ble_eq_true rfl) t4 ?_
        refine T_of rfl (Nat.le_of_ble_eq_true rfl) ?_
        show B g MX9_stops 0 0 0 [(0, .ref r0)] [] S P (u2 (u2 I a_s2 j2 w_s0) b5 j8 ((u2 I a_s2 j2 w_s0) r0 8)) _
        refine B.aload_n 0 dX9_stops_0 rfl rfl ?_
        refine B.getI dX9_stops_1 fl_9_90 t4 ?_
        refine B.if_eq 8 dX9_stops_4 (by decide) (fun q29 => ?_) (fun q29 => ?_)
        · replace h := h.1 q29
          refine B.aload_n 0 dX9_stops_8 rfl rfl ?_
          refine B.iconst 1 dX9_stops_9 (by decide) ?_
          refine B.putZ dX9_stops_10 fw_9_90 t4 (by decide) ?_
          refine B.aload_n 0 dX9_stops_13 rfl rfl ?_
          obtain ⟨b30, h⟩ := h
          obtain ⟨t31, h⟩ := h
          refine B.getP dX9_stops_14 fl_9_7 t4 t31 ?_
          refine B.bipush 8 dX9_stops_17 (by decide) ?_
          refine B.iconst 1 dX9_stops_19 (by decide) ?_
          obtain ⟨t32, h⟩ := h
          obtain ⟨j33, h⟩ := h
          obtain ⟨t34, h⟩ := h
          refine B.iastore dX9_stops_20 t32 t34 ?_
          refine B.aload_n 0 dX9_stops_21 rfl rfl ?_
          refine B.getP dX9_stops_22 fl_9_7 t4 t31 ?_
          refine B.bipush 9 dX9_stops_25 (by decide) ?_
          refine B.aload_n 0 dX9_stops_27 rfl rfl ?_
          refine B.getI dX9_stops_28 fl_9_61 t4 ?_
          obtain ⟨j35, h⟩ := h
          obtain ⟨t36, h⟩ := h
          refine B.iastore dX9_stops_31 t32 t36 ?_
          refine B.return_ dX9_stops_32 rfl ?_
          show B g MX9_aTest 0 0 62 [(0, .ref r0)] [] S P (u2 (u2 (u2 (u2 (u2 I a_s2 j2 w_s0) b5 j8 ((u2 I a_s2 j2 w_s0) r0 8)) r0 9 1) b30 j33 1) b30 j35 ((u2 (u2 (u2 (u2 I a_s2 j2 w_s0) b5 j8 ((u2 I a_s2 j2 w_s0) r0 8)) r0 9 1) b30 j33 1) r0 4)) _
          refine B.return_ dX9_aTest_62 rfl ?_
          exact h
        · replace h := h.2 q29
          refine B.return_ dX9_stops_7 rfl ?_
          show B g MX9_aTest 0 0 62 [(0, .ref r0)] [] S P (u2 (u2 I a_s2 j2 w_s0) b5 j8 ((u2 I a_s2 j2 w_s0) r0 8)) _
          refine B.return_ dX9_aTest_62 rfl ?_
          exact h
theorem s_X9_aTest_67 {g : GT} {S : ST} {P : PT} {I : IT} {Q : QT} {r0 : Nat} (h : sT S r0 = 10 ∧ ∃ b2, P r0 12 = b2 + 1 ∧ sT S b2 = 40 ∧ ∃ j5, ix 2 j5 (sL S b2) ∧ ((¬ ((u2 I b2 j5 (I r0 7)) r0 5) = 2 → ((((u2 I b2 j5 (I r0 7)) r0 9) = 0 → ∃ b9, P r0 0 = b9 + 1 ∧ sT S b9 = 40 ∧ ∃ j12, ix 8 j12 (sL S b9) ∧ ∃ j14, ix 9 j14 (sL S b9) ∧ Q none S P (u2 (u2 (u2 (u2 I b2 j5 (I r0 7)) r0 9 1) b9 j12 1) b9 j14 ((u2 (u2 (u2 I b2 j5 (I r0 7)) r0 9 1) b9 j12 1) r0 4))) ∧ (¬ ((u2 I b2 j5 (I r0 7)) r0 9) = 0 → Q none S P (u2 I b2 j5 (I r0 7))))) ∧ (((u2 I b2 j5 (I r0 7)) r0 5) = 2 → ((((u2 I b2 j5 (I r0 7)) r0 7) = 58 → ((((u2 I b2 j5 (I r0 7)) r0 9) = 0 → ∃ b18, P r0 0 = b18 + 1 ∧ sT S b18 = 40 ∧ ∃ j21, ix 8 j21 (sL S b18) ∧ ∃ j23, ix 9 j23 (sL S b18) ∧ Q none S P (u2 (u2 (u2 (u2 I b2 j5 (I r0 7)) r0 9 1) b18 j21 1) b18 j23 ((u2 (u2 (u2 I b2 j5 (I r0 7)) r0 9 1) b18 j21 1) r0 4))) ∧ (¬ ((u2 I b2 j5 (I r0 7)) r0 9) = 0 → Q none S P (u2 I b2 j5 (I r0 7))))) ∧ (¬ ((u2 I b2 j5 (I r0 7)) r0 7) = 58 → ((¬ ((u2 I b2 j5 (I r0 7)) r0 7) = 59 → T g MX9_advance 0 0 [.ref r0] S P (u2 I b2 j5 (I r0 7)) (fun r S' P' I' => B g MX9_aTest 0 0 112 [(0, .ref r0)] (r.toList ++ []) S' P' I' Q)) ∧ (((u2 I b2 j5 (I r0 7)) r0 7) = 59 → ((((u2 I b2 j5 (I r0 7)) r0 9) = 0 → ∃ b27, P r0 0 = b27 + 1 ∧ sT S b27 = 40 ∧ ∃ j30, ix 8 j30 (sL S b27) ∧ ∃ j32, ix 9 j32 (sL S b27) ∧ Q none S P (u2 (u2 (u2 (u2 I b2 j5 (I r0 7)) r0 9 1) b27 j30 1) b27 j32 ((u2 (u2 (u2 I b2 j5 (I r0 7)) r0 9 1) b27 j30 1) r0 4))) ∧ (¬ ((u2 I b2 j5 (I r0 7)) r0 9) = 0 → Q none S P (u2 I b2 j5 (I r0 7))))))))))) : B g MX9_aTest 0 0 67 [(0, .ref r0)] [] S P I Q := by
  refine B.aload_n 0 dX9_aTest_67 rfl rfl ?_
  obtain ⟨t1, h⟩ := h
  obtain ⟨b2, h⟩ := h
  obtain ⟨t3, h⟩ := h
  refine B.getP dX9_aTest_68 fl_9_20 t1 t3 ?_
  refine B.iconst 2 dX9_aTest_71 (by decide) ?_
  refine B.aload_n 0 dX9_aTest_72 rfl rfl ?_
  refine B.getI dX9_aTest_73 fl_9_84 t1 ?_
  obtain ⟨t4, h⟩ := h
  obtain ⟨j5, h⟩ := h
  obtain ⟨t6, h⟩ := h
  refine B.iastore dX9_aTest_76 t4 t6 ?_
  refine B.aload_n 0 dX9_aTest_77 rfl rfl ?_
  refine B.getI dX9_aTest_78 fl_9_64 t1 ?_
  refine B.iconst 2 dX9_aTest_81 (by decide) ?_
  refine B.icmp_ne 103 dX9_aTest_82 (by decide) (fun q7 => ?_) (fun q7 => ?_)
  · replace h := h.1 q7
    refine B.aload_n 0 dX9_aTest_103 rfl rfl ?_
    refine B.callV (M' := MX9_stops) (rc := 0) (rs := 0) (mc := 0) (ms := 0) (st := []) [] dX9_aTest_104 mv_X9_stops lk_X9_97 ⟨Nat.le_of_ble_eq_true rfl, Nat.le_of_ble_eq_true rfl⟩ rfl rfl (Nat.le_of_ble_eq_true rfl) t1 ?_
    refine T_of rfl (Nat.le_of_ble_eq_true rfl) ?_
    show B g MX9_stops 0 0 0 [(0, .ref r0)] [] S P (u2 I b2 j5 (I r0 7)) _
    refine B.aload_n 0 dX9_stops_0 rfl rfl ?_
    refine B.getI dX9_stops_1 fl_9_90 t1 ?_
    refine B.if_eq 8 dX9_stops_4 (by decide) (fun q8 => ?_) (fun q8 => ?_)
    · replace h := h.1 q8
      refine B.aload_n 0 dX9_stops_8 rfl rfl ?_
      refine B.iconst 1 dX9_stops_9 (by decide) ?_
      refine B.putZ dX9_stops_10 fw_9_90 t1 (by decide) ?_
      refine B.aload_n 0 dX9_stops_13 rfl rfl ?_
      obtain ⟨b9, h⟩ := h
      obtain ⟨t10, h⟩ := h
      refine B.getP dX9_stops_14 fl_9_7 t1 t10 ?_
      refine B.bipush 8 dX9_stops_17 (by decide) ?_
      refine B.iconst 1 dX9_stops_19 (by decide) ?_
      obtain ⟨t11, h⟩ := h
      obtain ⟨j12, h⟩ := h
      obtain ⟨t13, h⟩ := h
      refine B.iastore dX9_stops_20 t11 t13 ?_
      refine B.aload_n 0 dX9_stops_21 rfl rfl ?_
      refine B.getP dX9_stops_22 fl_9_7 t1 t10 ?_
      refine B.bipush 9 dX9_stops_25 (by decide) ?_
      refine B.aload_n 0 dX9_stops_27 rfl rfl ?_
      refine B.getI dX9_stops_28 fl_9_61 t1 ?_
      obtain ⟨j14, h⟩ := h
      obtain ⟨t15, h⟩ := h
      refine B.iastore dX9_stops_31 t11 t15 ?_
      refine B.return_ dX9_stops_32 rfl ?_
      show B g MX9_aTest 0 0 107 [(0, .ref r0)] [] S P (u2 (u2 (u2 (u2 I b2 j5 (I r0 7)) r0 9 1) b9 j12 1) b9 j14 ((u2 (u2 (u2 I b2 j5 (I r0 7)) r0 9 1) b9 j12 1) r0 4)) _
      refine B.return_ dX9_aTest_107 rfl ?_
      exact h
    · replace h := h.2 q8
      refine B.return_ dX9_stops_7 rfl ?_
      show B g MX9_aTest 0 0 107 [(0, .ref r0)] [] S P (u2 I b2 j5 (I r0 7)) _
      refine B.return_ dX9_aTest_107 rfl ?_
      exact h
  · replace h := h.2 q7
    refine B.aload_n 0 dX9_aTest_85 rfl rfl ?_
    refine B.getI dX9_aTest_86 fl_9_84 t1 ?_
    refine B.bipush 58 dX9_aTest_89 (by decide) ?_
    refine B.icmp_eq 103 dX9_aTest_91 (by decide) (fun q16 => ?_) (fun q16 => ?_)
    · replace h := h.1 q16
      refine B.aload_n 0 dX9_aTest_103 rfl rfl ?_
      refine B.callV (M' := MX9_stops) (rc := 0) (rs := 0) (mc := 0) (ms := 0) (st := []) [] dX9_aTest_104 mv_X9_stops lk_X9_97 ⟨Nat.le_of_ble_eq_true rfl, Nat.le_of_ble_eq_true rfl⟩ rfl rfl (Nat.le_of_ble_eq_true rfl) t1 ?_
      refine T_of rfl (Nat.le_of_ble_eq_true rfl) ?_
      show B g MX9_stops 0 0 0 [(0, .ref r0)] [] S P (u2 I b2 j5 (I r0 7)) _
      refine B.aload_n 0 dX9_stops_0 rfl rfl ?_
      refine B.getI dX9_stops_1 fl_9_90 t1 ?_
      refine B.if_eq 8 dX9_stops_4 (by decide) (fun q17 => ?_) (fun q17 => ?_)
      · replace h := h.1 q17
        refine B.aload_n 0 dX9_stops_8 rfl rfl ?_
        refine B.iconst 1 dX9_stops_9 (by decide) ?_
        refine B.putZ dX9_stops_10 fw_9_90 t1 (by decide) ?_
        refine B.aload_n 0 dX9_stops_13 rfl rfl ?_
        obtain ⟨b18, h⟩ := h
        obtain ⟨t19, h⟩ := h
        refine B.getP dX9_stops_14 fl_9_7 t1 t19 ?_
        refine B.bipush 8 dX9_stops_17 (by decide) ?_
        refine B.iconst 1 dX9_stops_19 (by decide) ?_
        obtain ⟨t20, h⟩ := h
        obtain ⟨j21, h⟩ := h
        obtain ⟨t22, h⟩ := h
        refine B.iastore dX9_stops_20 t20 t22 ?_
        refine B.aload_n 0 dX9_stops_21 rfl rfl ?_
        refine B.getP dX9_stops_22 fl_9_7 t1 t19 ?_
        refine B.bipush 9 dX9_stops_25 (by decide) ?_
        refine B.aload_n 0 dX9_stops_27 rfl rfl ?_
        refine B.getI dX9_stops_28 fl_9_61 t1 ?_
        obtain ⟨j23, h⟩ := h
        obtain ⟨t24, h⟩ := h
        refine B.iastore dX9_stops_31 t20 t24 ?_
        refine B.return_ dX9_stops_32 rfl ?_
        show B g MX9_aTest 0 0 107 [(0, .ref r0)] [] S P (u2 (u2 (u2 (u2 I b2 j5 (I r0 7)) r0 9 1) b18 j21 1) b18 j23 ((u2 (u2 (u2 I b2 j5 (I r0 7)) r0 9 1) b18 j21 1) r0 4)) _
        refine B.return_ dX9_aTest_107 rfl ?_
        exact h
      · replace h := h.2 q17
        refine B.return_ dX9_stops_7 rfl ?_
        show B g MX9_aTest 0 0 107 [(0, .ref r0)] [] S P (u2 I b2 j5 (I r0 7)) _
        refine B.return_ dX9_aTest_107 rfl ?_
        exact h
    · replace h := h.2 q16
      refine B.aload_n 0 dX9_aTest_94 rfl rfl ?_
      refine B.getI dX9_aTest_95 fl_9_84 t1 ?_
      refine B.bipush 59 dX9_aTest_98 (by decide) ?_
      refine B.icmp_ne 108 dX9_aTest_100 (by decide) (fun q25 => ?_) (fun q25 => ?_)
      · replace h := h.1 q25
        refine B.aload_n 0 dX9_aTest_108 rfl rfl ?_
        refine B.callV (M' := MX9_advance) (rc := 0) (rs := 0) (mc := 0) (ms := 0) (st := []) [] dX9_aTest_109 mv_X9_advance lk_X9_94 ⟨Nat.le_of_ble_eq_true rfl, Nat.le_of_ble_eq_true rfl⟩ rfl rfl (Nat.le_of_ble_eq_true rfl) t1 ?_
        exact h
      · replace h := h.2 q25
        refine B.aload_n 0 dX9_aTest_103 rfl rfl ?_
        refine B.callV (M' := MX9_stops) (rc := 0) (rs := 0) (mc := 0) (ms := 0) (st := []) [] dX9_aTest_104 mv_X9_stops lk_X9_97 ⟨Nat.le_of_ble_eq_true rfl, Nat.le_of_ble_eq_true rfl⟩ rfl rfl (Nat.le_of_ble_eq_true rfl) t1 ?_
        refine T_of rfl (Nat.le_of_ble_eq_true rfl) ?_
        show B g MX9_stops 0 0 0 [(0, .ref r0)] [] S P (u2 I b2 j5 (I r0 7)) _
        refine B.aload_n 0 dX9_stops_0 rfl rfl ?_
        refine B.getI dX9_stops_1 fl_9_90 t1 ?_
        refine B.if_eq 8 dX9_stops_4 (by decide) (fun q26 => ?_) (fun q26 => ?_)
        · replace h := h.1 q26
          refine B.aload_n 0 dX9_stops_8 rfl rfl ?_
          refine B.iconst 1 dX9_stops_9 (by decide) ?_
          refine B.putZ dX9_stops_10 fw_9_90 t1 (by decide) ?_
          refine B.aload_n 0 dX9_stops_13 rfl rfl ?_
          obtain ⟨b27, h⟩ := h
          obtain ⟨t28, h⟩ := h
          refine B.getP dX9_stops_14 fl_9_7 t1 t28 ?_
          refine B.bipush 8 dX9_stops_17 (by decide) ?_
          refine B.iconst 1 dX9_stops_19 (by decide) ?_
          obtain ⟨t29, h⟩ := h
          obtain ⟨j30, h⟩ := h
          obtain ⟨t31, h⟩ := h
          refine B.iastore dX9_stops_20 t29 t31 ?_
          refine B.aload_n 0 dX9_stops_21 rfl rfl ?_
          refine B.getP dX9_stops_22 fl_9_7 t1 t28 ?_
          refine B.bipush 9 dX9_stops_25 (by decide) ?_
          refine B.aload_n 0 dX9_stops_27 rfl rfl ?_
          refine B.getI dX9_stops_28 fl_9_61 t1 ?_
          obtain ⟨j32, h⟩ := h
          obtain ⟨t33, h⟩ := h
          refine B.iastore dX9_stops_31 t29 t33 ?_
          refine B.return_ dX9_stops_32 rfl ?_
          show B g MX9_aTest 0 0 107 [(0, .ref r0)] [] S P (u2 (u2 (u2 (u2 I b2 j5 (I r0 7)) r0 9 1) b27 j30 1) b27 j32 ((u2 (u2 (u2 I b2 j5 (I r0 7)) r0 9 1) b27 j30 1) r0 4)) _
          refine B.return_ dX9_aTest_107 rfl ?_
          exact h
        · replace h := h.2 q26
          refine B.return_ dX9_stops_7 rfl ?_
          show B g MX9_aTest 0 0 107 [(0, .ref r0)] [] S P (u2 I b2 j5 (I r0 7)) _
          refine B.return_ dX9_aTest_107 rfl ?_
          exact h
theorem s_X9_aTest_112 {g : GT} {S : ST} {P : PT} {I : IT} {Q : QT} {r0 : Nat} (h : sT S r0 = 10 ∧ ∃ b2, P r0 12 = b2 + 1 ∧ T g MX9_numbered 0 0 [.ref r0] S P I (fun r S' P' I' => B g MX9_aTest 0 0 121 [(0, .ref r0)] (r.toList ++ [.int 3, .ref b2]) S' P' I' Q)) : B g MX9_aTest 0 0 112 [(0, .ref r0)] [] S P I Q := by
  refine B.aload_n 0 dX9_aTest_112 rfl rfl ?_
  obtain ⟨t1, h⟩ := h
  obtain ⟨b2, h⟩ := h
  obtain ⟨t3, h⟩ := h
  refine B.getP dX9_aTest_113 fl_9_20 t1 t3 ?_
  refine B.iconst 3 dX9_aTest_116 (by decide) ?_
  refine B.aload_n 0 dX9_aTest_117 rfl rfl ?_
  refine B.callV (M' := MX9_numbered) (rc := 0) (rs := 0) (mc := 0) (ms := 0) (st := [.int 3, .ref b2]) [] dX9_aTest_118 mv_X9_numbered lk_X9_107 ⟨Nat.le_of_ble_eq_true rfl, Nat.le_of_ble_eq_true rfl⟩ rfl rfl (Nat.le_of_ble_eq_true rfl) t1 ?_
  exact h
theorem s_X9_aTest_121 {g : GT} {S : ST} {P : PT} {I : IT} {Q : QT} {r0 : Nat} {w_s0 : Int32} {w_s1 : Int32} {a_s2 : Nat} (h : sT S a_s2 = 40 ∧ ∃ j2, ix w_s1 j2 (sL S a_s2) ∧ Q none S P (u2 I a_s2 j2 w_s0)) : B g MX9_aTest 0 0 121 [(0, .ref r0)] [.int w_s0, .int w_s1, .ref a_s2] S P I Q := by
  obtain ⟨t1, h⟩ := h
  obtain ⟨j2, h⟩ := h
  obtain ⟨t3, h⟩ := h
  refine B.iastore dX9_aTest_121 t1 t3 ?_
  refine B.return_ dX9_aTest_122 rfl ?_
  exact h
theorem s_X9_aLine_0 {g : GT} {S : ST} {P : PT} {I : IT} {Q : QT} {r0 : Nat} (h : sT S r0 = 10 ∧ (((I r0 10) < 12 → T g MX9_takes 0 0 [.ref r0, .int 30] S P I (fun r S' P' I' => B g MX9_aLine 0 0 26 [(0, .ref r0), (1, .int 0)] (r.toList ++ []) S' P' I' Q)) ∧ (¬ (I r0 10) < 12 → ((¬ (I r0 9) = 0 → T g MX9_takes 0 0 [.ref r0, .int 30] S P I (fun r S' P' I' => B g MX9_aLine 0 0 26 [(0, .ref r0), (1, .int 0)] (r.toList ++ []) S' P' I' Q)) ∧ ((I r0 9) = 0 → ∃ b4, P r0 0 = b4 + 1 ∧ sT S b4 = 40 ∧ ∃ j7, ix 8 j7 (sL S b4) ∧ (((I b4 j7) = 0 → ∃ j10, ix 9 j10 (sL S b4) ∧ T g MX9_takes 0 0 [.ref r0, .int 30] S P (u2 (u2 I b4 j7 3) b4 j10 (I r0 4)) (fun r S' P' I' => B g MX9_aLine 0 0 26 [(0, .ref r0), (1, .int 0)] (r.toList ++ []) S' P' I' Q)) ∧ (¬ (I b4 j7) = 0 → T g MX9_takes 0 0 [.ref r0, .int 30] S P I (fun r S' P' I' => B g MX9_aLine 0 0 26 [(0, .ref r0), (1, .int 0)] (r.toList ++ []) S' P' I' Q)))))))) : B g MX9_aLine 0 0 0 [(0, .ref r0)] [] S P I Q := by
  refine B.aload_n 0 dX9_aLine_0 rfl rfl ?_
  obtain ⟨t1, h⟩ := h
  refine B.getI dX9_aLine_1 fl_9_111 t1 ?_
  refine B.bipush 12 dX9_aLine_4 (by decide) ?_
  refine B.icmp_lt 18 dX9_aLine_6 (by decide) (fun q2 => ?_) (fun q2 => ?_)
  · replace h := h.1 q2
    refine B.iconst 0 dX9_aLine_18 (by decide) ?_
    refine B.istore_n (lv' := [(0, .ref r0), (1, .int 0)]) dX9_aLine_19 rfl (by decide) rfl ?_
    refine B.aload_n 0 dX9_aLine_20 rfl rfl ?_
    refine B.bipush 30 dX9_aLine_21 (by decide) ?_
    refine B.callV (M' := MX9_takes) (rc := 0) (rs := 0) (mc := 0) (ms := 0) (st := []) [.int 30] dX9_aLine_23 mv_X9_takes lk_X9_100 ⟨Nat.le_of_ble_eq_true rfl, Nat.le_of_ble_eq_true rfl⟩ rfl rfl (Nat.le_of_ble_eq_true rfl) t1 ?_
    exact h
  · replace h := h.2 q2
    refine B.aload_n 0 dX9_aLine_9 rfl rfl ?_
    refine B.iconst 3 dX9_aLine_10 (by decide) ?_
    refine B.aload_n 0 dX9_aLine_11 rfl rfl ?_
    refine B.getI dX9_aLine_12 fl_9_61 t1 ?_
    refine B.callV (M' := MX9_tells) (rc := 0) (rs := 0) (mc := 0) (ms := 0) (st := []) [.int 3, .int (I r0 4)] dX9_aLine_15 mv_X9_tells lk_X9_114 ⟨Nat.le_of_ble_eq_true rfl, Nat.le_of_ble_eq_true rfl⟩ rfl rfl (Nat.le_of_ble_eq_true rfl) t1 ?_
    refine T_of rfl (Nat.le_of_ble_eq_true rfl) ?_
    show B g MX9_tells 0 0 0 [(0, .ref r0), (1, .int 3), (2, .int (I r0 4))] [] S P I _
    refine B.aload_n 0 dX9_tells_0 rfl rfl ?_
    refine B.getI dX9_tells_1 fl_9_90 t1 ?_
    refine B.if_ne 17 dX9_tells_4 (by decide) (fun q3 => ?_) (fun q3 => ?_)
    · replace h := h.1 q3
      refine B.return_ dX9_tells_17 rfl ?_
      show B g MX9_aLine 0 0 18 [(0, .ref r0)] [] S P I _
      refine B.iconst 0 dX9_aLine_18 (by decide) ?_
      refine B.istore_n (lv' := [(0, .ref r0), (1, .int 0)]) dX9_aLine_19 rfl (by decide) rfl ?_
      refine B.aload_n 0 dX9_aLine_20 rfl rfl ?_
      refine B.bipush 30 dX9_aLine_21 (by decide) ?_
      refine B.callV (M' := MX9_takes) (rc := 0) (rs := 0) (mc := 0) (ms := 0) (st := []) [.int 30] dX9_aLine_23 mv_X9_takes lk_X9_100 ⟨Nat.le_of_ble_eq_true rfl, Nat.le_of_ble_eq_true rfl⟩ rfl rfl (Nat.le_of_ble_eq_true rfl) t1 ?_
      exact h
    · replace h := h.2 q3
      refine B.aload_n 0 dX9_tells_7 rfl rfl ?_
      obtain ⟨b4, h⟩ := h
      obtain ⟨t5, h⟩ := h
      refine B.getP dX9_tells_8 fl_9_7 t1 t5 ?_
      refine B.bipush 8 dX9_tells_11 (by decide) ?_
      obtain ⟨t6, h⟩ := h
      obtain ⟨j7, h⟩ := h
      obtain ⟨t8, h⟩ := h
      refine B.iaload dX9_tells_13 t6 t8 ?_
      refine B.if_eq 18 dX9_tells_14 (by decide) (fun q9 => ?_) (fun q9 => ?_)
      · replace h := h.1 q9
        refine B.aload_n 0 dX9_tells_18 rfl rfl ?_
        refine B.getP dX9_tells_19 fl_9_7 t1 t5 ?_
        refine B.bipush 8 dX9_tells_22 (by decide) ?_
        refine B.iload_n 1 dX9_tells_24 rfl rfl ?_
        refine B.iastore dX9_tells_25 t6 t8 ?_
        refine B.aload_n 0 dX9_tells_26 rfl rfl ?_
        refine B.getP dX9_tells_27 fl_9_7 t1 t5 ?_
        refine B.bipush 9 dX9_tells_30 (by decide) ?_
        refine B.iload_n 2 dX9_tells_32 rfl rfl ?_
        obtain ⟨j10, h⟩ := h
        obtain ⟨t11, h⟩ := h
        refine B.iastore dX9_tells_33 t6 t11 ?_
        refine B.return_ dX9_tells_34 rfl ?_
        show B g MX9_aLine 0 0 18 [(0, .ref r0)] [] S P (u2 (u2 I b4 j7 3) b4 j10 (I r0 4)) _
        refine B.iconst 0 dX9_aLine_18 (by decide) ?_
        refine B.istore_n (lv' := [(0, .ref r0), (1, .int 0)]) dX9_aLine_19 rfl (by decide) rfl ?_
        refine B.aload_n 0 dX9_aLine_20 rfl rfl ?_
        refine B.bipush 30 dX9_aLine_21 (by decide) ?_
        refine B.callV (M' := MX9_takes) (rc := 0) (rs := 0) (mc := 0) (ms := 0) (st := []) [.int 30] dX9_aLine_23 mv_X9_takes lk_X9_100 ⟨Nat.le_of_ble_eq_true rfl, Nat.le_of_ble_eq_true rfl⟩ rfl rfl (Nat.le_of_ble_eq_true rfl) t1 ?_
        exact h
      · replace h := h.2 q9
        refine B.return_ dX9_tells_17 rfl ?_
        show B g MX9_aLine 0 0 18 [(0, .ref r0)] [] S P I _
        refine B.iconst 0 dX9_aLine_18 (by decide) ?_
        refine B.istore_n (lv' := [(0, .ref r0), (1, .int 0)]) dX9_aLine_19 rfl (by decide) rfl ?_
        refine B.aload_n 0 dX9_aLine_20 rfl rfl ?_
        refine B.bipush 30 dX9_aLine_21 (by decide) ?_
        refine B.callV (M' := MX9_takes) (rc := 0) (rs := 0) (mc := 0) (ms := 0) (st := []) [.int 30] dX9_aLine_23 mv_X9_takes lk_X9_100 ⟨Nat.le_of_ble_eq_true rfl, Nat.le_of_ble_eq_true rfl⟩ rfl rfl (Nat.le_of_ble_eq_true rfl) t1 ?_
        exact h
theorem s_X9_aLine_26 {g : GT} {S : ST} {P : PT} {I : IT} {Q : QT} {r0 : Nat} {x1 : Int32} {w_s0 : Int32} (h : ((w_s0 = 0 → B g MX9_aLine 0 0 107 [(0, .ref r0), (1, .int x1)] [] S P I Q) ∧ (¬ w_s0 = 0 → B g MX9_aLine 0 0 31 [(0, .ref r0), (1, .int x1), (2, .int 1)] [] S P I Q))) : B g MX9_aLine 0 0 26 [(0, .ref r0), (1, .int x1)] [.int w_s0] S P I Q := by
  refine B.if_eq 107 dX9_aLine_26 (by decide) (fun q1 => ?_) (fun q1 => ?_)
  · replace h := h.1 q1
    exact h
  · replace h := h.2 q1
    refine B.iconst 1 dX9_aLine_29 (by decide) ?_
    refine B.istore_n (lv' := [(0, .ref r0), (1, .int x1), (2, .int 1)]) dX9_aLine_30 rfl (by decide) rfl ?_
    exact h
theorem s_X9_aLine_31 {g : GT} {S : ST} {P : PT} {I : IT} {Q : QT} {r0 : Nat} {x1 : Int32} {x2 : Int32} (h : ((x2 = 0 → sT S r0 = 10 ∧ T g MX9_must 0 0 [.ref r0, .int 58] S P I (fun r S' P' I' => B g MX9_aLine 0 0 107 [(0, .ref r0), (1, .int x1)] (r.toList ++ []) S' P' I' Q)) ∧ (¬ x2 = 0 → ((x1 ≤ 3 → sT S r0 = 10 ∧ T g MX9_aTest 0 0 [.ref r0] S P I (fun r S' P' I' => B g MX9_aLine 0 0 53 [(0, .ref r0), (1, .int x1), (2, .int x2)] (r.toList ++ []) S' P' I' Q)) ∧ (¬ x1 ≤ 3 → sT S r0 = 10 ∧ ((¬ (I r0 9) = 0 → T g MX9_aTest 0 0 [.ref r0] S P I (fun r S' P' I' => B g MX9_aLine 0 0 53 [(0, .ref r0), (1, .int x1), (2, .int x2)] (r.toList ++ []) S' P' I' Q)) ∧ ((I r0 9) = 0 → ∃ b7, P r0 0 = b7 + 1 ∧ sT S b7 = 40 ∧ ∃ j10, ix 8 j10 (sL S b7) ∧ (((I b7 j10) = 0 → ∃ j13, ix 9 j13 (sL S b7) ∧ T g MX9_aTest 0 0 [.ref r0] S P (u2 (u2 I b7 j10 3) b7 j13 (I r0 4)) (fun r S' P' I' => B g MX9_aLine 0 0 53 [(0, .ref r0), (1, .int x1), (2, .int x2)] (r.toList ++ []) S' P' I' Q)) ∧ (¬ (I b7 j10) = 0 → T g MX9_aTest 0 0 [.ref r0] S P I (fun r S' P' I' => B g MX9_aLine 0 0 53 [(0, .ref r0), (1, .int x1), (2, .int x2)] (r.toList ++ []) S' P' I' Q)))))))))) : B g MX9_aLine 0 0 31 [(0, .ref r0), (1, .int x1), (2, .int x2)] [] S P I Q := by
  refine B.iload_n 2 dX9_aLine_31 rfl rfl ?_
  refine B.if_eq 101 dX9_aLine_32 (by decide) (fun q1 => ?_) (fun q1 => ?_)
  · replace h := h.1 q1
    refine B.aload_n 0 dX9_aLine_101 rfl rfl ?_
    refine B.bipush 58 dX9_aLine_102 (by decide) ?_
    obtain ⟨t2, h⟩ := h
    refine B.lvs [(0, .ref r0), (1, .int x1)] [0, 1] rfl ?_
    refine B.callV (M' := MX9_must) (rc := 0) (rs := 0) (mc := 0) (ms := 0) (st := []) [.int 58] dX9_aLine_104 mv_X9_must lk_X9_124 ⟨Nat.le_of_ble_eq_true rfl, Nat.le_of_ble_eq_true rfl⟩ rfl rfl (Nat.le_of_ble_eq_true rfl) t2 ?_
    exact h
  · replace h := h.2 q1
    refine B.iload_n 1 dX9_aLine_35 rfl rfl ?_
    refine B.iconst 3 dX9_aLine_36 (by decide) ?_
    refine B.icmp_le 49 dX9_aLine_37 (by decide) (fun q3 => ?_) (fun q3 => ?_)
    · replace h := h.1 q3
      refine B.aload_n 0 dX9_aLine_49 rfl rfl ?_
      obtain ⟨t4, h⟩ := h
      refine B.callV (M' := MX9_aTest) (rc := 0) (rs := 0) (mc := 0) (ms := 0) (st := []) [] dX9_aLine_50 mv_X9_aTest lk_X9_118 ⟨Nat.le_of_ble_eq_true rfl, Nat.le_of_ble_eq_true rfl⟩ rfl rfl (Nat.le_of_ble_eq_true rfl) t4 ?_
      exact h
    · replace h := h.2 q3
      refine B.aload_n 0 dX9_aLine_40 rfl rfl ?_
      refine B.iconst 3 dX9_aLine_41 (by decide) ?_
      refine B.aload_n 0 dX9_aLine_42 rfl rfl ?_
      obtain ⟨t5, h⟩ := h
      refine B.getI dX9_aLine_43 fl_9_61 t5 ?_
      refine B.callV (M' := MX9_tells) (rc := 0) (rs := 0) (mc := 0) (ms := 0) (st := []) [.int 3, .int (I r0 4)] dX9_aLine_46 mv_X9_tells lk_X9_114 ⟨Nat.le_of_ble_eq_true rfl, Nat.le_of_ble_eq_true rfl⟩ rfl rfl (Nat.le_of_ble_eq_true rfl) t5 ?_
      refine T_of rfl (Nat.le_of_ble_eq_true rfl) ?_
      show B g MX9_tells 0 0 0 [(0, .ref r0), (1, .int 3), (2, .int (I r0 4))] [] S P I _
      refine B.aload_n 0 dX9_tells_0 rfl rfl ?_
      refine B.getI dX9_tells_1 fl_9_90 t5 ?_
      refine B.if_ne 17 dX9_tells_4 (by decide) (fun q6 => ?_) (fun q6 => ?_)
      · replace h := h.1 q6
        refine B.return_ dX9_tells_17 rfl ?_
        show B g MX9_aLine 0 0 49 [(0, .ref r0), (1, .int x1), (2, .int x2)] [] S P I _
        refine B.aload_n 0 dX9_aLine_49 rfl rfl ?_
        refine B.callV (M' := MX9_aTest) (rc := 0) (rs := 0) (mc := 0) (ms := 0) (st := []) [] dX9_aLine_50 mv_X9_aTest lk_X9_118 ⟨Nat.le_of_ble_eq_true rfl, Nat.le_of_ble_eq_true rfl⟩ rfl rfl (Nat.le_of_ble_eq_true rfl) t5 ?_
        exact h
      · replace h := h.2 q6
        refine B.aload_n 0 dX9_tells_7 rfl rfl ?_
        obtain ⟨b7, h⟩ := h
        obtain ⟨t8, h⟩ := h
        refine B.getP dX9_tells_8 fl_9_7 t5 t8 ?_
        refine B.bipush 8 dX9_tells_11 (by decide) ?_
        obtain ⟨t9, h⟩ := h
        obtain ⟨j10, h⟩ := h
        obtain ⟨t11, h⟩ := h
        refine B.iaload dX9_tells_13 t9 t11 ?_
        refine B.if_eq 18 dX9_tells_14 (by decide) (fun q12 => ?_) (fun q12 => ?_)
        · replace h := h.1 q12
          refine B.aload_n 0 dX9_tells_18 rfl rfl ?_
          refine B.getP dX9_tells_19 fl_9_7 t5 t8 ?_
          refine B.bipush 8 dX9_tells_22 (by decide) ?_
          refine B.iload_n 1 dX9_tells_24 rfl rfl ?_
          refine B.iastore dX9_tells_25 t9 t11 ?_
          refine B.aload_n 0 dX9_tells_26 rfl rfl ?_
          refine B.getP dX9_tells_27 fl_9_7 t5 t8 ?_
          refine B.bipush 9 dX9_tells_30 (by decide) ?_
          refine B.iload_n 2 dX9_tells_32 rfl rfl ?_
          obtain ⟨j13, h⟩ := h
          obtain ⟨t14, h⟩ := h
          refine B.iastore dX9_tells_33 t9 t14 ?_
          refine B.return_ dX9_tells_34 rfl ?_
          show B g MX9_aLine 0 0 49 [(0, .ref r0), (1, .int x1), (2, .int x2)] [] S P (u2 (u2 I b7 j10 3) b7 j13 (I r0 4)) _
          refine B.aload_n 0 dX9_aLine_49 rfl rfl ?_
          refine B.callV (M' := MX9_aTest) (rc := 0) (rs := 0) (mc := 0) (ms := 0) (st := []) [] dX9_aLine_50 mv_X9_aTest lk_X9_118 ⟨Nat.le_of_ble_eq_true rfl, Nat.le_of_ble_eq_true rfl⟩ rfl rfl (Nat.le_of_ble_eq_true rfl) t5 ?_
          exact h
        · replace h := h.2 q12
          refine B.return_ dX9_tells_17 rfl ?_
          show B g MX9_aLine 0 0 49 [(0, .ref r0), (1, .int x1), (2, .int x2)] [] S P I _
          refine B.aload_n 0 dX9_aLine_49 rfl rfl ?_
          refine B.callV (M' := MX9_aTest) (rc := 0) (rs := 0) (mc := 0) (ms := 0) (st := []) [] dX9_aLine_50 mv_X9_aTest lk_X9_118 ⟨Nat.le_of_ble_eq_true rfl, Nat.le_of_ble_eq_true rfl⟩ rfl rfl (Nat.le_of_ble_eq_true rfl) t5 ?_
          exact h
theorem s_X9_aLine_53 {g : GT} {S : ST} {P : PT} {I : IT} {Q : QT} {r0 : Nat} {x1 : Int32} {x2 : Int32} (h : B g MX9_aLine 0 0 55 [(0, .ref r0), (1, .int x1), (2, .int x2), (3, .int 0)] [] S P I Q) : B g MX9_aLine 0 0 53 [(0, .ref r0), (1, .int x1), (2, .int x2)] [] S P I Q := by
  refine B.iconst 0 dX9_aLine_53 (by decide) ?_
  refine B.istore_n (lv' := [(0, .ref r0), (1, .int x1), (2, .int x2), (3, .int 0)]) dX9_aLine_54 rfl (by decide) rfl ?_
  exact h
theorem s_X9_aLine_55 {g : GT} {S : ST} {P : PT} {I : IT} {Q : QT} {r0 : Nat} {x1 : Int32} {x2 : Int32} {x3 : Int32} (h : ((4 ≤ x3 → sT S r0 = 10 ∧ T g MX9_takes 0 0 [.ref r0, .int 31] S P I (fun r S' P' I' => B g MX9_aLine 0 0 97 [(0, .ref r0), (1, .int (x1 + 1)), (2, .int x2), (3, .int x3)] (r.toList ++ []) S' P' I' Q)) ∧ (¬ 4 ≤ x3 → ((4 ≤ x1 → sT S r0 = 10 ∧ T g MX9_takes 0 0 [.ref r0, .int 31] S P I (fun r S' P' I' => B g MX9_aLine 0 0 97 [(0, .ref r0), (1, .int (x1 + 1)), (2, .int x2), (3, .int x3)] (r.toList ++ []) S' P' I' Q)) ∧ (¬ 4 ≤ x1 → sT S r0 = 10 ∧ ∃ b6, P r0 12 = b6 + 1 ∧ sT S b6 = 40 ∧ ∃ j9, ix x3 j9 (sL S b6) ∧ ((12 ≤ (I r0 10) → B g MX9_aLine 0 0 55 [(0, .ref r0), (1, .int x1), (2, .int x2), (3, .int (x3 + 1))] [] S P I Q) ∧ (¬ 12 ≤ (I r0 10) → ∃ b12, P r0 11 = b12 + 1 ∧ sT S b12 = 40 ∧ ∃ j15, ix ((18 * (I r0 10)) + ((1 + (4 * x1)) + x3)) j15 (sL S b12) ∧ B g MX9_aLine 0 0 55 [(0, .ref r0), (1, .int x1), (2, .int x2), (3, .int (x3 + 1))] [] S P (u2 I b12 j15 (I b6 j9)) Q))))))) : B g MX9_aLine 0 0 55 [(0, .ref r0), (1, .int x1), (2, .int x2), (3, .int x3)] [] S P I Q := by
  refine B.iload_n 3 dX9_aLine_55 rfl rfl ?_
  refine B.iconst 4 dX9_aLine_56 (by decide) ?_
  refine B.icmp_ge 88 dX9_aLine_57 (by decide) (fun q1 => ?_) (fun q1 => ?_)
  · replace h := h.1 q1
    refine B.iinc (lv' := [(0, .ref r0), (1, .int (x1 + 1)), (2, .int x2), (3, .int x3)]) 1 (x1 + 1) dX9_aLine_88 rfl rfl (by decide) rfl ?_
    refine B.aload_n 0 dX9_aLine_91 rfl rfl ?_
    refine B.bipush 31 dX9_aLine_92 (by decide) ?_
    obtain ⟨t2, h⟩ := h
    refine B.callV (M' := MX9_takes) (rc := 0) (rs := 0) (mc := 0) (ms := 0) (st := []) [.int 31] dX9_aLine_94 mv_X9_takes lk_X9_100 ⟨Nat.le_of_ble_eq_true rfl, Nat.le_of_ble_eq_true rfl⟩ rfl rfl (Nat.le_of_ble_eq_true rfl) t2 ?_
    exact h
  · replace h := h.2 q1
    refine B.iload_n 1 dX9_aLine_60 rfl rfl ?_
    refine B.iconst 4 dX9_aLine_61 (by decide) ?_
    refine B.icmp_ge 88 dX9_aLine_62 (by decide) (fun q3 => ?_) (fun q3 => ?_)
    · replace h := h.1 q3
      refine B.iinc (lv' := [(0, .ref r0), (1, .int (x1 + 1)), (2, .int x2), (3, .int x3)]) 1 (x1 + 1) dX9_aLine_88 rfl rfl (by decide) rfl ?_
      refine B.aload_n 0 dX9_aLine_91 rfl rfl ?_
      refine B.bipush 31 dX9_aLine_92 (by decide) ?_
      obtain ⟨t4, h⟩ := h
      refine B.callV (M' := MX9_takes) (rc := 0) (rs := 0) (mc := 0) (ms := 0) (st := []) [.int 31] dX9_aLine_94 mv_X9_takes lk_X9_100 ⟨Nat.le_of_ble_eq_true rfl, Nat.le_of_ble_eq_true rfl⟩ rfl rfl (Nat.le_of_ble_eq_true rfl) t4 ?_
      exact h
    · replace h := h.2 q3
      refine B.aload_n 0 dX9_aLine_65 rfl rfl ?_
      refine B.iconst 1 dX9_aLine_66 (by decide) ?_
      refine B.iconst 4 dX9_aLine_67 (by decide) ?_
      refine B.iload_n 1 dX9_aLine_68 rfl rfl ?_
      refine B.imul dX9_aLine_69 ?_
      refine B.iadd dX9_aLine_70 ?_
      refine B.iload_n 3 dX9_aLine_71 rfl rfl ?_
      refine B.iadd dX9_aLine_72 ?_
      refine B.aload_n 0 dX9_aLine_73 rfl rfl ?_
      obtain ⟨t5, h⟩ := h
      obtain ⟨b6, h⟩ := h
      obtain ⟨t7, h⟩ := h
      refine B.getP dX9_aLine_74 fl_9_20 t5 t7 ?_
      refine B.iload_n 3 dX9_aLine_77 rfl rfl ?_
      obtain ⟨t8, h⟩ := h
      obtain ⟨j9, h⟩ := h
      obtain ⟨t10, h⟩ := h
      refine B.iaload dX9_aLine_78 t8 t10 ?_
      refine B.callV (M' := MX9_puts) (rc := 0) (rs := 0) (mc := 0) (ms := 0) (st := []) [.int ((1 + (4 * x1)) + x3), .int (I b6 j9)] dX9_aLine_79 mv_X9_puts lk_X9_121 ⟨Nat.le_of_ble_eq_true rfl, Nat.le_of_ble_eq_true rfl⟩ rfl rfl (Nat.le_of_ble_eq_true rfl) t5 ?_
      refine T_of rfl (Nat.le_of_ble_eq_true rfl) ?_
      show B g MX9_puts 0 0 0 [(0, .ref r0), (1, .int ((1 + (4 * x1)) + x3)), (2, .int (I b6 j9))] [] S P I _
      refine B.aload_n 0 dX9_puts_0 rfl rfl ?_
      refine B.getI dX9_puts_1 fl_9_111 t5 ?_
      refine B.bipush 12 dX9_puts_4 (by decide) ?_
      refine B.icmp_ge 24 dX9_puts_6 (by decide) (fun q11 => ?_) (fun q11 => ?_)
      · replace h := h.1 q11
        refine B.return_ dX9_puts_24 rfl ?_
        show B g MX9_aLine 0 0 82 [(0, .ref r0), (1, .int x1), (2, .int x2), (3, .int x3)] [] S P I _
        refine B.iinc (lv' := [(0, .ref r0), (1, .int x1), (2, .int x2), (3, .int (x3 + 1))]) 3 (x3 + 1) dX9_aLine_82 rfl rfl (by decide) rfl ?_
        refine B.goto_ 55 dX9_aLine_85 (by decide) ?_
        exact h
      · replace h := h.2 q11
        refine B.aload_n 0 dX9_puts_9 rfl rfl ?_
        obtain ⟨b12, h⟩ := h
        obtain ⟨t13, h⟩ := h
        refine B.getP dX9_puts_10 fl_9_17 t5 t13 ?_
        refine B.bipush 18 dX9_puts_13 (by decide) ?_
        refine B.aload_n 0 dX9_puts_15 rfl rfl ?_
        refine B.getI dX9_puts_16 fl_9_111 t5 ?_
        refine B.imul dX9_puts_19 ?_
        refine B.iload_n 1 dX9_puts_20 rfl rfl ?_
        refine B.iadd dX9_puts_21 ?_
        refine B.iload_n 2 dX9_puts_22 rfl rfl ?_
        obtain ⟨t14, h⟩ := h
        obtain ⟨j15, h⟩ := h
        obtain ⟨t16, h⟩ := h
        refine B.iastore dX9_puts_23 t14 t16 ?_
        refine B.return_ dX9_puts_24 rfl ?_
        show B g MX9_aLine 0 0 82 [(0, .ref r0), (1, .int x1), (2, .int x2), (3, .int x3)] [] S P (u2 I b12 j15 (I b6 j9)) _
        refine B.iinc (lv' := [(0, .ref r0), (1, .int x1), (2, .int x2), (3, .int (x3 + 1))]) 3 (x3 + 1) dX9_aLine_82 rfl rfl (by decide) rfl ?_
        refine B.goto_ 55 dX9_aLine_85 (by decide) ?_
        exact h
theorem s_X9_aLine_97 {g : GT} {S : ST} {P : PT} {I : IT} {Q : QT} {r0 : Nat} {x1 : Int32} {x2 : Int32} {x3 : Int32} {w_s0 : Int32} (h : B g MX9_aLine 0 0 31 [(0, .ref r0), (1, .int x1), (2, .int w_s0)] [] S P I Q) : B g MX9_aLine 0 0 97 [(0, .ref r0), (1, .int x1), (2, .int x2), (3, .int x3)] [.int w_s0] S P I Q := by
  refine B.istore_n (lv' := [(0, .ref r0), (1, .int x1), (2, .int w_s0), (3, .int x3)]) dX9_aLine_97 rfl (by decide) rfl ?_
  refine B.goto_ 31 dX9_aLine_98 (by decide) ?_
  refine B.lvs [(0, .ref r0), (1, .int x1), (2, .int w_s0)] [0, 1, 2] rfl ?_
  exact h
theorem s_X9_aLine_107 {g : GT} {S : ST} {P : PT} {I : IT} {Q : QT} {r0 : Nat} {x1 : Int32} (h : sT S r0 = 10 ∧ T g MX9_takes 0 0 [.ref r0, .int 20] S P I (fun r S' P' I' => B g MX9_aLine 0 0 115 [(0, .ref r0), (1, .int x1), (2, .int 0)] (r.toList ++ []) S' P' I' Q)) : B g MX9_aLine 0 0 107 [(0, .ref r0), (1, .int x1)] [] S P I Q := by
  refine B.iconst 0 dX9_aLine_107 (by decide) ?_
  refine B.istore_n (lv' := [(0, .ref r0), (1, .int x1), (2, .int 0)]) dX9_aLine_108 rfl (by decide) rfl ?_
  refine B.aload_n 0 dX9_aLine_109 rfl rfl ?_
  refine B.bipush 20 dX9_aLine_110 (by decide) ?_
  obtain ⟨t1, h⟩ := h
  refine B.callV (M' := MX9_takes) (rc := 0) (rs := 0) (mc := 0) (ms := 0) (st := []) [.int 20] dX9_aLine_112 mv_X9_takes lk_X9_100 ⟨Nat.le_of_ble_eq_true rfl, Nat.le_of_ble_eq_true rfl⟩ rfl rfl (Nat.le_of_ble_eq_true rfl) t1 ?_
  exact h
theorem s_X9_aLine_115 {g : GT} {S : ST} {P : PT} {I : IT} {Q : QT} {r0 : Nat} {x1 : Int32} {x2 : Int32} {w_s0 : Int32} (h : ((¬ w_s0 = 0 → sT S r0 = 10 ∧ T g MX9_must 0 0 [.ref r0, .int 59] S P I (fun r S' P' I' => B g MX9_aLine 0 0 159 [(0, .ref r0), (1, .int x1), (2, .int x2)] (r.toList ++ []) S' P' I' Q)) ∧ (w_s0 = 0 → sT S r0 = 10 ∧ T g MX9_takes 0 0 [.ref r0, .int 21] S P I (fun r S' P' I' => B g MX9_aLine 0 0 124 [(0, .ref r0), (1, .int x1), (2, .int x2)] (r.toList ++ []) S' P' I' Q)))) : B g MX9_aLine 0 0 115 [(0, .ref r0), (1, .int x1), (2, .int x2)] [.int w_s0] S P I Q := by
  refine B.if_ne 153 dX9_aLine_115 (by decide) (fun q1 => ?_) (fun q1 => ?_)
  · replace h := h.1 q1
    refine B.aload_n 0 dX9_aLine_153 rfl rfl ?_
    refine B.bipush 59 dX9_aLine_154 (by decide) ?_
    obtain ⟨t2, h⟩ := h
    refine B.callV (M' := MX9_must) (rc := 0) (rs := 0) (mc := 0) (ms := 0) (st := []) [.int 59] dX9_aLine_156 mv_X9_must lk_X9_124 ⟨Nat.le_of_ble_eq_true rfl, Nat.le_of_ble_eq_true rfl⟩ rfl rfl (Nat.le_of_ble_eq_true rfl) t2 ?_
    exact h
  · replace h := h.2 q1
    refine B.aload_n 0 dX9_aLine_118 rfl rfl ?_
    refine B.bipush 21 dX9_aLine_119 (by decide) ?_
    obtain ⟨t3, h⟩ := h
    refine B.callV (M' := MX9_takes) (rc := 0) (rs := 0) (mc := 0) (ms := 0) (st := []) [.int 21] dX9_aLine_121 mv_X9_takes lk_X9_100 ⟨Nat.le_of_ble_eq_true rfl, Nat.le_of_ble_eq_true rfl⟩ rfl rfl (Nat.le_of_ble_eq_true rfl) t3 ?_
    exact h
theorem s_X9_aLine_124 {g : GT} {S : ST} {P : PT} {I : IT} {Q : QT} {r0 : Nat} {x1 : Int32} {x2 : Int32} {w_s0 : Int32} (h : ((¬ w_s0 = 0 → sT S r0 = 10 ∧ T g MX9_numbered 0 0 [.ref r0] S P I (fun r S' P' I' => B g MX9_aLine 0 0 140 [(0, .ref r0), (1, .int x1), (2, .int x2), (3, .int (I r0 4))] (r.toList ++ []) S' P' I' Q)) ∧ (w_s0 = 0 → sT S r0 = 10 ∧ (((I r0 9) = 0 → ∃ b5, P r0 0 = b5 + 1 ∧ sT S b5 = 40 ∧ ∃ j8, ix 8 j8 (sL S b5) ∧ ∃ j10, ix 9 j10 (sL S b5) ∧ T g MX9_numbered 0 0 [.ref r0] S P (u2 (u2 (u2 I r0 9 1) b5 j8 1) b5 j10 ((u2 (u2 I r0 9 1) b5 j8 1) r0 4)) (fun r S' P' I' => B g MX9_aLine 0 0 140 [(0, .ref r0), (1, .int x1), (2, .int x2), (3, .int ((u2 (u2 (u2 I r0 9 1) b5 j8 1) b5 j10 ((u2 (u2 I r0 9 1) b5 j8 1) r0 4)) r0 4))] (r.toList ++ []) S' P' I' Q)) ∧ (¬ (I r0 9) = 0 → T g MX9_numbered 0 0 [.ref r0] S P I (fun r S' P' I' => B g MX9_aLine 0 0 140 [(0, .ref r0), (1, .int x1), (2, .int x2), (3, .int (I r0 4))] (r.toList ++ []) S' P' I' Q)))))) : B g MX9_aLine 0 0 124 [(0, .ref r0), (1, .int x1), (2, .int x2)] [.int w_s0] S P I Q := by
  refine B.if_ne 131 dX9_aLine_124 (by decide) (fun q1 => ?_) (fun q1 => ?_)
  · replace h := h.1 q1
    refine B.aload_n 0 dX9_aLine_131 rfl rfl ?_
    obtain ⟨t2, h⟩ := h
    refine B.getI dX9_aLine_132 fl_9_61 t2 ?_
    refine B.istore_n (lv' := [(0, .ref r0), (1, .int x1), (2, .int x2), (3, .int (I r0 4))]) dX9_aLine_135 rfl (by decide) rfl ?_
    refine B.aload_n 0 dX9_aLine_136 rfl rfl ?_
    refine B.callV (M' := MX9_numbered) (rc := 0) (rs := 0) (mc := 0) (ms := 0) (st := []) [] dX9_aLine_137 mv_X9_numbered lk_X9_107 ⟨Nat.le_of_ble_eq_true rfl, Nat.le_of_ble_eq_true rfl⟩ rfl rfl (Nat.le_of_ble_eq_true rfl) t2 ?_
    exact h
  · replace h := h.2 q1
    refine B.aload_n 0 dX9_aLine_127 rfl rfl ?_
    obtain ⟨t3, h⟩ := h
    refine B.callV (M' := MX9_stops) (rc := 0) (rs := 0) (mc := 0) (ms := 0) (st := []) [] dX9_aLine_128 mv_X9_stops lk_X9_97 ⟨Nat.le_of_ble_eq_true rfl, Nat.le_of_ble_eq_true rfl⟩ rfl rfl (Nat.le_of_ble_eq_true rfl) t3 ?_
    refine T_of rfl (Nat.le_of_ble_eq_true rfl) ?_
    show B g MX9_stops 0 0 0 [(0, .ref r0)] [] S P I _
    refine B.aload_n 0 dX9_stops_0 rfl rfl ?_
    refine B.getI dX9_stops_1 fl_9_90 t3 ?_
    refine B.if_eq 8 dX9_stops_4 (by decide) (fun q4 => ?_) (fun q4 => ?_)
    · replace h := h.1 q4
      refine B.aload_n 0 dX9_stops_8 rfl rfl ?_
      refine B.iconst 1 dX9_stops_9 (by decide) ?_
      refine B.putZ dX9_stops_10 fw_9_90 t3 (by decide) ?_
      refine B.aload_n 0 dX9_stops_13 rfl rfl ?_
      obtain ⟨b5, h⟩ := h
      obtain ⟨t6, h⟩ := h
      refine B.getP dX9_stops_14 fl_9_7 t3 t6 ?_
      refine B.bipush 8 dX9_stops_17 (by decide) ?_
      refine B.iconst 1 dX9_stops_19 (by decide) ?_
      obtain ⟨t7, h⟩ := h
      obtain ⟨j8, h⟩ := h
      obtain ⟨t9, h⟩ := h
      refine B.iastore dX9_stops_20 t7 t9 ?_
      refine B.aload_n 0 dX9_stops_21 rfl rfl ?_
      refine B.getP dX9_stops_22 fl_9_7 t3 t6 ?_
      refine B.bipush 9 dX9_stops_25 (by decide) ?_
      refine B.aload_n 0 dX9_stops_27 rfl rfl ?_
      refine B.getI dX9_stops_28 fl_9_61 t3 ?_
      obtain ⟨j10, h⟩ := h
      obtain ⟨t11, h⟩ := h
      refine B.iastore dX9_stops_31 t7 t11 ?_
      refine B.return_ dX9_stops_32 rfl ?_
      show B g MX9_aLine 0 0 131 [(0, .ref r0), (1, .int x1), (2, .int x2)] [] S P (u2 (u2 (u2 I r0 9 1) b5 j8 1) b5 j10 ((u2 (u2 I r0 9 1) b5 j8 1) r0 4)) _
      refine B.aload_n 0 dX9_aLine_131 rfl rfl ?_
      refine B.getI dX9_aLine_132 fl_9_61 t3 ?_
      refine B.istore_n (lv' := [(0, .ref r0), (1, .int x1), (2, .int x2), (3, .int ((u2 (u2 (u2 I r0 9 1) b5 j8 1) b5 j10 ((u2 (u2 I r0 9 1) b5 j8 1) r0 4)) r0 4))]) dX9_aLine_135 rfl (by decide) rfl ?_
      refine B.aload_n 0 dX9_aLine_136 rfl rfl ?_
      refine B.callV (M' := MX9_numbered) (rc := 0) (rs := 0) (mc := 0) (ms := 0) (st := []) [] dX9_aLine_137 mv_X9_numbered lk_X9_107 ⟨Nat.le_of_ble_eq_true rfl, Nat.le_of_ble_eq_true rfl⟩ rfl rfl (Nat.le_of_ble_eq_true rfl) t3 ?_
      exact h
    · replace h := h.2 q4
      refine B.return_ dX9_stops_7 rfl ?_
      show B g MX9_aLine 0 0 131 [(0, .ref r0), (1, .int x1), (2, .int x2)] [] S P I _
      refine B.aload_n 0 dX9_aLine_131 rfl rfl ?_
      refine B.getI dX9_aLine_132 fl_9_61 t3 ?_
      refine B.istore_n (lv' := [(0, .ref r0), (1, .int x1), (2, .int x2), (3, .int (I r0 4))]) dX9_aLine_135 rfl (by decide) rfl ?_
      refine B.aload_n 0 dX9_aLine_136 rfl rfl ?_
      refine B.callV (M' := MX9_numbered) (rc := 0) (rs := 0) (mc := 0) (ms := 0) (st := []) [] dX9_aLine_137 mv_X9_numbered lk_X9_107 ⟨Nat.le_of_ble_eq_true rfl, Nat.le_of_ble_eq_true rfl⟩ rfl rfl (Nat.le_of_ble_eq_true rfl) t3 ?_
      exact h
theorem s_X9_aLine_140 {g : GT} {S : ST} {P : PT} {I : IT} {Q : QT} {r0 : Nat} {x1 : Int32} {x2 : Int32} {x3 : Int32} {w_s0 : Int32} (h : ((w_s0 ≤ 100 → sT S r0 = 10 ∧ T g MX9_must 0 0 [.ref r0, .int 59] S P I (fun r S' P' I' => B g MX9_aLine 0 0 159 [(0, .ref r0), (1, .int x1), (2, .int w_s0)] (r.toList ++ []) S' P' I' Q)) ∧ (¬ w_s0 ≤ 100 → sT S r0 = 10 ∧ ((¬ (I r0 9) = 0 → T g MX9_must 0 0 [.ref r0, .int 59] S P I (fun r S' P' I' => B g MX9_aLine 0 0 159 [(0, .ref r0), (1, .int x1), (2, .int w_s0)] (r.toList ++ []) S' P' I' Q)) ∧ ((I r0 9) = 0 → ∃ b5, P r0 0 = b5 + 1 ∧ sT S b5 = 40 ∧ ∃ j8, ix 8 j8 (sL S b5) ∧ (((I b5 j8) = 0 → ∃ j11, ix 9 j11 (sL S b5) ∧ T g MX9_must 0 0 [.ref r0, .int 59] S P (u2 (u2 I b5 j8 2) b5 j11 x3) (fun r S' P' I' => B g MX9_aLine 0 0 159 [(0, .ref r0), (1, .int x1), (2, .int w_s0)] (r.toList ++ []) S' P' I' Q)) ∧ (¬ (I b5 j8) = 0 → T g MX9_must 0 0 [.ref r0, .int 59] S P I (fun r S' P' I' => B g MX9_aLine 0 0 159 [(0, .ref r0), (1, .int x1), (2, .int w_s0)] (r.toList ++ []) S' P' I' Q)))))))) : B g MX9_aLine 0 0 140 [(0, .ref r0), (1, .int x1), (2, .int x2), (3, .int x3)] [.int w_s0] S P I Q := by
  refine B.istore_n (lv' := [(0, .ref r0), (1, .int x1), (2, .int w_s0), (3, .int x3)]) dX9_aLine_140 rfl (by decide) rfl ?_
  refine B.iload_n 2 dX9_aLine_141 rfl rfl ?_
  refine B.bipush 100 dX9_aLine_142 (by decide) ?_
  refine B.icmp_le 153 dX9_aLine_144 (by decide) (fun q1 => ?_) (fun q1 => ?_)
  · replace h := h.1 q1
    refine B.aload_n 0 dX9_aLine_153 rfl rfl ?_
    refine B.bipush 59 dX9_aLine_154 (by decide) ?_
    obtain ⟨t2, h⟩ := h
    refine B.lvs [(0, .ref r0), (1, .int x1), (2, .int w_s0)] [0, 1, 2] rfl ?_
    refine B.callV (M' := MX9_must) (rc := 0) (rs := 0) (mc := 0) (ms := 0) (st := []) [.int 59] dX9_aLine_156 mv_X9_must lk_X9_124 ⟨Nat.le_of_ble_eq_true rfl, Nat.le_of_ble_eq_true rfl⟩ rfl rfl (Nat.le_of_ble_eq_true rfl) t2 ?_
    exact h
  · replace h := h.2 q1
    refine B.aload_n 0 dX9_aLine_147 rfl rfl ?_
    refine B.iconst 2 dX9_aLine_148 (by decide) ?_
    refine B.iload_n 3 dX9_aLine_149 rfl rfl ?_
    obtain ⟨t3, h⟩ := h
    refine B.callV (M' := MX9_tells) (rc := 0) (rs := 0) (mc := 0) (ms := 0) (st := []) [.int 2, .int x3] dX9_aLine_150 mv_X9_tells lk_X9_114 ⟨Nat.le_of_ble_eq_true rfl, Nat.le_of_ble_eq_true rfl⟩ rfl rfl (Nat.le_of_ble_eq_true rfl) t3 ?_
    refine T_of rfl (Nat.le_of_ble_eq_true rfl) ?_
    show B g MX9_tells 0 0 0 [(0, .ref r0), (1, .int 2), (2, .int x3)] [] S P I _
    refine B.aload_n 0 dX9_tells_0 rfl rfl ?_
    refine B.getI dX9_tells_1 fl_9_90 t3 ?_
    refine B.if_ne 17 dX9_tells_4 (by decide) (fun q4 => ?_) (fun q4 => ?_)
    · replace h := h.1 q4
      refine B.return_ dX9_tells_17 rfl ?_
      show B g MX9_aLine 0 0 153 [(0, .ref r0), (1, .int x1), (2, .int w_s0), (3, .int x3)] [] S P I _
      refine B.aload_n 0 dX9_aLine_153 rfl rfl ?_
      refine B.bipush 59 dX9_aLine_154 (by decide) ?_
      refine B.lvs [(0, .ref r0), (1, .int x1), (2, .int w_s0)] [0, 1, 2] rfl ?_
      refine B.callV (M' := MX9_must) (rc := 0) (rs := 0) (mc := 0) (ms := 0) (st := []) [.int 59] dX9_aLine_156 mv_X9_must lk_X9_124 ⟨Nat.le_of_ble_eq_true rfl, Nat.le_of_ble_eq_true rfl⟩ rfl rfl (Nat.le_of_ble_eq_true rfl) t3 ?_
      exact h
    · replace h := h.2 q4
      refine B.aload_n 0 dX9_tells_7 rfl rfl ?_
      obtain ⟨b5, h⟩ := h
      obtain ⟨t6, h⟩ := h
      refine B.getP dX9_tells_8 fl_9_7 t3 t6 ?_
      refine B.bipush 8 dX9_tells_11 (by decide) ?_
      obtain ⟨t7, h⟩ := h
      obtain ⟨j8, h⟩ := h
      obtain ⟨t9, h⟩ := h
      refine B.iaload dX9_tells_13 t7 t9 ?_
      refine B.if_eq 18 dX9_tells_14 (by decide) (fun q10 => ?_) (fun q10 => ?_)
      · replace h := h.1 q10
        refine B.aload_n 0 dX9_tells_18 rfl rfl ?_
        refine B.getP dX9_tells_19 fl_9_7 t3 t6 ?_
        refine B.bipush 8 dX9_tells_22 (by decide) ?_
        refine B.iload_n 1 dX9_tells_24 rfl rfl ?_
        refine B.iastore dX9_tells_25 t7 t9 ?_
        refine B.aload_n 0 dX9_tells_26 rfl rfl ?_
        refine B.getP dX9_tells_27 fl_9_7 t3 t6 ?_
        refine B.bipush 9 dX9_tells_30 (by decide) ?_
        refine B.iload_n 2 dX9_tells_32 rfl rfl ?_
        obtain ⟨j11, h⟩ := h
        obtain ⟨t12, h⟩ := h
        refine B.iastore dX9_tells_33 t7 t12 ?_
        refine B.return_ dX9_tells_34 rfl ?_
        show B g MX9_aLine 0 0 153 [(0, .ref r0), (1, .int x1), (2, .int w_s0), (3, .int x3)] [] S P (u2 (u2 I b5 j8 2) b5 j11 x3) _
        refine B.aload_n 0 dX9_aLine_153 rfl rfl ?_
        refine B.bipush 59 dX9_aLine_154 (by decide) ?_
        refine B.lvs [(0, .ref r0), (1, .int x1), (2, .int w_s0)] [0, 1, 2] rfl ?_
        refine B.callV (M' := MX9_must) (rc := 0) (rs := 0) (mc := 0) (ms := 0) (st := []) [.int 59] dX9_aLine_156 mv_X9_must lk_X9_124 ⟨Nat.le_of_ble_eq_true rfl, Nat.le_of_ble_eq_true rfl⟩ rfl rfl (Nat.le_of_ble_eq_true rfl) t3 ?_
        exact h
      · replace h := h.2 q10
        refine B.return_ dX9_tells_17 rfl ?_
        show B g MX9_aLine 0 0 153 [(0, .ref r0), (1, .int x1), (2, .int w_s0), (3, .int x3)] [] S P I _
        refine B.aload_n 0 dX9_aLine_153 rfl rfl ?_
        refine B.bipush 59 dX9_aLine_154 (by decide) ?_
        refine B.lvs [(0, .ref r0), (1, .int x1), (2, .int w_s0)] [0, 1, 2] rfl ?_
        refine B.callV (M' := MX9_must) (rc := 0) (rs := 0) (mc := 0) (ms := 0) (st := []) [.int 59] dX9_aLine_156 mv_X9_must lk_X9_124 ⟨Nat.le_of_ble_eq_true rfl, Nat.le_of_ble_eq_true rfl⟩ rfl rfl (Nat.le_of_ble_eq_true rfl) t3 ?_
        exact h
theorem s_X9_aLine_159 {g : GT} {S : ST} {P : PT} {I : IT} {Q : QT} {r0 : Nat} {x1 : Int32} {x2 : Int32} (h : sT S r0 = 10 ∧ ((12 ≤ (I r0 10) → ((12 ≤ (I r0 10) → Q none S P (u2 I r0 10 ((I r0 10) + 1))) ∧ (¬ 12 ≤ (I r0 10) → ∃ b4, P r0 11 = b4 + 1 ∧ sT S b4 = 40 ∧ ∃ j7, ix ((18 * (I r0 10)) + 17) j7 (sL S b4) ∧ Q none S P (u2 (u2 I b4 j7 x2) r0 10 (((u2 I b4 j7 x2) r0 10) + 1))))) ∧ (¬ 12 ≤ (I r0 10) → ∃ b9, P r0 11 = b9 + 1 ∧ sT S b9 = 40 ∧ ∃ j12, ix ((18 * (I r0 10)) + 0) j12 (sL S b9) ∧ ((12 ≤ ((u2 I b9 j12 x1) r0 10) → Q none S P (u2 (u2 I b9 j12 x1) r0 10 (((u2 I b9 j12 x1) r0 10) + 1))) ∧ (¬ 12 ≤ ((u2 I b9 j12 x1) r0 10) → ∃ j15, ix ((18 * ((u2 I b9 j12 x1) r0 10)) + 17) j15 (sL S b9) ∧ Q none S P (u2 (u2 (u2 I b9 j12 x1) b9 j15 x2) r0 10 (((u2 (u2 I b9 j12 x1) b9 j15 x2) r0 10) + 1))))))) : B g MX9_aLine 0 0 159 [(0, .ref r0), (1, .int x1), (2, .int x2)] [] S P I Q := by
  refine B.aload_n 0 dX9_aLine_159 rfl rfl ?_
  refine B.iconst 0 dX9_aLine_160 (by decide) ?_
  refine B.iload_n 1 dX9_aLine_161 rfl rfl ?_
  obtain ⟨t1, h⟩ := h
  refine B.callV (M' := MX9_puts) (rc := 0) (rs := 0) (mc := 0) (ms := 0) (st := []) [.int 0, .int x1] dX9_aLine_162 mv_X9_puts lk_X9_121 ⟨Nat.le_of_ble_eq_true rfl, Nat.le_of_ble_eq_true rfl⟩ rfl rfl (Nat.le_of_ble_eq_true rfl) t1 ?_
  refine T_of rfl (Nat.le_of_ble_eq_true rfl) ?_
  show B g MX9_puts 0 0 0 [(0, .ref r0), (1, .int 0), (2, .int x1)] [] S P I _
  refine B.aload_n 0 dX9_puts_0 rfl rfl ?_
  refine B.getI dX9_puts_1 fl_9_111 t1 ?_
  refine B.bipush 12 dX9_puts_4 (by decide) ?_
  refine B.icmp_ge 24 dX9_puts_6 (by decide) (fun q2 => ?_) (fun q2 => ?_)
  · replace h := h.1 q2
    refine B.return_ dX9_puts_24 rfl ?_
    show B g MX9_aLine 0 0 165 [(0, .ref r0), (1, .int x1), (2, .int x2)] [] S P I _
    refine B.aload_n 0 dX9_aLine_165 rfl rfl ?_
    refine B.bipush 17 dX9_aLine_166 (by decide) ?_
    refine B.iload_n 2 dX9_aLine_168 rfl rfl ?_
    refine B.callV (M' := MX9_puts) (rc := 0) (rs := 0) (mc := 0) (ms := 0) (st := []) [.int 17, .int x2] dX9_aLine_169 mv_X9_puts lk_X9_121 ⟨Nat.le_of_ble_eq_true rfl, Nat.le_of_ble_eq_true rfl⟩ rfl rfl (Nat.le_of_ble_eq_true rfl) t1 ?_
    refine T_of rfl (Nat.le_of_ble_eq_true rfl) ?_
    show B g MX9_puts 0 0 0 [(0, .ref r0), (1, .int 17), (2, .int x2)] [] S P I _
    refine B.aload_n 0 dX9_puts_0 rfl rfl ?_
    refine B.getI dX9_puts_1 fl_9_111 t1 ?_
    refine B.bipush 12 dX9_puts_4 (by decide) ?_
    refine B.icmp_ge 24 dX9_puts_6 (by decide) (fun q3 => ?_) (fun q3 => ?_)
    · replace h := h.1 q3
      refine B.return_ dX9_puts_24 rfl ?_
      show B g MX9_aLine 0 0 172 [(0, .ref r0), (1, .int x1), (2, .int x2)] [] S P I _
      refine B.aload_n 0 dX9_aLine_172 rfl rfl ?_
      refine B.dup dX9_aLine_173 rfl ?_
      refine B.getI dX9_aLine_174 fl_9_111 t1 ?_
      refine B.iconst 1 dX9_aLine_177 (by decide) ?_
      refine B.iadd dX9_aLine_178 ?_
      refine B.putI dX9_aLine_179 fw_9_111 t1 ?_
      refine B.return_ dX9_aLine_182 rfl ?_
      exact h
    · replace h := h.2 q3
      refine B.aload_n 0 dX9_puts_9 rfl rfl ?_
      obtain ⟨b4, h⟩ := h
      obtain ⟨t5, h⟩ := h
      refine B.getP dX9_puts_10 fl_9_17 t1 t5 ?_
      refine B.bipush 18 dX9_puts_13 (by decide) ?_
      refine B.aload_n 0 dX9_puts_15 rfl rfl ?_
      refine B.getI dX9_puts_16 fl_9_111 t1 ?_
      refine B.imul dX9_puts_19 ?_
      refine B.iload_n 1 dX9_puts_20 rfl rfl ?_
      refine B.iadd dX9_puts_21 ?_
      refine B.iload_n 2 dX9_puts_22 rfl rfl ?_
      obtain ⟨t6, h⟩ := h
      obtain ⟨j7, h⟩ := h
      obtain ⟨t8, h⟩ := h
      refine B.iastore dX9_puts_23 t6 t8 ?_
      refine B.return_ dX9_puts_24 rfl ?_
      show B g MX9_aLine 0 0 172 [(0, .ref r0), (1, .int x1), (2, .int x2)] [] S P (u2 I b4 j7 x2) _
      refine B.aload_n 0 dX9_aLine_172 rfl rfl ?_
      refine B.dup dX9_aLine_173 rfl ?_
      refine B.getI dX9_aLine_174 fl_9_111 t1 ?_
      refine B.iconst 1 dX9_aLine_177 (by decide) ?_
      refine B.iadd dX9_aLine_178 ?_
      refine B.putI dX9_aLine_179 fw_9_111 t1 ?_
      refine B.return_ dX9_aLine_182 rfl ?_
      exact h
  · replace h := h.2 q2
    refine B.aload_n 0 dX9_puts_9 rfl rfl ?_
    obtain ⟨b9, h⟩ := h
    obtain ⟨t10, h⟩ := h
    refine B.getP dX9_puts_10 fl_9_17 t1 t10 ?_
    refine B.bipush 18 dX9_puts_13 (by decide) ?_
    refine B.aload_n 0 dX9_puts_15 rfl rfl ?_
    refine B.getI dX9_puts_16 fl_9_111 t1 ?_
    refine B.imul dX9_puts_19 ?_
    refine B.iload_n 1 dX9_puts_20 rfl rfl ?_
    refine B.iadd dX9_puts_21 ?_
    refine B.iload_n 2 dX9_puts_22 rfl rfl ?_
    obtain ⟨t11, h⟩ := h
    obtain ⟨j12, h⟩ := h
    obtain ⟨t13, h⟩ := h
    refine B.iastore dX9_puts_23 t11 t13 ?_
    refine B.return_ dX9_puts_24 rfl ?_
    show B g MX9_aLine 0 0 165 [(0, .ref r0), (1, .int x1), (2, .int x2)] [] S P (u2 I b9 j12 x1) _
    refine B.aload_n 0 dX9_aLine_165 rfl rfl ?_
    refine B.bipush 17 dX9_aLine_166 (by decide) ?_
    refine B.iload_n 2 dX9_aLine_168 rfl rfl ?_
    refine B.callV (M' := MX9_puts) (rc := 0) (rs := 0) (mc := 0) (ms := 0) (st := []) [.int 17, .int x2] dX9_aLine_169 mv_X9_puts lk_X9_121 ⟨Nat.le_of_ble_eq_true rfl, Nat.le_of_ble_eq_true rfl⟩ rfl rfl (Nat.le_of_ble_eq_true rfl) t1 ?_
    refine T_of rfl (Nat.le_of_ble_eq_true rfl) ?_
    show B g MX9_puts 0 0 0 [(0, .ref r0), (1, .int 17), (2, .int x2)] [] S P (u2 I b9 j12 x1) _
    refine B.aload_n 0 dX9_puts_0 rfl rfl ?_
    refine B.getI dX9_puts_1 fl_9_111 t1 ?_
    refine B.bipush 12 dX9_puts_4 (by decide) ?_
    refine B.icmp_ge 24 dX9_puts_6 (by decide) (fun q14 => ?_) (fun q14 => ?_)
    · replace h := h.1 q14
      refine B.return_ dX9_puts_24 rfl ?_
      show B g MX9_aLine 0 0 172 [(0, .ref r0), (1, .int x1), (2, .int x2)] [] S P (u2 I b9 j12 x1) _
      refine B.aload_n 0 dX9_aLine_172 rfl rfl ?_
      refine B.dup dX9_aLine_173 rfl ?_
      refine B.getI dX9_aLine_174 fl_9_111 t1 ?_
      refine B.iconst 1 dX9_aLine_177 (by decide) ?_
      refine B.iadd dX9_aLine_178 ?_
      refine B.putI dX9_aLine_179 fw_9_111 t1 ?_
      refine B.return_ dX9_aLine_182 rfl ?_
      exact h
    · replace h := h.2 q14
      refine B.aload_n 0 dX9_puts_9 rfl rfl ?_
      refine B.getP dX9_puts_10 fl_9_17 t1 t10 ?_
      refine B.bipush 18 dX9_puts_13 (by decide) ?_
      refine B.aload_n 0 dX9_puts_15 rfl rfl ?_
      refine B.getI dX9_puts_16 fl_9_111 t1 ?_
      refine B.imul dX9_puts_19 ?_
      refine B.iload_n 1 dX9_puts_20 rfl rfl ?_
      refine B.iadd dX9_puts_21 ?_
      refine B.iload_n 2 dX9_puts_22 rfl rfl ?_
      obtain ⟨j15, h⟩ := h
      obtain ⟨t16, h⟩ := h
      refine B.iastore dX9_puts_23 t11 t16 ?_
      refine B.return_ dX9_puts_24 rfl ?_
      show B g MX9_aLine 0 0 172 [(0, .ref r0), (1, .int x1), (2, .int x2)] [] S P (u2 (u2 I b9 j12 x1) b9 j15 x2) _
      refine B.aload_n 0 dX9_aLine_172 rfl rfl ?_
      refine B.dup dX9_aLine_173 rfl ?_
      refine B.getI dX9_aLine_174 fl_9_111 t1 ?_
      refine B.iconst 1 dX9_aLine_177 (by decide) ?_
      refine B.iadd dX9_aLine_178 ?_
      refine B.putI dX9_aLine_179 fw_9_111 t1 ?_
      refine B.return_ dX9_aLine_182 rfl ?_
      exact h
theorem s_X9_hour_0 {g : GT} {S : ST} {P : PT} {I : IT} {Q : QT} {r0 : Nat} {x1 : Int32} {x2 : Int32} (h : sT S r0 = 10 ∧ ∃ b2, P r0 0 = b2 + 1 ∧ sT S b2 = 40 ∧ ∃ j5, ix 2 j5 (sL S b2) ∧ B g MX9_hour 0 0 10 [(0, .ref r0), (1, .int x1), (2, .int x2), (3, .int (I b2 j5)), (4, .int 0)] [] S P I Q) : B g MX9_hour 0 0 0 [(0, .ref r0), (1, .int x1), (2, .int x2)] [] S P I Q := by
  refine B.aload_n 0 dX9_hour_0 rfl rfl ?_
  obtain ⟨t1, h⟩ := h
  obtain ⟨b2, h⟩ := h
  obtain ⟨t3, h⟩ := h
  refine B.getP dX9_hour_1 fl_9_7 t1 t3 ?_
  refine B.iconst 2 dX9_hour_4 (by decide) ?_
  obtain ⟨t4, h⟩ := h
  obtain ⟨j5, h⟩ := h
  obtain ⟨t6, h⟩ := h
  refine B.iaload dX9_hour_5 t4 t6 ?_
  refine B.istore_n (lv' := [(0, .ref r0), (1, .int x1), (2, .int x2), (3, .int (I b2 j5))]) dX9_hour_6 rfl (by decide) rfl ?_
  refine B.iconst 0 dX9_hour_7 (by decide) ?_
  refine B.istore (lv' := [(0, .ref r0), (1, .int x1), (2, .int x2), (3, .int (I b2 j5)), (4, .int 0)]) dX9_hour_8 (by decide) rfl ?_
  exact h
theorem s_X9_hour_10 {g : GT} {S : ST} {P : PT} {I : IT} {Q : QT} {r0 : Nat} {x1 : Int32} {x2 : Int32} {x3 : Int32} {x4 : Int32} (h : ((x3 ≤ x4 → B g MX9_hour 0 0 42 [(0, .ref r0), (1, .int x1), (2, .int x2), (3, .int x3), (4, .int 0)] [] S P I Q) ∧ (¬ x3 ≤ x4 → sT S r0 = 10 ∧ ∃ b3, P r0 13 = b3 + 1 ∧ ∃ b5, P r0 0 = b5 + 1 ∧ sT S b5 = 40 ∧ ∃ j8, ix (10 + x4) j8 (sL S b5) ∧ sT S b3 = 40 ∧ ∃ j11, ix x4 j11 (sL S b3) ∧ B g MX9_hour 0 0 10 [(0, .ref r0), (1, .int x1), (2, .int x2), (3, .int x3), (4, .int (x4 + 1))] [] S P (u2 I b3 j11 (I b5 j8)) Q))) : B g MX9_hour 0 0 10 [(0, .ref r0), (1, .int x1), (2, .int x2), (3, .int x3), (4, .int x4)] [] S P I Q := by
  refine B.iload 4 dX9_hour_10 rfl ?_
  refine B.iload_n 3 dX9_hour_12 rfl rfl ?_
  refine B.icmp_ge 39 dX9_hour_13 (by decide) (fun q1 => ?_) (fun q1 => ?_)
  · replace h := h.1 q1
    refine B.iconst 0 dX9_hour_39 (by decide) ?_
    refine B.istore (lv' := [(0, .ref r0), (1, .int x1), (2, .int x2), (3, .int x3), (4, .int 0)]) dX9_hour_40 (by decide) rfl ?_
    exact h
  · replace h := h.2 q1
    refine B.aload_n 0 dX9_hour_16 rfl rfl ?_
    obtain ⟨t2, h⟩ := h
    obtain ⟨b3, h⟩ := h
    obtain ⟨t4, h⟩ := h
    refine B.getP dX9_hour_17 fl_9_23 t2 t4 ?_
    refine B.iload 4 dX9_hour_20 rfl ?_
    refine B.aload_n 0 dX9_hour_22 rfl rfl ?_
    obtain ⟨b5, h⟩ := h
    obtain ⟨t6, h⟩ := h
    refine B.getP dX9_hour_23 fl_9_7 t2 t6 ?_
    refine B.bipush 10 dX9_hour_26 (by decide) ?_
    refine B.iload 4 dX9_hour_28 rfl ?_
    refine B.iadd dX9_hour_30 ?_
    obtain ⟨t7, h⟩ := h
    obtain ⟨j8, h⟩ := h
    obtain ⟨t9, h⟩ := h
    refine B.iaload dX9_hour_31 t7 t9 ?_
    obtain ⟨t10, h⟩ := h
    obtain ⟨j11, h⟩ := h
    obtain ⟨t12, h⟩ := h
    refine B.iastore dX9_hour_32 t10 t12 ?_
    refine B.iinc (lv' := [(0, .ref r0), (1, .int x1), (2, .int x2), (3, .int x3), (4, .int (x4 + 1))]) 4 (x4 + 1) dX9_hour_33 rfl rfl (by decide) rfl ?_
    refine B.goto_ 10 dX9_hour_36 (by decide) ?_
    exact h
theorem s_X9_hour_42 {g : GT} {S : ST} {P : PT} {I : IT} {Q : QT} {r0 : Nat} {x1 : Int32} {x2 : Int32} {x3 : Int32} {x4 : Int32} (h : ((x3 ≤ (x4 + 1) → B g MX9_hour 0 0 112 [(0, .ref r0), (1, .int x1), (2, .int x2), (3, .int x3), (4, .int 0)] [] S P I Q) ∧ (¬ x3 ≤ (x4 + 1) → sT S r0 = 10 ∧ ∃ b3, P r0 13 = b3 + 1 ∧ sT S b3 = 40 ∧ ∃ j6, ix x4 j6 (sL S b3) ∧ ∃ j8, ix (x4 + 1) j8 (sL S b3) ∧ ∃ b10, P r0 0 = b10 + 1 ∧ sT S b10 = 40 ∧ ∃ j13, ix (10 + x4) j13 (sL S b10) ∧ ∃ j15, ix ((10 + x4) + 1) j15 (sL S b10) ∧ B g MX9_hour 0 0 42 [(0, .ref r0), (1, .int x1), (2, .int x2), (3, .int x3), (4, .int (x4 + 1))] [] S P (u2 (u2 I b10 j13 ((I b10 j13) - (((I b3 j6) - (I b3 j8)) / 4))) b10 j15 (((u2 I b10 j13 ((I b10 j13) - (((I b3 j6) - (I b3 j8)) / 4))) b10 j15) + (((I b3 j6) - (I b3 j8)) / 4))) Q))) : B g MX9_hour 0 0 42 [(0, .ref r0), (1, .int x1), (2, .int x2), (3, .int x3), (4, .int x4)] [] S P I Q := by
  refine B.iload 4 dX9_hour_42 rfl ?_
  refine B.iconst 1 dX9_hour_44 (by decide) ?_
  refine B.iadd dX9_hour_45 ?_
  refine B.iload_n 3 dX9_hour_46 rfl rfl ?_
  refine B.icmp_ge 109 dX9_hour_47 (by decide) (fun q1 => ?_) (fun q1 => ?_)
  · replace h := h.1 q1
    refine B.iconst 0 dX9_hour_109 (by decide) ?_
    refine B.istore (lv' := [(0, .ref r0), (1, .int x1), (2, .int x2), (3, .int x3), (4, .int 0)]) dX9_hour_110 (by decide) rfl ?_
    exact h
  · replace h := h.2 q1
    refine B.aload_n 0 dX9_hour_50 rfl rfl ?_
    obtain ⟨t2, h⟩ := h
    obtain ⟨b3, h⟩ := h
    obtain ⟨t4, h⟩ := h
    refine B.getP dX9_hour_51 fl_9_23 t2 t4 ?_
    refine B.iload 4 dX9_hour_54 rfl ?_
    obtain ⟨t5, h⟩ := h
    obtain ⟨j6, h⟩ := h
    obtain ⟨t7, h⟩ := h
    refine B.iaload dX9_hour_56 t5 t7 ?_
    refine B.aload_n 0 dX9_hour_57 rfl rfl ?_
    refine B.getP dX9_hour_58 fl_9_23 t2 t4 ?_
    refine B.iload 4 dX9_hour_61 rfl ?_
    refine B.iconst 1 dX9_hour_63 (by decide) ?_
    refine B.iadd dX9_hour_64 ?_
    obtain ⟨j8, h⟩ := h
    obtain ⟨t9, h⟩ := h
    refine B.iaload dX9_hour_65 t5 t9 ?_
    refine B.isub dX9_hour_66 ?_
    refine B.iconst 4 dX9_hour_67 (by decide) ?_
    refine B.idiv dX9_hour_68 (by decide) ?_
    refine B.istore (lv' := [(0, .ref r0), (1, .int x1), (2, .int x2), (3, .int x3), (4, .int x4), (5, .int (((I b3 j6) - (I b3 j8)) / 4))]) dX9_hour_69 (by decide) rfl ?_
    refine B.aload_n 0 dX9_hour_71 rfl rfl ?_
    obtain ⟨b10, h⟩ := h
    obtain ⟨t11, h⟩ := h
    refine B.getP dX9_hour_72 fl_9_7 t2 t11 ?_
    refine B.bipush 10 dX9_hour_75 (by decide) ?_
    refine B.iload 4 dX9_hour_77 rfl ?_
    refine B.iadd dX9_hour_79 ?_
    refine B.dup2 dX9_hour_80 rfl rfl ?_
    obtain ⟨t12, h⟩ := h
    obtain ⟨j13, h⟩ := h
    obtain ⟨t14, h⟩ := h
    refine B.iaload dX9_hour_81 t12 t14 ?_
    refine B.iload 5 dX9_hour_82 rfl ?_
    refine B.isub dX9_hour_84 ?_
    refine B.iastore dX9_hour_85 t12 t14 ?_
    refine B.aload_n 0 dX9_hour_86 rfl rfl ?_
    refine B.getP dX9_hour_87 fl_9_7 t2 t11 ?_
    refine B.bipush 10 dX9_hour_90 (by decide) ?_
    refine B.iload 4 dX9_hour_92 rfl ?_
    refine B.iadd dX9_hour_94 ?_
    refine B.iconst 1 dX9_hour_95 (by decide) ?_
    refine B.iadd dX9_hour_96 ?_
    refine B.dup2 dX9_hour_97 rfl rfl ?_
    obtain ⟨j15, h⟩ := h
    obtain ⟨t16, h⟩ := h
    refine B.iaload dX9_hour_98 t12 t16 ?_
    refine B.iload 5 dX9_hour_99 rfl ?_
    refine B.iadd dX9_hour_101 ?_
    refine B.iastore dX9_hour_102 t12 t16 ?_
    refine B.iinc (lv' := [(0, .ref r0), (1, .int x1), (2, .int x2), (3, .int x3), (4, .int (x4 + 1)), (5, .int (((I b3 j6) - (I b3 j8)) / 4))]) 4 (x4 + 1) dX9_hour_103 rfl rfl (by decide) rfl ?_
    refine B.goto_ 42 dX9_hour_106 (by decide) ?_
    refine B.lvs [(0, .ref r0), (1, .int x1), (2, .int x2), (3, .int x3), (4, .int (x4 + 1))] [0, 1, 2, 3, 4] rfl ?_
    exact h
theorem s_X9_hour_112 {g : GT} {S : ST} {P : PT} {I : IT} {Q : QT} {r0 : Nat} {x1 : Int32} {x2 : Int32} {x3 : Int32} {x4 : Int32} (h : ((x3 ≤ x4 → sT S r0 = 10 ∧ ∃ b3, P r0 0 = b3 + 1 ∧ sT S b3 = 40 ∧ ∃ j6, ix (10 + x1) j6 (sL S b3) ∧ B g MX9_hour 0 0 169 [(0, .ref r0), (1, .int x1), (2, .int x2), (3, .int x3), (4, .int 0)] [] S P (u2 I b3 j6 ((I b3 j6) + (60 * x2))) Q) ∧ (¬ x3 ≤ x4 → sT S r0 = 10 ∧ ∃ b9, P r0 0 = b9 + 1 ∧ sT S b9 = 40 ∧ ∃ j12, ix (10 + x4) j12 (sL S b9) ∧ ∃ b14, P r0 13 = b14 + 1 ∧ sT S b14 = 40 ∧ ∃ j17, ix x4 j17 (sL S b14) ∧ B g MX9_hour 0 0 112 [(0, .ref r0), (1, .int x1), (2, .int x2), (3, .int x3), (4, .int (x4 + 1))] [] S P (u2 I b9 j12 ((I b9 j12) - (((I b14 j17) - 20) / 16))) Q))) : B g MX9_hour 0 0 112 [(0, .ref r0), (1, .int x1), (2, .int x2), (3, .int x3), (4, .int x4)] [] S P I Q := by
  refine B.iload 4 dX9_hour_112 rfl ?_
  refine B.iload_n 3 dX9_hour_114 rfl rfl ?_
  refine B.icmp_ge 150 dX9_hour_115 (by decide) (fun q1 => ?_) (fun q1 => ?_)
  · replace h := h.1 q1
    refine B.aload_n 0 dX9_hour_150 rfl rfl ?_
    obtain ⟨t2, h⟩ := h
    obtain ⟨b3, h⟩ := h
    obtain ⟨t4, h⟩ := h
    refine B.getP dX9_hour_151 fl_9_7 t2 t4 ?_
    refine B.bipush 10 dX9_hour_154 (by decide) ?_
    refine B.iload_n 1 dX9_hour_156 rfl rfl ?_
    refine B.iadd dX9_hour_157 ?_
    refine B.dup2 dX9_hour_158 rfl rfl ?_
    obtain ⟨t5, h⟩ := h
    obtain ⟨j6, h⟩ := h
    obtain ⟨t7, h⟩ := h
    refine B.iaload dX9_hour_159 t5 t7 ?_
    refine B.bipush 60 dX9_hour_160 (by decide) ?_
    refine B.iload_n 2 dX9_hour_162 rfl rfl ?_
    refine B.imul dX9_hour_163 ?_
    refine B.iadd dX9_hour_164 ?_
    refine B.iastore dX9_hour_165 t5 t7 ?_
    refine B.iconst 0 dX9_hour_166 (by decide) ?_
    refine B.istore (lv' := [(0, .ref r0), (1, .int x1), (2, .int x2), (3, .int x3), (4, .int 0)]) dX9_hour_167 (by decide) rfl ?_
    exact h
  · replace h := h.2 q1
    refine B.aload_n 0 dX9_hour_118 rfl rfl ?_
    obtain ⟨t8, h⟩ := h
    obtain ⟨b9, h⟩ := h
    obtain ⟨t10, h⟩ := h
    refine B.getP dX9_hour_119 fl_9_7 t8 t10 ?_
    refine B.bipush 10 dX9_hour_122 (by decide) ?_
    refine B.iload 4 dX9_hour_124 rfl ?_
    refine B.iadd dX9_hour_126 ?_
    refine B.dup2 dX9_hour_127 rfl rfl ?_
    obtain ⟨t11, h⟩ := h
    obtain ⟨j12, h⟩ := h
    obtain ⟨t13, h⟩ := h
    refine B.iaload dX9_hour_128 t11 t13 ?_
    refine B.aload_n 0 dX9_hour_129 rfl rfl ?_
    obtain ⟨b14, h⟩ := h
    obtain ⟨t15, h⟩ := h
    refine B.getP dX9_hour_130 fl_9_23 t8 t15 ?_
    refine B.iload 4 dX9_hour_133 rfl ?_
    obtain ⟨t16, h⟩ := h
    obtain ⟨j17, h⟩ := h
    obtain ⟨t18, h⟩ := h
    refine B.iaload dX9_hour_135 t16 t18 ?_
    refine B.bipush 20 dX9_hour_136 (by decide) ?_
    refine B.isub dX9_hour_138 ?_
    refine B.bipush 16 dX9_hour_139 (by decide) ?_
    refine B.idiv dX9_hour_141 (by decide) ?_
    refine B.isub dX9_hour_142 ?_
    refine B.iastore dX9_hour_143 t11 t13 ?_
    refine B.iinc (lv' := [(0, .ref r0), (1, .int x1), (2, .int x2), (3, .int x3), (4, .int (x4 + 1))]) 4 (x4 + 1) dX9_hour_144 rfl rfl (by decide) rfl ?_
    refine B.goto_ 112 dX9_hour_147 (by decide) ?_
    exact h
theorem s_X9_hour_169 {g : GT} {S : ST} {P : PT} {I : IT} {Q : QT} {r0 : Nat} {x1 : Int32} {x2 : Int32} {x3 : Int32} {x4 : Int32} (h : sT S r0 = 10 ∧ ∃ b2, P r0 0 = b2 + 1 ∧ sT S b2 = 40 ∧ ∃ j5, ix 1 j5 (sL S b2) ∧ (((I b2 j5) ≤ x4 → ∃ j8, ix 3 j8 (sL S b2) ∧ ∃ j10, ix 4 j10 (sL S b2) ∧ Q none S P (u2 (u2 I b2 j8 ((I b2 j8) + 1)) b2 j10 (((u2 I b2 j8 ((I b2 j8) + 1)) b2 j10) + x2))) ∧ (¬ (I b2 j5) ≤ x4 → ∃ j12, ix ((300 + (8 * x4)) + 4) j12 (sL S b2) ∧ (((I b2 j12) < 0 → B g MX9_hour 0 0 214 [(0, .ref r0), (1, .int x1), (2, .int x2), (3, .int x3), (4, .int x4)] [] S P I Q) ∧ (¬ (I b2 j12) < 0 → ∃ j15, ix ((300 + (8 * x4)) + 5) j15 (sL S b2) ∧ ((¬ (I b2 j15) = 0 → B g MX9_hour 0 0 214 [(0, .ref r0), (1, .int x1), (2, .int x2), (3, .int x3), (4, .int x4)] [] S P I Q) ∧ ((I b2 j15) = 0 → T g MX9_bakes 0 0 [.ref r0, .int x4, .int ((I b2 j12) / 4)] S P I (fun r S' P' I' => B g MX9_hour 0 0 214 [(0, .ref r0), (1, .int x1), (2, .int x2), (3, .int x3), (4, .int x4)] (r.toList ++ []) S' P' I' Q)))))))) : B g MX9_hour 0 0 169 [(0, .ref r0), (1, .int x1), (2, .int x2), (3, .int x3), (4, .int x4)] [] S P I Q := by
  refine B.iload 4 dX9_hour_169 rfl ?_
  refine B.aload_n 0 dX9_hour_171 rfl rfl ?_
  obtain ⟨t1, h⟩ := h
  obtain ⟨b2, h⟩ := h
  obtain ⟨t3, h⟩ := h
  refine B.getP dX9_hour_172 fl_9_7 t1 t3 ?_
  refine B.iconst 1 dX9_hour_175 (by decide) ?_
  obtain ⟨t4, h⟩ := h
  obtain ⟨j5, h⟩ := h
  obtain ⟨t6, h⟩ := h
  refine B.iaload dX9_hour_176 t4 t6 ?_
  refine B.icmp_ge 220 dX9_hour_177 (by decide) (fun q7 => ?_) (fun q7 => ?_)
  · replace h := h.1 q7
    refine B.aload_n 0 dX9_hour_220 rfl rfl ?_
    refine B.getP dX9_hour_221 fl_9_7 t1 t3 ?_
    refine B.iconst 3 dX9_hour_224 (by decide) ?_
    refine B.dup2 dX9_hour_225 rfl rfl ?_
    obtain ⟨j8, h⟩ := h
    obtain ⟨t9, h⟩ := h
    refine B.iaload dX9_hour_226 t4 t9 ?_
    refine B.iconst 1 dX9_hour_227 (by decide) ?_
    refine B.iadd dX9_hour_228 ?_
    refine B.iastore dX9_hour_229 t4 t9 ?_
    refine B.aload_n 0 dX9_hour_230 rfl rfl ?_
    refine B.getP dX9_hour_231 fl_9_7 t1 t3 ?_
    refine B.iconst 4 dX9_hour_234 (by decide) ?_
    refine B.dup2 dX9_hour_235 rfl rfl ?_
    obtain ⟨j10, h⟩ := h
    obtain ⟨t11, h⟩ := h
    refine B.iaload dX9_hour_236 t4 t11 ?_
    refine B.iload_n 2 dX9_hour_237 rfl rfl ?_
    refine B.iadd dX9_hour_238 ?_
    refine B.iastore dX9_hour_239 t4 t11 ?_
    refine B.return_ dX9_hour_240 rfl ?_
    exact h
  · replace h := h.2 q7
    refine B.aload_n 0 dX9_hour_180 rfl rfl ?_
    refine B.iload 4 dX9_hour_181 rfl ?_
    refine B.callV (M' := MX9_stands) (rc := 0) (rs := 0) (mc := 0) (ms := 0) (st := []) [.int x4] dX9_hour_183 mv_X9_stands lk_X9_134 ⟨Nat.le_of_ble_eq_true rfl, Nat.le_of_ble_eq_true rfl⟩ rfl rfl (Nat.le_of_ble_eq_true rfl) t1 ?_
    refine T_of rfl (Nat.le_of_ble_eq_true rfl) ?_
    show B g MX9_stands 0 0 0 [(0, .ref r0), (1, .int x4)] [] S P I _
    refine B.aload_n 0 dX9_stands_0 rfl rfl ?_
    refine B.iload_n 1 dX9_stands_1 rfl rfl ?_
    refine B.iconst 4 dX9_stands_2 (by decide) ?_
    refine B.callV (M' := MX9_its) (rc := 0) (rs := 0) (mc := 0) (ms := 0) (st := []) [.int x4, .int 4] dX9_stands_3 mv_X9_its lk_X9_130 ⟨Nat.le_of_ble_eq_true rfl, Nat.le_of_ble_eq_true rfl⟩ rfl rfl (Nat.le_of_ble_eq_true rfl) t1 ?_
    refine T_of rfl (Nat.le_of_ble_eq_true rfl) ?_
    show B g MX9_its 0 0 0 [(0, .ref r0), (1, .int x4), (2, .int 4)] [] S P I _
    refine B.aload_n 0 dX9_its_0 rfl rfl ?_
    refine B.getP dX9_its_1 fl_9_7 t1 t3 ?_
    refine B.sipush 300 dX9_its_4 (by decide) ?_
    refine B.bipush 8 dX9_its_7 (by decide) ?_
    refine B.iload_n 1 dX9_its_9 rfl rfl ?_
    refine B.imul dX9_its_10 ?_
    refine B.iadd dX9_its_11 ?_
    refine B.iload_n 2 dX9_its_12 rfl rfl ?_
    refine B.iadd dX9_its_13 ?_
    obtain ⟨j12, h⟩ := h
    obtain ⟨t13, h⟩ := h
    refine B.iaload dX9_its_14 t4 t13 ?_
    refine B.ireturn dX9_its_15 rfl rfl ?_
    show B g MX9_stands 0 0 6 [(0, .ref r0), (1, .int x4)] [.int (I b2 j12)] S P I _
    refine B.if_lt 13 dX9_stands_6 (by decide) (fun q14 => ?_) (fun q14 => ?_)
    · replace h := h.1 q14
      refine B.iconst 0 dX9_stands_13 (by decide) ?_
      refine B.ireturn dX9_stands_14 rfl rfl ?_
      show B g MX9_hour 0 0 186 [(0, .ref r0), (1, .int x1), (2, .int x2), (3, .int x3), (4, .int x4)] [.int 0] S P I _
      refine B.if_eq 214 dX9_hour_186 (by decide) (fun _ => ?_) (fun q => absurd q (by decide))
      exact h
    · replace h := h.2 q14
      refine B.iconst 1 dX9_stands_9 (by decide) ?_
      refine B.goto_ 14 dX9_stands_10 (by decide) ?_
      refine B.ireturn dX9_stands_14 rfl rfl ?_
      show B g MX9_hour 0 0 186 [(0, .ref r0), (1, .int x1), (2, .int x2), (3, .int x3), (4, .int x4)] [.int 1] S P I _
      refine B.if_eq 214 dX9_hour_186 (by decide) (fun q => absurd q (by decide)) (fun _ => ?_)
      refine B.aload_n 0 dX9_hour_189 rfl rfl ?_
      refine B.iload 4 dX9_hour_190 rfl ?_
      refine B.iconst 5 dX9_hour_192 (by decide) ?_
      refine B.callV (M' := MX9_its) (rc := 0) (rs := 0) (mc := 0) (ms := 0) (st := []) [.int x4, .int 5] dX9_hour_193 mv_X9_its lk_X9_130 ⟨Nat.le_of_ble_eq_true rfl, Nat.le_of_ble_eq_true rfl⟩ rfl rfl (Nat.le_of_ble_eq_true rfl) t1 ?_
      refine T_of rfl (Nat.le_of_ble_eq_true rfl) ?_
      show B g MX9_its 0 0 0 [(0, .ref r0), (1, .int x4), (2, .int 5)] [] S P I _
      refine B.aload_n 0 dX9_its_0 rfl rfl ?_
      refine B.getP dX9_its_1 fl_9_7 t1 t3 ?_
      refine B.sipush 300 dX9_its_4 (by decide) ?_
      refine B.bipush 8 dX9_its_7 (by decide) ?_
      refine B.iload_n 1 dX9_its_9 rfl rfl ?_
      refine B.imul dX9_its_10 ?_
      refine B.iadd dX9_its_11 ?_
      refine B.iload_n 2 dX9_its_12 rfl rfl ?_
      refine B.iadd dX9_its_13 ?_
      obtain ⟨j15, h⟩ := h
      obtain ⟨t16, h⟩ := h
      refine B.iaload dX9_its_14 t4 t16 ?_
      refine B.ireturn dX9_its_15 rfl rfl ?_
      show B g MX9_hour 0 0 196 [(0, .ref r0), (1, .int x1), (2, .int x2), (3, .int x3), (4, .int x4)] [.int (I b2 j15)] S P I _
      refine B.if_ne 214 dX9_hour_196 (by decide) (fun q17 => ?_) (fun q17 => ?_)
      · replace h := h.1 q17
        exact h
      · replace h := h.2 q17
        refine B.aload_n 0 dX9_hour_199 rfl rfl ?_
        refine B.iload 4 dX9_hour_200 rfl ?_
        refine B.aload_n 0 dX9_hour_202 rfl rfl ?_
        refine B.iload 4 dX9_hour_203 rfl ?_
        refine B.iconst 4 dX9_hour_205 (by decide) ?_
        refine B.callV (M' := MX9_its) (rc := 0) (rs := 0) (mc := 0) (ms := 0) (st := [.int x4, .ref r0]) [.int x4, .int 4] dX9_hour_206 mv_X9_its lk_X9_130 ⟨Nat.le_of_ble_eq_true rfl, Nat.le_of_ble_eq_true rfl⟩ rfl rfl (Nat.le_of_ble_eq_true rfl) t1 ?_
        refine T_of rfl (Nat.le_of_ble_eq_true rfl) ?_
        show B g MX9_its 0 0 0 [(0, .ref r0), (1, .int x4), (2, .int 4)] [] S P I _
        refine B.aload_n 0 dX9_its_0 rfl rfl ?_
        refine B.getP dX9_its_1 fl_9_7 t1 t3 ?_
        refine B.sipush 300 dX9_its_4 (by decide) ?_
        refine B.bipush 8 dX9_its_7 (by decide) ?_
        refine B.iload_n 1 dX9_its_9 rfl rfl ?_
        refine B.imul dX9_its_10 ?_
        refine B.iadd dX9_its_11 ?_
        refine B.iload_n 2 dX9_its_12 rfl rfl ?_
        refine B.iadd dX9_its_13 ?_
        refine B.iaload dX9_its_14 t4 t13 ?_
        refine B.ireturn dX9_its_15 rfl rfl ?_
        show B g MX9_hour 0 0 209 [(0, .ref r0), (1, .int x1), (2, .int x2), (3, .int x3), (4, .int x4)] [.int (I b2 j12), .int x4, .ref r0] S P I _
        refine B.iconst 4 dX9_hour_209 (by decide) ?_
        refine B.idiv dX9_hour_210 (by decide) ?_
        refine B.callV (M' := MX9_bakes) (rc := 0) (rs := 0) (mc := 0) (ms := 0) (st := []) [.int x4, .int ((I b2 j12) / 4)] dX9_hour_211 mv_X9_bakes lk_X9_172 ⟨Nat.le_of_ble_eq_true rfl, Nat.le_of_ble_eq_true rfl⟩ rfl rfl (Nat.le_of_ble_eq_true rfl) t1 ?_
        exact h
theorem s_X9_hour_214 {g : GT} {S : ST} {P : PT} {I : IT} {Q : QT} {r0 : Nat} {x1 : Int32} {x2 : Int32} {x3 : Int32} {x4 : Int32} (h : B g MX9_hour 0 0 169 [(0, .ref r0), (1, .int x1), (2, .int x2), (3, .int x3), (4, .int (x4 + 1))] [] S P I Q) : B g MX9_hour 0 0 214 [(0, .ref r0), (1, .int x1), (2, .int x2), (3, .int x3), (4, .int x4)] [] S P I Q := by
  refine B.iinc (lv' := [(0, .ref r0), (1, .int x1), (2, .int x2), (3, .int x3), (4, .int (x4 + 1))]) 4 (x4 + 1) dX9_hour_214 rfl rfl (by decide) rfl ?_
  refine B.goto_ 169 dX9_hour_217 (by decide) ?_
  exact h
theorem s_X9_gives_0 {g : GT} {S : ST} {P : PT} {I : IT} {Q : QT} {r0 : Nat} {x1 : Int32} (h : sT S r0 = 10 ∧ ∃ b2, P r0 0 = b2 + 1 ∧ sT S b2 = 40 ∧ ∃ j5, ix ((300 + (8 * x1)) + 0) j5 (sL S b2) ∧ ∃ j7, ix ((300 + (8 * x1)) + 1) j7 (sL S b2) ∧ ∃ j9, ix (40 + (2 * (I b2 j7))) j9 (sL S b2) ∧ ∃ j11, ix ((300 + (8 * x1)) + 5) j11 (sL S b2) ∧ ((¬ (I b2 j11) = 0 → T g MX9_customOf 0 0 [.ref r0, .int x1] S P I (fun r S' P' I' => B g MX9_gives 0 0 66 [(0, .ref r0), (1, .int x1), (2, .int (I b2 j5)), (3, .int (I b2 j9))] (r.toList ++ [.int (I b2 j9)]) S' P' I' Q)) ∧ ((I b2 j11) = 0 → T g MX9_isRipe 0 0 [.ref r0, .int x1] S P I (fun r S' P' I' => B g MX9_gives 0 0 41 [(0, .ref r0), (1, .int x1), (2, .int (I b2 j5)), (3, .int (I b2 j9))] (r.toList ++ [.int 0, .int (I b2 j5), .ref r0]) S' P' I' Q)))) : B g MX9_gives 0 0 0 [(0, .ref r0), (1, .int x1)] [] S P I Q := by
  refine B.aload_n 0 dX9_gives_0 rfl rfl ?_
  refine B.iload_n 1 dX9_gives_1 rfl rfl ?_
  refine B.iconst 0 dX9_gives_2 (by decide) ?_
  obtain ⟨t1, h⟩ := h
  refine B.callV (M' := MX9_its) (rc := 0) (rs := 0) (mc := 0) (ms := 0) (st := []) [.int x1, .int 0] dX9_gives_3 mv_X9_its lk_X9_130 ⟨Nat.le_of_ble_eq_true rfl, Nat.le_of_ble_eq_true rfl⟩ rfl rfl (Nat.le_of_ble_eq_true rfl) t1 ?_
  refine T_of rfl (Nat.le_of_ble_eq_true rfl) ?_
  show B g MX9_its 0 0 0 [(0, .ref r0), (1, .int x1), (2, .int 0)] [] S P I _
  refine B.aload_n 0 dX9_its_0 rfl rfl ?_
  obtain ⟨b2, h⟩ := h
  obtain ⟨t3, h⟩ := h
  refine B.getP dX9_its_1 fl_9_7 t1 t3 ?_
  refine B.sipush 300 dX9_its_4 (by decide) ?_
  refine B.bipush 8 dX9_its_7 (by decide) ?_
  refine B.iload_n 1 dX9_its_9 rfl rfl ?_
  refine B.imul dX9_its_10 ?_
  refine B.iadd dX9_its_11 ?_
  refine B.iload_n 2 dX9_its_12 rfl rfl ?_
  refine B.iadd dX9_its_13 ?_
  obtain ⟨t4, h⟩ := h
  obtain ⟨j5, h⟩ := h
  obtain ⟨t6, h⟩ := h
  refine B.iaload dX9_its_14 t4 t6 ?_
  refine B.ireturn dX9_its_15 rfl rfl ?_
  show B g MX9_gives 0 0 6 [(0, .ref r0), (1, .int x1)] [.int (I b2 j5)] S P I _
  refine B.istore_n (lv' := [(0, .ref r0), (1, .int x1), (2, .int (I b2 j5))]) dX9_gives_6 rfl (by decide) rfl ?_
  refine B.aload_n 0 dX9_gives_7 rfl rfl ?_
  refine B.getP dX9_gives_8 fl_9_7 t1 t3 ?_
  refine B.bipush 40 dX9_gives_11 (by decide) ?_
  refine B.iconst 2 dX9_gives_13 (by decide) ?_
  refine B.aload_n 0 dX9_gives_14 rfl rfl ?_
  refine B.iload_n 1 dX9_gives_15 rfl rfl ?_
  refine B.iconst 1 dX9_gives_16 (by decide) ?_
  refine B.callV (M' := MX9_its) (rc := 0) (rs := 0) (mc := 0) (ms := 0) (st := [.int 2, .int 40, .ref b2]) [.int x1, .int 1] dX9_gives_17 mv_X9_its lk_X9_130 ⟨Nat.le_of_ble_eq_true rfl, Nat.le_of_ble_eq_true rfl⟩ rfl rfl (Nat.le_of_ble_eq_true rfl) t1 ?_
  refine T_of rfl (Nat.le_of_ble_eq_true rfl) ?_
  show B g MX9_its 0 0 0 [(0, .ref r0), (1, .int x1), (2, .int 1)] [] S P I _
  refine B.aload_n 0 dX9_its_0 rfl rfl ?_
  refine B.getP dX9_its_1 fl_9_7 t1 t3 ?_
  refine B.sipush 300 dX9_its_4 (by decide) ?_
  refine B.bipush 8 dX9_its_7 (by decide) ?_
  refine B.iload_n 1 dX9_its_9 rfl rfl ?_
  refine B.imul dX9_its_10 ?_
  refine B.iadd dX9_its_11 ?_
  refine B.iload_n 2 dX9_its_12 rfl rfl ?_
  refine B.iadd dX9_its_13 ?_
  obtain ⟨j7, h⟩ := h
  obtain ⟨t8, h⟩ := h
  refine B.iaload dX9_its_14 t4 t8 ?_
  refine B.ireturn dX9_its_15 rfl rfl ?_
  show B g MX9_gives 0 0 20 [(0, .ref r0), (1, .int x1), (2, .int (I b2 j5))] [.int (I b2 j7), .int 2, .int 40, .ref b2] S P I _
  refine B.imul dX9_gives_20 ?_
  refine B.iadd dX9_gives_21 ?_
  obtain ⟨j9, h⟩ := h
  obtain ⟨t10, h⟩ := h
  refine B.iaload dX9_gives_22 t4 t10 ?_
  refine B.istore_n (lv' := [(0, .ref r0), (1, .int x1), (2, .int (I b2 j5)), (3, .int (I b2 j9))]) dX9_gives_23 rfl (by decide) rfl ?_
  refine B.aload_n 0 dX9_gives_24 rfl rfl ?_
  refine B.iload_n 1 dX9_gives_25 rfl rfl ?_
  refine B.iconst 5 dX9_gives_26 (by decide) ?_
  refine B.callV (M' := MX9_its) (rc := 0) (rs := 0) (mc := 0) (ms := 0) (st := []) [.int x1, .int 5] dX9_gives_27 mv_X9_its lk_X9_130 ⟨Nat.le_of_ble_eq_true rfl, Nat.le_of_ble_eq_true rfl⟩ rfl rfl (Nat.le_of_ble_eq_true rfl) t1 ?_
  refine T_of rfl (Nat.le_of_ble_eq_true rfl) ?_
  show B g MX9_its 0 0 0 [(0, .ref r0), (1, .int x1), (2, .int 5)] [] S P I _
  refine B.aload_n 0 dX9_its_0 rfl rfl ?_
  refine B.getP dX9_its_1 fl_9_7 t1 t3 ?_
  refine B.sipush 300 dX9_its_4 (by decide) ?_
  refine B.bipush 8 dX9_its_7 (by decide) ?_
  refine B.iload_n 1 dX9_its_9 rfl rfl ?_
  refine B.imul dX9_its_10 ?_
  refine B.iadd dX9_its_11 ?_
  refine B.iload_n 2 dX9_its_12 rfl rfl ?_
  refine B.iadd dX9_its_13 ?_
  obtain ⟨j11, h⟩ := h
  obtain ⟨t12, h⟩ := h
  refine B.iaload dX9_its_14 t4 t12 ?_
  refine B.ireturn dX9_its_15 rfl rfl ?_
  show B g MX9_gives 0 0 30 [(0, .ref r0), (1, .int x1), (2, .int (I b2 j5)), (3, .int (I b2 j9))] [.int (I b2 j11)] S P I _
  refine B.if_ne 60 dX9_gives_30 (by decide) (fun q13 => ?_) (fun q13 => ?_)
  · replace h := h.1 q13
    refine B.iload_n 3 dX9_gives_60 rfl rfl ?_
    refine B.aload_n 0 dX9_gives_61 rfl rfl ?_
    refine B.iload_n 1 dX9_gives_62 rfl rfl ?_
    refine B.callV (M' := MX9_customOf) (rc := 0) (rs := 0) (mc := 0) (ms := 0) (st := [.int (I b2 j9)]) [.int x1] dX9_gives_63 mv_X9_customOf lk_X9_187 ⟨Nat.le_of_ble_eq_true rfl, Nat.le_of_ble_eq_true rfl⟩ rfl rfl (Nat.le_of_ble_eq_true rfl) t1 ?_
    exact h
  · replace h := h.2 q13
    refine B.aload_n 0 dX9_gives_33 rfl rfl ?_
    refine B.iload_n 2 dX9_gives_34 rfl rfl ?_
    refine B.iconst 0 dX9_gives_35 (by decide) ?_
    refine B.aload_n 0 dX9_gives_36 rfl rfl ?_
    refine B.iload_n 1 dX9_gives_37 rfl rfl ?_
    refine B.callV (M' := MX9_isRipe) (rc := 0) (rs := 0) (mc := 0) (ms := 0) (st := [.int 0, .int (I b2 j5), .ref r0]) [.int x1] dX9_gives_38 mv_X9_isRipe lk_X9_184 ⟨Nat.le_of_ble_eq_true rfl, Nat.le_of_ble_eq_true rfl⟩ rfl rfl (Nat.le_of_ble_eq_true rfl) t1 ?_
    exact h
theorem s_X9_gives_41 {g : GT} {S : ST} {P : PT} {I : IT} {Q : QT} {r0 : Nat} {x1 : Int32} {x2 : Int32} {x3 : Int32} {w_s0 : Int32} {w_s1 : Int32} {w_s2 : Int32} {a_s3 : Nat} (h : ((w_s0 = 0 → sT S a_s3 = 10 ∧ ∃ b3, P a_s3 0 = b3 + 1 ∧ sT S b3 = 40 ∧ ∃ j6, ix ((60 + (30 * w_s2)) + w_s1) j6 (sL S b3) ∧ sT S r0 = 10 ∧ T g MX9_isRipe 0 0 [.ref r0, .int x1] S P (u2 I b3 j6 ((I b3 j6) + (x3 / 2))) (fun r S' P' I' => B g MX9_gives 0 0 59 [(0, .ref r0), (1, .int x1), (2, .int x2), (3, .int x3)] (r.toList ++ []) S' P' I' Q)) ∧ (¬ w_s0 = 0 → sT S a_s3 = 10 ∧ ∃ b10, P a_s3 0 = b10 + 1 ∧ sT S b10 = 40 ∧ ∃ j13, ix ((60 + (30 * w_s2)) + w_s1) j13 (sL S b10) ∧ sT S r0 = 10 ∧ T g MX9_isRipe 0 0 [.ref r0, .int x1] S P (u2 I b10 j13 ((I b10 j13) + x3)) (fun r S' P' I' => B g MX9_gives 0 0 59 [(0, .ref r0), (1, .int x1), (2, .int x2), (3, .int x3)] (r.toList ++ []) S' P' I' Q)))) : B g MX9_gives 0 0 41 [(0, .ref r0), (1, .int x1), (2, .int x2), (3, .int x3)] [.int w_s0, .int w_s1, .int w_s2, .ref a_s3] S P I Q := by
  refine B.if_eq 48 dX9_gives_41 (by decide) (fun q1 => ?_) (fun q1 => ?_)
  · replace h := h.1 q1
    refine B.iload_n 3 dX9_gives_48 rfl rfl ?_
    refine B.iconst 2 dX9_gives_49 (by decide) ?_
    refine B.idiv dX9_gives_50 (by decide) ?_
    obtain ⟨t2, h⟩ := h
    refine B.callV (M' := MX9_adds) (rc := 0) (rs := 0) (mc := 0) (ms := 0) (st := []) [.int w_s2, .int w_s1, .int (x3 / 2)] dX9_gives_51 mv_X9_adds lk_X9_169 ⟨Nat.le_of_ble_eq_true rfl, Nat.le_of_ble_eq_true rfl⟩ rfl rfl (Nat.le_of_ble_eq_true rfl) t2 ?_
    refine T_of rfl (Nat.le_of_ble_eq_true rfl) ?_
    show B g MX9_adds 0 0 0 [(0, .ref a_s3), (1, .int w_s2), (2, .int w_s1), (3, .int (x3 / 2))] [] S P I _
    refine B.aload_n 0 dX9_adds_0 rfl rfl ?_
    obtain ⟨b3, h⟩ := h
    obtain ⟨t4, h⟩ := h
    refine B.getP dX9_adds_1 fl_9_7 t2 t4 ?_
    refine B.bipush 60 dX9_adds_4 (by decide) ?_
    refine B.bipush 30 dX9_adds_6 (by decide) ?_
    refine B.iload_n 1 dX9_adds_8 rfl rfl ?_
    refine B.imul dX9_adds_9 ?_
    refine B.iadd dX9_adds_10 ?_
    refine B.iload_n 2 dX9_adds_11 rfl rfl ?_
    refine B.iadd dX9_adds_12 ?_
    refine B.dup2 dX9_adds_13 rfl rfl ?_
    obtain ⟨t5, h⟩ := h
    obtain ⟨j6, h⟩ := h
    obtain ⟨t7, h⟩ := h
    refine B.iaload dX9_adds_14 t5 t7 ?_
    refine B.iload_n 3 dX9_adds_15 rfl rfl ?_
    refine B.iadd dX9_adds_16 ?_
    refine B.iastore dX9_adds_17 t5 t7 ?_
    refine B.return_ dX9_adds_18 rfl ?_
    show B g MX9_gives 0 0 54 [(0, .ref r0), (1, .int x1), (2, .int x2), (3, .int x3)] [] S P (u2 I b3 j6 ((I b3 j6) + (x3 / 2))) _
    refine B.aload_n 0 dX9_gives_54 rfl rfl ?_
    refine B.iload_n 1 dX9_gives_55 rfl rfl ?_
    obtain ⟨t8, h⟩ := h
    refine B.callV (M' := MX9_isRipe) (rc := 0) (rs := 0) (mc := 0) (ms := 0) (st := []) [.int x1] dX9_gives_56 mv_X9_isRipe lk_X9_184 ⟨Nat.le_of_ble_eq_true rfl, Nat.le_of_ble_eq_true rfl⟩ rfl rfl (Nat.le_of_ble_eq_true rfl) t8 ?_
    exact h
  · replace h := h.2 q1
    refine B.iload_n 3 dX9_gives_44 rfl rfl ?_
    refine B.goto_ 51 dX9_gives_45 (by decide) ?_
    obtain ⟨t9, h⟩ := h
    refine B.callV (M' := MX9_adds) (rc := 0) (rs := 0) (mc := 0) (ms := 0) (st := []) [.int w_s2, .int w_s1, .int x3] dX9_gives_51 mv_X9_adds lk_X9_169 ⟨Nat.le_of_ble_eq_true rfl, Nat.le_of_ble_eq_true rfl⟩ rfl rfl (Nat.le_of_ble_eq_true rfl) t9 ?_
    refine T_of rfl (Nat.le_of_ble_eq_true rfl) ?_
    show B g MX9_adds 0 0 0 [(0, .ref a_s3), (1, .int w_s2), (2, .int w_s1), (3, .int x3)] [] S P I _
    refine B.aload_n 0 dX9_adds_0 rfl rfl ?_
    obtain ⟨b10, h⟩ := h
    obtain ⟨t11, h⟩ := h
    refine B.getP dX9_adds_1 fl_9_7 t9 t11 ?_
    refine B.bipush 60 dX9_adds_4 (by decide) ?_
    refine B.bipush 30 dX9_adds_6 (by decide) ?_
    refine B.iload_n 1 dX9_adds_8 rfl rfl ?_
    refine B.imul dX9_adds_9 ?_
    refine B.iadd dX9_adds_10 ?_
    refine B.iload_n 2 dX9_adds_11 rfl rfl ?_
    refine B.iadd dX9_adds_12 ?_
    refine B.dup2 dX9_adds_13 rfl rfl ?_
    obtain ⟨t12, h⟩ := h
    obtain ⟨j13, h⟩ := h
    obtain ⟨t14, h⟩ := h
    refine B.iaload dX9_adds_14 t12 t14 ?_
    refine B.iload_n 3 dX9_adds_15 rfl rfl ?_
    refine B.iadd dX9_adds_16 ?_
    refine B.iastore dX9_adds_17 t12 t14 ?_
    refine B.return_ dX9_adds_18 rfl ?_
    show B g MX9_gives 0 0 54 [(0, .ref r0), (1, .int x1), (2, .int x2), (3, .int x3)] [] S P (u2 I b10 j13 ((I b10 j13) + x3)) _
    refine B.aload_n 0 dX9_gives_54 rfl rfl ?_
    refine B.iload_n 1 dX9_gives_55 rfl rfl ?_
    obtain ⟨t15, h⟩ := h
    refine B.callV (M' := MX9_isRipe) (rc := 0) (rs := 0) (mc := 0) (ms := 0) (st := []) [.int x1] dX9_gives_56 mv_X9_isRipe lk_X9_184 ⟨Nat.le_of_ble_eq_true rfl, Nat.le_of_ble_eq_true rfl⟩ rfl rfl (Nat.le_of_ble_eq_true rfl) t15 ?_
    exact h
theorem s_X9_gives_59 {g : GT} {S : ST} {P : PT} {I : IT} {Q : QT} {r0 : Nat} {x1 : Int32} {x2 : Int32} {x3 : Int32} {w_s0 : Int32} (h : (w_s0 = 0 ∨ w_s0 = 1) ∧ Q (some (.int w_s0)) S P I) : B g MX9_gives 0 0 59 [(0, .ref r0), (1, .int x1), (2, .int x2), (3, .int x3)] [.int w_s0] S P I Q := by
  obtain ⟨t1, h⟩ := h
  refine B.ireturn dX9_gives_59 rfl (nar_z t1) ?_
  exact h
theorem s_X9_gives_66 {g : GT} {S : ST} {P : PT} {I : IT} {Q : QT} {r0 : Nat} {x1 : Int32} {x2 : Int32} {x3 : Int32} {w_s0 : Int32} {w_s1 : Int32} (h : sT S r0 = 10 ∧ ∃ b2, P r0 0 = b2 + 1 ∧ sT S b2 = 40 ∧ ∃ j5, ix 0 j5 (sL S b2) ∧ ¬ (I b2 j5) = 0 ∧ B g MX9_gives 0 0 82 [(0, .ref r0), (1, .int x1), (2, .int x2), (3, .int x3), (4, .int (((w_s1 * w_s0) / 100) / (I b2 j5))), (5, .int 0)] [] S P I Q) : B g MX9_gives 0 0 66 [(0, .ref r0), (1, .int x1), (2, .int x2), (3, .int x3)] [.int w_s0, .int w_s1] S P I Q := by
  refine B.imul dX9_gives_66 ?_
  refine B.bipush 100 dX9_gives_67 (by decide) ?_
  refine B.idiv dX9_gives_69 (by decide) ?_
  refine B.aload_n 0 dX9_gives_70 rfl rfl ?_
  obtain ⟨t1, h⟩ := h
  obtain ⟨b2, h⟩ := h
  obtain ⟨t3, h⟩ := h
  refine B.getP dX9_gives_71 fl_9_7 t1 t3 ?_
  refine B.iconst 0 dX9_gives_74 (by decide) ?_
  obtain ⟨t4, h⟩ := h
  obtain ⟨j5, h⟩ := h
  obtain ⟨t6, h⟩ := h
  refine B.iaload dX9_gives_75 t4 t6 ?_
  obtain ⟨t7, h⟩ := h
  refine B.idiv dX9_gives_76 t7 ?_
  refine B.istore (lv' := [(0, .ref r0), (1, .int x1), (2, .int x2), (3, .int x3), (4, .int (((w_s1 * w_s0) / 100) / (I b2 j5)))]) dX9_gives_77 (by decide) rfl ?_
  refine B.iconst 0 dX9_gives_79 (by decide) ?_
  refine B.istore (lv' := [(0, .ref r0), (1, .int x1), (2, .int x2), (3, .int x3), (4, .int (((w_s1 * w_s0) / 100) / (I b2 j5))), (5, .int 0)]) dX9_gives_80 (by decide) rfl ?_
  exact h
theorem s_X9_gives_82 {g : GT} {S : ST} {P : PT} {I : IT} {Q : QT} {r0 : Nat} {x1 : Int32} {x2 : Int32} {x3 : Int32} {x4 : Int32} {x5 : Int32} (h : sT S r0 = 10 ∧ ∃ b2, P r0 0 = b2 + 1 ∧ sT S b2 = 40 ∧ ∃ j5, ix 0 j5 (sL S b2) ∧ (((I b2 j5) ≤ x5 → ∃ j8, ix ((60 + (30 * x2)) + 0) j8 (sL S b2) ∧ ∃ j10, ix ((60 + (30 * x2)) + 3) j10 (sL S b2) ∧ Q (some (.int 0)) S P (u2 (u2 I b2 j8 ((I b2 j8) + (x4 * (I b2 j5)))) b2 j10 (((u2 I b2 j8 ((I b2 j8) + (x4 * (I b2 j5)))) b2 j10) + 1))) ∧ (¬ (I b2 j5) ≤ x5 → ∃ j12, ix ((60 + (30 * x5)) + 0) j12 (sL S b2) ∧ B g MX9_gives 0 0 82 [(0, .ref r0), (1, .int x1), (2, .int x2), (3, .int x3), (4, .int x4), (5, .int (x5 + 1))] [] S P (u2 I b2 j12 ((I b2 j12) + (-x4))) Q))) : B g MX9_gives 0 0 82 [(0, .ref r0), (1, .int x1), (2, .int x2), (3, .int x3), (4, .int x4), (5, .int x5)] [] S P I Q := by
  refine B.iload 5 dX9_gives_82 rfl ?_
  refine B.aload_n 0 dX9_gives_84 rfl rfl ?_
  obtain ⟨t1, h⟩ := h
  obtain ⟨b2, h⟩ := h
  obtain ⟨t3, h⟩ := h
  refine B.getP dX9_gives_85 fl_9_7 t1 t3 ?_
  refine B.iconst 0 dX9_gives_88 (by decide) ?_
  obtain ⟨t4, h⟩ := h
  obtain ⟨j5, h⟩ := h
  obtain ⟨t6, h⟩ := h
  refine B.iaload dX9_gives_89 t4 t6 ?_
  refine B.icmp_ge 109 dX9_gives_90 (by decide) (fun q7 => ?_) (fun q7 => ?_)
  · replace h := h.1 q7
    refine B.aload_n 0 dX9_gives_109 rfl rfl ?_
    refine B.iload_n 2 dX9_gives_110 rfl rfl ?_
    refine B.iconst 0 dX9_gives_111 (by decide) ?_
    refine B.iload 4 dX9_gives_112 rfl ?_
    refine B.aload_n 0 dX9_gives_114 rfl rfl ?_
    refine B.getP dX9_gives_115 fl_9_7 t1 t3 ?_
    refine B.iconst 0 dX9_gives_118 (by decide) ?_
    refine B.iaload dX9_gives_119 t4 t6 ?_
    refine B.imul dX9_gives_120 ?_
    refine B.callV (M' := MX9_adds) (rc := 0) (rs := 0) (mc := 0) (ms := 0) (st := []) [.int x2, .int 0, .int (x4 * (I b2 j5))] dX9_gives_121 mv_X9_adds lk_X9_169 ⟨Nat.le_of_ble_eq_true rfl, Nat.le_of_ble_eq_true rfl⟩ rfl rfl (Nat.le_of_ble_eq_true rfl) t1 ?_
    refine T_of rfl (Nat.le_of_ble_eq_true rfl) ?_
    show B g MX9_adds 0 0 0 [(0, .ref r0), (1, .int x2), (2, .int 0), (3, .int (x4 * (I b2 j5)))] [] S P I _
    refine B.aload_n 0 dX9_adds_0 rfl rfl ?_
    refine B.getP dX9_adds_1 fl_9_7 t1 t3 ?_
    refine B.bipush 60 dX9_adds_4 (by decide) ?_
    refine B.bipush 30 dX9_adds_6 (by decide) ?_
    refine B.iload_n 1 dX9_adds_8 rfl rfl ?_
    refine B.imul dX9_adds_9 ?_
    refine B.iadd dX9_adds_10 ?_
    refine B.iload_n 2 dX9_adds_11 rfl rfl ?_
    refine B.iadd dX9_adds_12 ?_
    refine B.dup2 dX9_adds_13 rfl rfl ?_
    obtain ⟨j8, h⟩ := h
    obtain ⟨t9, h⟩ := h
    refine B.iaload dX9_adds_14 t4 t9 ?_
    refine B.iload_n 3 dX9_adds_15 rfl rfl ?_
    refine B.iadd dX9_adds_16 ?_
    refine B.iastore dX9_adds_17 t4 t9 ?_
    refine B.return_ dX9_adds_18 rfl ?_
    show B g MX9_gives 0 0 124 [(0, .ref r0), (1, .int x1), (2, .int x2), (3, .int x3), (4, .int x4), (5, .int x5)] [] S P (u2 I b2 j8 ((I b2 j8) + (x4 * (I b2 j5)))) _
    refine B.aload_n 0 dX9_gives_124 rfl rfl ?_
    refine B.iload_n 2 dX9_gives_125 rfl rfl ?_
    refine B.iconst 3 dX9_gives_126 (by decide) ?_
    refine B.iconst 1 dX9_gives_127 (by decide) ?_
    refine B.callV (M' := MX9_adds) (rc := 0) (rs := 0) (mc := 0) (ms := 0) (st := []) [.int x2, .int 3, .int 1] dX9_gives_128 mv_X9_adds lk_X9_169 ⟨Nat.le_of_ble_eq_true rfl, Nat.le_of_ble_eq_true rfl⟩ rfl rfl (Nat.le_of_ble_eq_true rfl) t1 ?_
    refine T_of rfl (Nat.le_of_ble_eq_true rfl) ?_
    show B g MX9_adds 0 0 0 [(0, .ref r0), (1, .int x2), (2, .int 3), (3, .int 1)] [] S P (u2 I b2 j8 ((I b2 j8) + (x4 * (I b2 j5)))) _
    refine B.aload_n 0 dX9_adds_0 rfl rfl ?_
    refine B.getP dX9_adds_1 fl_9_7 t1 t3 ?_
    refine B.bipush 60 dX9_adds_4 (by decide) ?_
    refine B.bipush 30 dX9_adds_6 (by decide) ?_
    refine B.iload_n 1 dX9_adds_8 rfl rfl ?_
    refine B.imul dX9_adds_9 ?_
    refine B.iadd dX9_adds_10 ?_
    refine B.iload_n 2 dX9_adds_11 rfl rfl ?_
    refine B.iadd dX9_adds_12 ?_
    refine B.dup2 dX9_adds_13 rfl rfl ?_
    obtain ⟨j10, h⟩ := h
    obtain ⟨t11, h⟩ := h
    refine B.iaload dX9_adds_14 t4 t11 ?_
    refine B.iload_n 3 dX9_adds_15 rfl rfl ?_
    refine B.iadd dX9_adds_16 ?_
    refine B.iastore dX9_adds_17 t4 t11 ?_
    refine B.return_ dX9_adds_18 rfl ?_
    show B g MX9_gives 0 0 131 [(0, .ref r0), (1, .int x1), (2, .int x2), (3, .int x3), (4, .int x4), (5, .int x5)] [] S P (u2 (u2 I b2 j8 ((I b2 j8) + (x4 * (I b2 j5)))) b2 j10 (((u2 I b2 j8 ((I b2 j8) + (x4 * (I b2 j5)))) b2 j10) + 1)) _
    refine B.iconst 0 dX9_gives_131 (by decide) ?_
    refine B.ireturn dX9_gives_132 rfl rfl ?_
    exact h
  · replace h := h.2 q7
    refine B.aload_n 0 dX9_gives_93 rfl rfl ?_
    refine B.iload 5 dX9_gives_94 rfl ?_
    refine B.iconst 0 dX9_gives_96 (by decide) ?_
    refine B.iload 4 dX9_gives_97 rfl ?_
    refine B.ineg dX9_gives_99 ?_
    refine B.callV (M' := MX9_adds) (rc := 0) (rs := 0) (mc := 0) (ms := 0) (st := []) [.int x5, .int 0, .int (-x4)] dX9_gives_100 mv_X9_adds lk_X9_169 ⟨Nat.le_of_ble_eq_true rfl, Nat.le_of_ble_eq_true rfl⟩ rfl rfl (Nat.le_of_ble_eq_true rfl) t1 ?_
    refine T_of rfl (Nat.le_of_ble_eq_true rfl) ?_
    show B g MX9_adds 0 0 0 [(0, .ref r0), (1, .int x5), (2, .int 0), (3, .int (-x4))] [] S P I _
    refine B.aload_n 0 dX9_adds_0 rfl rfl ?_
    refine B.getP dX9_adds_1 fl_9_7 t1 t3 ?_
    refine B.bipush 60 dX9_adds_4 (by decide) ?_
    refine B.bipush 30 dX9_adds_6 (by decide) ?_
    refine B.iload_n 1 dX9_adds_8 rfl rfl ?_
    refine B.imul dX9_adds_9 ?_
    refine B.iadd dX9_adds_10 ?_
    refine B.iload_n 2 dX9_adds_11 rfl rfl ?_
    refine B.iadd dX9_adds_12 ?_
    refine B.dup2 dX9_adds_13 rfl rfl ?_
    obtain ⟨j12, h⟩ := h
    obtain ⟨t13, h⟩ := h
    refine B.iaload dX9_adds_14 t4 t13 ?_
    refine B.iload_n 3 dX9_adds_15 rfl rfl ?_
    refine B.iadd dX9_adds_16 ?_
    refine B.iastore dX9_adds_17 t4 t13 ?_
    refine B.return_ dX9_adds_18 rfl ?_
    show B g MX9_gives 0 0 103 [(0, .ref r0), (1, .int x1), (2, .int x2), (3, .int x3), (4, .int x4), (5, .int x5)] [] S P (u2 I b2 j12 ((I b2 j12) + (-x4))) _
    refine B.iinc (lv' := [(0, .ref r0), (1, .int x1), (2, .int x2), (3, .int x3), (4, .int x4), (5, .int (x5 + 1))]) 5 (x5 + 1) dX9_gives_103 rfl rfl (by decide) rfl ?_
    refine B.goto_ 82 dX9_gives_106 (by decide) ?_
    exact h
theorem s_X9_about_0 {g : GT} {S : ST} {P : PT} {I : IT} {Q : QT} {r0 : Nat} {x1 : Int32} {x2 : Int32} (h : sT S r0 = 10 ∧ ∃ b2, P r0 0 = b2 + 1 ∧ sT S b2 = 40 ∧ ∃ j5, ix 1 j5 (sL S b2) ∧ ((¬ (wi x1 0 ((I b2 j5) - 1)) = 0 → ((x2 = 0 → ∃ j9, ix ((300 + (8 * x1)) + x2) j9 (sL S b2) ∧ Q (some (.int (I b2 j9))) S P I) ∧ (x2 = 1 → ∃ j11, ix ((300 + (8 * x1)) + x2) j11 (sL S b2) ∧ Q (some (.int (I b2 j11))) S P I) ∧ (x2 = 2 → ∃ j13, ix ((300 + (8 * x1)) + x2) j13 (sL S b2) ∧ Q (some (.int (I b2 j13))) S P I) ∧ (x2 = 3 → ∃ j15, ix ((300 + (8 * x1)) + x2) j15 (sL S b2) ∧ Q (some (.int (I b2 j15))) S P I) ∧ (x2 = 4 → ∃ j17, ix ((300 + (8 * x1)) + 4) j17 (sL S b2) ∧ (((I b2 j17) < 0 → Q (some (.int (-1))) S P I) ∧ (¬ (I b2 j17) < 0 → Q (some (.int ((I b2 j17) / 4))) S P I))) ∧ (x2 = 5 → ∃ j20, ix ((300 + (8 * x1)) + 4) j20 (sL S b2) ∧ (((I b2 j20) < 0 → Q (some (.int (-1))) S P I) ∧ (¬ (I b2 j20) < 0 → Q (some (.int ((I b2 j20) - ((I b2 j20) / 4) * 4))) S P I))) ∧ (x2 = 6 → ∃ j23, ix ((300 + (8 * x1)) + 5) j23 (sL S b2) ∧ Q (some (.int (I b2 j23))) S P I) ∧ (x2 = 7 → ∃ j25, ix ((300 + (8 * x1)) + 6) j25 (sL S b2) ∧ Q (some (.int (I b2 j25))) S P I) ∧ (x2 = 8 → T g MX9_customOf 0 0 [.ref r0, .int x1] S P I (fun r S' P' I' => B g MX9_about 0 0 137 [(0, .ref r0), (1, .int x1), (2, .int x2)] (r.toList ++ []) S' P' I' Q)) ∧ (¬ x2 = 0 → ¬ x2 = 1 → ¬ x2 = 2 → ¬ x2 = 3 → ¬ x2 = 4 → ¬ x2 = 5 → ¬ x2 = 6 → ¬ x2 = 7 → ¬ x2 = 8 → Q (some (.int (-1))) S P I))) ∧ ((wi x1 0 ((I b2 j5) - 1)) = 0 → Q (some (.int (-1))) S P I))) : B g MX9_about 0 0 0 [(0, .ref r0), (1, .int x1), (2, .int x2)] [] S P I Q := by
  refine B.iload_n 1 dX9_about_0 rfl rfl ?_
  refine B.iconst 0 dX9_about_1 (by decide) ?_
  refine B.aload_n 0 dX9_about_2 rfl rfl ?_
  obtain ⟨t1, h⟩ := h
  obtain ⟨b2, h⟩ := h
  obtain ⟨t3, h⟩ := h
  refine B.getP dX9_about_3 fl_9_7 t1 t3 ?_
  refine B.iconst 1 dX9_about_6 (by decide) ?_
  obtain ⟨t4, h⟩ := h
  obtain ⟨j5, h⟩ := h
  obtain ⟨t6, h⟩ := h
  refine B.iaload dX9_about_7 t4 t6 ?_
  refine B.iconst 1 dX9_about_8 (by decide) ?_
  refine B.isub dX9_about_9 ?_
  refine B.callS (M' := MX9_isIn) (rc := 0) (rs := 0) (mc := 0) (ms := 0) (st := []) [.int x1, .int 0, .int ((I b2 j5) - 1)] dX9_about_10 ms_X9_isIn lk_X9_103 ⟨Nat.le_of_ble_eq_true rfl, Nat.le_of_ble_eq_true rfl⟩ rfl rfl (Nat.le_of_ble_eq_true rfl) (t_isIn ?_)
  show B g MX9_about 0 0 13 [(0, .ref r0), (1, .int x1), (2, .int x2)] [.int (wi x1 0 ((I b2 j5) - 1))] S P I _
  refine B.if_ne 18 dX9_about_13 (by decide) (fun q7 => ?_) (fun q7 => ?_)
  · replace h := h.1 q7
    refine B.iload_n 2 dX9_about_18 rfl rfl ?_
    rcases Decidable.em (x2 = 0) with q8 | q8_0
    · replace h := h.1 q8
      refine B.tableIn 68 dX9_about_19 (by rw [q8]; decide) (by rw [q8]; decide) (by rw [q8]; rfl) (by decide) ?_
      refine B.aload_n 0 dX9_about_68 rfl rfl ?_
      refine B.iload_n 1 dX9_about_69 rfl rfl ?_
      refine B.iload_n 2 dX9_about_70 rfl rfl ?_
      refine B.callV (M' := MX9_its) (rc := 0) (rs := 0) (mc := 0) (ms := 0) (st := []) [.int x1, .int x2] dX9_about_71 mv_X9_its lk_X9_130 ⟨Nat.le_of_ble_eq_true rfl, Nat.le_of_ble_eq_true rfl⟩ rfl rfl (Nat.le_of_ble_eq_true rfl) t1 ?_
      refine T_of rfl (Nat.le_of_ble_eq_true rfl) ?_
      show B g MX9_its 0 0 0 [(0, .ref r0), (1, .int x1), (2, .int x2)] [] S P I _
      refine B.aload_n 0 dX9_its_0 rfl rfl ?_
      refine B.getP dX9_its_1 fl_9_7 t1 t3 ?_
      refine B.sipush 300 dX9_its_4 (by decide) ?_
      refine B.bipush 8 dX9_its_7 (by decide) ?_
      refine B.iload_n 1 dX9_its_9 rfl rfl ?_
      refine B.imul dX9_its_10 ?_
      refine B.iadd dX9_its_11 ?_
      refine B.iload_n 2 dX9_its_12 rfl rfl ?_
      refine B.iadd dX9_its_13 ?_
      obtain ⟨j9, h⟩ := h
      obtain ⟨t10, h⟩ := h
      refine B.iaload dX9_its_14 t4 t10 ?_
      refine B.ireturn dX9_its_15 rfl rfl ?_
      show B g MX9_about 0 0 74 [(0, .ref r0), (1, .int x1), (2, .int x2)] [.int (I b2 j9)] S P I _
      refine B.ireturn dX9_about_74 rfl rfl ?_
      exact h
    replace h := h.2
    rcases Decidable.em (x2 = 1) with q8 | q8_1
    · replace h := h.1 q8
      refine B.tableIn 68 dX9_about_19 (by rw [q8]; decide) (by rw [q8]; decide) (by rw [q8]; rfl) (by decide) ?_
      refine B.aload_n 0 dX9_about_68 rfl rfl ?_
      refine B.iload_n 1 dX9_about_69 rfl rfl ?_
      refine B.iload_n 2 dX9_about_70 rfl rfl ?_
      refine B.callV (M' := MX9_its) (rc := 0) (rs := 0) (mc := 0) (ms := 0) (st := []) [.int x1, .int x2] dX9_about_71 mv_X9_its lk_X9_130 ⟨Nat.le_of_ble_eq_true rfl, Nat.le_of_ble_eq_true rfl⟩ rfl rfl (Nat.le_of_ble_eq_true rfl) t1 ?_
      refine T_of rfl (Nat.le_of_ble_eq_true rfl) ?_
      show B g MX9_its 0 0 0 [(0, .ref r0), (1, .int x1), (2, .int x2)] [] S P I _
      refine B.aload_n 0 dX9_its_0 rfl rfl ?_
      refine B.getP dX9_its_1 fl_9_7 t1 t3 ?_
      refine B.sipush 300 dX9_its_4 (by decide) ?_
      refine B.bipush 8 dX9_its_7 (by decide) ?_
      refine B.iload_n 1 dX9_its_9 rfl rfl ?_
      refine B.imul dX9_its_10 ?_
      refine B.iadd dX9_its_11 ?_
      refine B.iload_n 2 dX9_its_12 rfl rfl ?_
      refine B.iadd dX9_its_13 ?_
      obtain ⟨j11, h⟩ := h
      obtain ⟨t12, h⟩ := h
      refine B.iaload dX9_its_14 t4 t12 ?_
      refine B.ireturn dX9_its_15 rfl rfl ?_
      show B g MX9_about 0 0 74 [(0, .ref r0), (1, .int x1), (2, .int x2)] [.int (I b2 j11)] S P I _
      refine B.ireturn dX9_about_74 rfl rfl ?_
      exact h
    replace h := h.2
    rcases Decidable.em (x2 = 2) with q8 | q8_2
    · replace h := h.1 q8
      refine B.tableIn 68 dX9_about_19 (by rw [q8]; decide) (by rw [q8]; decide) (by rw [q8]; rfl) (by decide) ?_
      refine B.aload_n 0 dX9_about_68 rfl rfl ?_
      refine B.iload_n 1 dX9_about_69 rfl rfl ?_
      refine B.iload_n 2 dX9_about_70 rfl rfl ?_
      refine B.callV (M' := MX9_its) (rc := 0) (rs := 0) (mc := 0) (ms := 0) (st := []) [.int x1, .int x2] dX9_about_71 mv_X9_its lk_X9_130 ⟨Nat.le_of_ble_eq_true rfl, Nat.le_of_ble_eq_true rfl⟩ rfl rfl (Nat.le_of_ble_eq_true rfl) t1 ?_
      refine T_of rfl (Nat.le_of_ble_eq_true rfl) ?_
      show B g MX9_its 0 0 0 [(0, .ref r0), (1, .int x1), (2, .int x2)] [] S P I _
      refine B.aload_n 0 dX9_its_0 rfl rfl ?_
      refine B.getP dX9_its_1 fl_9_7 t1 t3 ?_
      refine B.sipush 300 dX9_its_4 (by decide) ?_
      refine B.bipush 8 dX9_its_7 (by decide) ?_
      refine B.iload_n 1 dX9_its_9 rfl rfl ?_
      refine B.imul dX9_its_10 ?_
      refine B.iadd dX9_its_11 ?_
      refine B.iload_n 2 dX9_its_12 rfl rfl ?_
      refine B.iadd dX9_its_13 ?_
      obtain ⟨j13, h⟩ := h
      obtain ⟨t14, h⟩ := h
      refine B.iaload dX9_its_14 t4 t14 ?_
      refine B.ireturn dX9_its_15 rfl rfl ?_
      show B g MX9_about 0 0 74 [(0, .ref r0), (1, .int x1), (2, .int x2)] [.int (I b2 j13)] S P I _
      refine B.ireturn dX9_about_74 rfl rfl ?_
      exact h
    replace h := h.2
    rcases Decidable.em (x2 = 3) with q8 | q8_3
    · replace h := h.1 q8
      refine B.tableIn 68 dX9_about_19 (by rw [q8]; decide) (by rw [q8]; decide) (by rw [q8]; rfl) (by decide) ?_
      refine B.aload_n 0 dX9_about_68 rfl rfl ?_
      refine B.iload_n 1 dX9_about_69 rfl rfl ?_
      refine B.iload_n 2 dX9_about_70 rfl rfl ?_
      refine B.callV (M' := MX9_its) (rc := 0) (rs := 0) (mc := 0) (ms := 0) (st := []) [.int x1, .int x2] dX9_about_71 mv_X9_its lk_X9_130 ⟨Nat.le_of_ble_eq_true rfl, Nat.le_of_ble_eq_true rfl⟩ rfl rfl (Nat.le_of_ble_eq_true rfl) t1 ?_
      refine T_of rfl (Nat.le_of_ble_eq_true rfl) ?_
      show B g MX9_its 0 0 0 [(0, .ref r0), (1, .int x1), (2, .int x2)] [] S P I _
      refine B.aload_n 0 dX9_its_0 rfl rfl ?_
      refine B.getP dX9_its_1 fl_9_7 t1 t3 ?_
      refine B.sipush 300 dX9_its_4 (by decide) ?_
      refine B.bipush 8 dX9_its_7 (by decide) ?_
      refine B.iload_n 1 dX9_its_9 rfl rfl ?_
      refine B.imul dX9_its_10 ?_
      refine B.iadd dX9_its_11 ?_
      refine B.iload_n 2 dX9_its_12 rfl rfl ?_
      refine B.iadd dX9_its_13 ?_
      obtain ⟨j15, h⟩ := h
      obtain ⟨t16, h⟩ := h
      refine B.iaload dX9_its_14 t4 t16 ?_
      refine B.ireturn dX9_its_15 rfl rfl ?_
      show B g MX9_about 0 0 74 [(0, .ref r0), (1, .int x1), (2, .int x2)] [.int (I b2 j15)] S P I _
      refine B.ireturn dX9_about_74 rfl rfl ?_
      exact h
    replace h := h.2
    rcases Decidable.em (x2 = 4) with q8 | q8_4
    · replace h := h.1 q8
      refine B.tableIn 75 dX9_about_19 (by rw [q8]; decide) (by rw [q8]; decide) (by rw [q8]; rfl) (by decide) ?_
      refine B.aload_n 0 dX9_about_75 rfl rfl ?_
      refine B.iload_n 1 dX9_about_76 rfl rfl ?_
      refine B.callV (M' := MX9_stands) (rc := 0) (rs := 0) (mc := 0) (ms := 0) (st := []) [.int x1] dX9_about_77 mv_X9_stands lk_X9_134 ⟨Nat.le_of_ble_eq_true rfl, Nat.le_of_ble_eq_true rfl⟩ rfl rfl (Nat.le_of_ble_eq_true rfl) t1 ?_
      refine T_of rfl (Nat.le_of_ble_eq_true rfl) ?_
      show B g MX9_stands 0 0 0 [(0, .ref r0), (1, .int x1)] [] S P I _
      refine B.aload_n 0 dX9_stands_0 rfl rfl ?_
      refine B.iload_n 1 dX9_stands_1 rfl rfl ?_
      refine B.iconst 4 dX9_stands_2 (by decide) ?_
      refine B.callV (M' := MX9_its) (rc := 0) (rs := 0) (mc := 0) (ms := 0) (st := []) [.int x1, .int 4] dX9_stands_3 mv_X9_its lk_X9_130 ⟨Nat.le_of_ble_eq_true rfl, Nat.le_of_ble_eq_true rfl⟩ rfl rfl (Nat.le_of_ble_eq_true rfl) t1 ?_
      refine T_of rfl (Nat.le_of_ble_eq_true rfl) ?_
      show B g MX9_its 0 0 0 [(0, .ref r0), (1, .int x1), (2, .int 4)] [] S P I _
      refine B.aload_n 0 dX9_its_0 rfl rfl ?_
      refine B.getP dX9_its_1 fl_9_7 t1 t3 ?_
      refine B.sipush 300 dX9_its_4 (by decide) ?_
      refine B.bipush 8 dX9_its_7 (by decide) ?_
      refine B.iload_n 1 dX9_its_9 rfl rfl ?_
      refine B.imul dX9_its_10 ?_
      refine B.iadd dX9_its_11 ?_
      refine B.iload_n 2 dX9_its_12 rfl rfl ?_
      refine B.iadd dX9_its_13 ?_
      obtain ⟨j17, h⟩ := h
      obtain ⟨t18, h⟩ := h
      refine B.iaload dX9_its_14 t4 t18 ?_
      refine B.ireturn dX9_its_15 rfl rfl ?_
      show B g MX9_stands 0 0 6 [(0, .ref r0), (1, .int x1)] [.int (I b2 j17)] S P I _
      refine B.if_lt 13 dX9_stands_6 (by decide) (fun q19 => ?_) (fun q19 => ?_)
      · replace h := h.1 q19
        refine B.iconst 0 dX9_stands_13 (by decide) ?_
        refine B.ireturn dX9_stands_14 rfl rfl ?_
        show B g MX9_about 0 0 80 [(0, .ref r0), (1, .int x1), (2, .int x2)] [.int 0] S P I _
        refine B.if_eq 94 dX9_about_80 (by decide) (fun _ => ?_) (fun q => absurd q (by decide))
        refine B.iconst (-1) dX9_about_94 (by decide) ?_
        refine B.ireturn dX9_about_95 rfl rfl ?_
        exact h
      · replace h := h.2 q19
        refine B.iconst 1 dX9_stands_9 (by decide) ?_
        refine B.goto_ 14 dX9_stands_10 (by decide) ?_
        refine B.ireturn dX9_stands_14 rfl rfl ?_
        show B g MX9_about 0 0 80 [(0, .ref r0), (1, .int x1), (2, .int x2)] [.int 1] S P I _
        refine B.if_eq 94 dX9_about_80 (by decide) (fun q => absurd q (by decide)) (fun _ => ?_)
        refine B.aload_n 0 dX9_about_83 rfl rfl ?_
        refine B.iload_n 1 dX9_about_84 rfl rfl ?_
        refine B.iconst 4 dX9_about_85 (by decide) ?_
        refine B.callV (M' := MX9_its) (rc := 0) (rs := 0) (mc := 0) (ms := 0) (st := []) [.int x1, .int 4] dX9_about_86 mv_X9_its lk_X9_130 ⟨Nat.le_of_ble_eq_true rfl, Nat.le_of_ble_eq_true rfl⟩ rfl rfl (Nat.le_of_ble_eq_true rfl) t1 ?_
        refine T_of rfl (Nat.le_of_ble_eq_true rfl) ?_
        show B g MX9_its 0 0 0 [(0, .ref r0), (1, .int x1), (2, .int 4)] [] S P I _
        refine B.aload_n 0 dX9_its_0 rfl rfl ?_
        refine B.getP dX9_its_1 fl_9_7 t1 t3 ?_
        refine B.sipush 300 dX9_its_4 (by decide) ?_
        refine B.bipush 8 dX9_its_7 (by decide) ?_
        refine B.iload_n 1 dX9_its_9 rfl rfl ?_
        refine B.imul dX9_its_10 ?_
        refine B.iadd dX9_its_11 ?_
        refine B.iload_n 2 dX9_its_12 rfl rfl ?_
        refine B.iadd dX9_its_13 ?_
        refine B.iaload dX9_its_14 t4 t18 ?_
        refine B.ireturn dX9_its_15 rfl rfl ?_
        show B g MX9_about 0 0 89 [(0, .ref r0), (1, .int x1), (2, .int x2)] [.int (I b2 j17)] S P I _
        refine B.iconst 4 dX9_about_89 (by decide) ?_
        refine B.idiv dX9_about_90 (by decide) ?_
        refine B.goto_ 95 dX9_about_91 (by decide) ?_
        refine B.ireturn dX9_about_95 rfl rfl ?_
        exact h
    replace h := h.2
    rcases Decidable.em (x2 = 5) with q8 | q8_5
    · replace h := h.1 q8
      refine B.tableIn 96 dX9_about_19 (by rw [q8]; decide) (by rw [q8]; decide) (by rw [q8]; rfl) (by decide) ?_
      refine B.aload_n 0 dX9_about_96 rfl rfl ?_
      refine B.iload_n 1 dX9_about_97 rfl rfl ?_
      refine B.callV (M' := MX9_stands) (rc := 0) (rs := 0) (mc := 0) (ms := 0) (st := []) [.int x1] dX9_about_98 mv_X9_stands lk_X9_134 ⟨Nat.le_of_ble_eq_true rfl, Nat.le_of_ble_eq_true rfl⟩ rfl rfl (Nat.le_of_ble_eq_true rfl) t1 ?_
      refine T_of rfl (Nat.le_of_ble_eq_true rfl) ?_
      show B g MX9_stands 0 0 0 [(0, .ref r0), (1, .int x1)] [] S P I _
      refine B.aload_n 0 dX9_stands_0 rfl rfl ?_
      refine B.iload_n 1 dX9_stands_1 rfl rfl ?_
      refine B.iconst 4 dX9_stands_2 (by decide) ?_
      refine B.callV (M' := MX9_its) (rc := 0) (rs := 0) (mc := 0) (ms := 0) (st := []) [.int x1, .int 4] dX9_stands_3 mv_X9_its lk_X9_130 ⟨Nat.le_of_ble_eq_true rfl, Nat.le_of_ble_eq_true rfl⟩ rfl rfl (Nat.le_of_ble_eq_true rfl) t1 ?_
      refine T_of rfl (Nat.le_of_ble_eq_true rfl) ?_
      show B g MX9_its 0 0 0 [(0, .ref r0), (1, .int x1), (2, .int 4)] [] S P I _
      refine B.aload_n 0 dX9_its_0 rfl rfl ?_
      refine B.getP dX9_its_1 fl_9_7 t1 t3 ?_
      refine B.sipush 300 dX9_its_4 (by decide) ?_
      refine B.bipush 8 dX9_its_7 (by decide) ?_
      refine B.iload_n 1 dX9_its_9 rfl rfl ?_
      refine B.imul dX9_its_10 ?_
      refine B.iadd dX9_its_11 ?_
      refine B.iload_n 2 dX9_its_12 rfl rfl ?_
      refine B.iadd dX9_its_13 ?_
      obtain ⟨j20, h⟩ := h
      obtain ⟨t21, h⟩ := h
      refine B.iaload dX9_its_14 t4 t21 ?_
      refine B.ireturn dX9_its_15 rfl rfl ?_
      show B g MX9_stands 0 0 6 [(0, .ref r0), (1, .int x1)] [.int (I b2 j20)] S P I _
      refine B.if_lt 13 dX9_stands_6 (by decide) (fun q22 => ?_) (fun q22 => ?_)
      · replace h := h.1 q22
        refine B.iconst 0 dX9_stands_13 (by decide) ?_
        refine B.ireturn dX9_stands_14 rfl rfl ?_
        show B g MX9_about 0 0 101 [(0, .ref r0), (1, .int x1), (2, .int x2)] [.int 0] S P I _
        refine B.if_eq 115 dX9_about_101 (by decide) (fun _ => ?_) (fun q => absurd q (by decide))
        refine B.iconst (-1) dX9_about_115 (by decide) ?_
        refine B.ireturn dX9_about_116 rfl rfl ?_
        exact h
      · replace h := h.2 q22
        refine B.iconst 1 dX9_stands_9 (by decide) ?_
        refine B.goto_ 14 dX9_stands_10 (by decide) ?_
        refine B.ireturn dX9_stands_14 rfl rfl ?_
        show B g MX9_about 0 0 101 [(0, .ref r0), (1, .int x1), (2, .int x2)] [.int 1] S P I _
        refine B.if_eq 115 dX9_about_101 (by decide) (fun q => absurd q (by decide)) (fun _ => ?_)
        refine B.aload_n 0 dX9_about_104 rfl rfl ?_
        refine B.iload_n 1 dX9_about_105 rfl rfl ?_
        refine B.iconst 4 dX9_about_106 (by decide) ?_
        refine B.callV (M' := MX9_its) (rc := 0) (rs := 0) (mc := 0) (ms := 0) (st := []) [.int x1, .int 4] dX9_about_107 mv_X9_its lk_X9_130 ⟨Nat.le_of_ble_eq_true rfl, Nat.le_of_ble_eq_true rfl⟩ rfl rfl (Nat.le_of_ble_eq_true rfl) t1 ?_
        refine T_of rfl (Nat.le_of_ble_eq_true rfl) ?_
        show B g MX9_its 0 0 0 [(0, .ref r0), (1, .int x1), (2, .int 4)] [] S P I _
        refine B.aload_n 0 dX9_its_0 rfl rfl ?_
        refine B.getP dX9_its_1 fl_9_7 t1 t3 ?_
        refine B.sipush 300 dX9_its_4 (by decide) ?_
        refine B.bipush 8 dX9_its_7 (by decide) ?_
        refine B.iload_n 1 dX9_its_9 rfl rfl ?_
        refine B.imul dX9_its_10 ?_
        refine B.iadd dX9_its_11 ?_
        refine B.iload_n 2 dX9_its_12 rfl rfl ?_
        refine B.iadd dX9_its_13 ?_
        refine B.iaload dX9_its_14 t4 t21 ?_
        refine B.ireturn dX9_its_15 rfl rfl ?_
        show B g MX9_about 0 0 110 [(0, .ref r0), (1, .int x1), (2, .int x2)] [.int (I b2 j20)] S P I _
        refine B.iconst 4 dX9_about_110 (by decide) ?_
        refine B.irem dX9_about_111 (by decide) ?_
        refine B.goto_ 116 dX9_about_112 (by decide) ?_
        refine B.ireturn dX9_about_116 rfl rfl ?_
        exact h
    replace h := h.2
    rcases Decidable.em (x2 = 6) with q8 | q8_6
    · replace h := h.1 q8
      refine B.tableIn 117 dX9_about_19 (by rw [q8]; decide) (by rw [q8]; decide) (by rw [q8]; rfl) (by decide) ?_
      refine B.aload_n 0 dX9_about_117 rfl rfl ?_
      refine B.iload_n 1 dX9_about_118 rfl rfl ?_
      refine B.iconst 5 dX9_about_119 (by decide) ?_
      refine B.callV (M' := MX9_its) (rc := 0) (rs := 0) (mc := 0) (ms := 0) (st := []) [.int x1, .int 5] dX9_about_120 mv_X9_its lk_X9_130 ⟨Nat.le_of_ble_eq_true rfl, Nat.le_of_ble_eq_true rfl⟩ rfl rfl (Nat.le_of_ble_eq_true rfl) t1 ?_
      refine T_of rfl (Nat.le_of_ble_eq_true rfl) ?_
      show B g MX9_its 0 0 0 [(0, .ref r0), (1, .int x1), (2, .int 5)] [] S P I _
      refine B.aload_n 0 dX9_its_0 rfl rfl ?_
      refine B.getP dX9_its_1 fl_9_7 t1 t3 ?_
      refine B.sipush 300 dX9_its_4 (by decide) ?_
      refine B.bipush 8 dX9_its_7 (by decide) ?_
      refine B.iload_n 1 dX9_its_9 rfl rfl ?_
      refine B.imul dX9_its_10 ?_
      refine B.iadd dX9_its_11 ?_
      refine B.iload_n 2 dX9_its_12 rfl rfl ?_
      refine B.iadd dX9_its_13 ?_
      obtain ⟨j23, h⟩ := h
      obtain ⟨t24, h⟩ := h
      refine B.iaload dX9_its_14 t4 t24 ?_
      refine B.ireturn dX9_its_15 rfl rfl ?_
      show B g MX9_about 0 0 123 [(0, .ref r0), (1, .int x1), (2, .int x2)] [.int (I b2 j23)] S P I _
      refine B.ireturn dX9_about_123 rfl rfl ?_
      exact h
    replace h := h.2
    rcases Decidable.em (x2 = 7) with q8 | q8_7
    · replace h := h.1 q8
      refine B.tableIn 124 dX9_about_19 (by rw [q8]; decide) (by rw [q8]; decide) (by rw [q8]; rfl) (by decide) ?_
      refine B.aload_n 0 dX9_about_124 rfl rfl ?_
      refine B.iload_n 1 dX9_about_125 rfl rfl ?_
      refine B.bipush 6 dX9_about_126 (by decide) ?_
      refine B.callV (M' := MX9_its) (rc := 0) (rs := 0) (mc := 0) (ms := 0) (st := []) [.int x1, .int 6] dX9_about_128 mv_X9_its lk_X9_130 ⟨Nat.le_of_ble_eq_true rfl, Nat.le_of_ble_eq_true rfl⟩ rfl rfl (Nat.le_of_ble_eq_true rfl) t1 ?_
      refine T_of rfl (Nat.le_of_ble_eq_true rfl) ?_
      show B g MX9_its 0 0 0 [(0, .ref r0), (1, .int x1), (2, .int 6)] [] S P I _
      refine B.aload_n 0 dX9_its_0 rfl rfl ?_
      refine B.getP dX9_its_1 fl_9_7 t1 t3 ?_
      refine B.sipush 300 dX9_its_4 (by decide) ?_
      refine B.bipush 8 dX9_its_7 (by decide) ?_
      refine B.iload_n 1 dX9_its_9 rfl rfl ?_
      refine B.imul dX9_its_10 ?_
      refine B.iadd dX9_its_11 ?_
      refine B.iload_n 2 dX9_its_12 rfl rfl ?_
      refine B.iadd dX9_its_13 ?_
      obtain ⟨j25, h⟩ := h
      obtain ⟨t26, h⟩ := h
      refine B.iaload dX9_its_14 t4 t26 ?_
      refine B.ireturn dX9_its_15 rfl rfl ?_
      show B g MX9_about 0 0 131 [(0, .ref r0), (1, .int x1), (2, .int x2)] [.int (I b2 j25)] S P I _
      refine B.ireturn dX9_about_131 rfl rfl ?_
      exact h
    replace h := h.2
    rcases Decidable.em (x2 = 8) with q8 | q8_8
    · replace h := h.1 q8
      refine B.tableIn 132 dX9_about_19 (by rw [q8]; decide) (by rw [q8]; decide) (by rw [q8]; rfl) (by decide) ?_
      refine B.aload_n 0 dX9_about_132 rfl rfl ?_
      refine B.iload_n 1 dX9_about_133 rfl rfl ?_
      refine B.callV (M' := MX9_customOf) (rc := 0) (rs := 0) (mc := 0) (ms := 0) (st := []) [.int x1] dX9_about_134 mv_X9_customOf lk_X9_187 ⟨Nat.le_of_ble_eq_true rfl, Nat.le_of_ble_eq_true rfl⟩ rfl rfl (Nat.le_of_ble_eq_true rfl) t1 ?_
      exact h
    replace h := h.2
    replace h := h q8_0 q8_1 q8_2 q8_3 q8_4 q8_5 q8_6 q8_7 q8_8
    have qo : (x2).toInt < 0 ∨ 8 < (x2).toInt := by
      refine tsw_out (lo := 0) (hi := 8) (by decide) (by decide) (fun c h1 h2 => ?_)
      obtain rfl | rfl | rfl | rfl | rfl | rfl | rfl | rfl | rfl : c = 0 ∨ c = 1 ∨ c = 2 ∨ c = 3 ∨ c = 4 ∨ c = 5 ∨ c = 6 ∨ c = 7 ∨ c = 8 := by omega
      · exact q8_0
      · exact q8_1
      · exact q8_2
      · exact q8_3
      · exact q8_4
      · exact q8_5
      · exact q8_6
      · exact q8_7
      · exact q8_8
    refine B.tableOut 138 dX9_about_19 qo (by decide) ?_
    refine B.iconst (-1) dX9_about_138 (by decide) ?_
    refine B.ireturn dX9_about_139 rfl rfl ?_
    exact h
  · replace h := h.2 q7
    refine B.iconst (-1) dX9_about_16 (by decide) ?_
    refine B.ireturn dX9_about_17 rfl rfl ?_
    exact h
theorem s_X9_about_137 {g : GT} {S : ST} {P : PT} {I : IT} {Q : QT} {r0 : Nat} {x1 : Int32} {x2 : Int32} {w_s0 : Int32} (h : Q (some (.int w_s0)) S P I) : B g MX9_about 0 0 137 [(0, .ref r0), (1, .int x1), (2, .int x2)] [.int w_s0] S P I Q := by
  refine B.ireturn dX9_about_137 rfl rfl ?_
  exact h
theorem s_X9_tell_0 {g : GT} {S : ST} {P : PT} {I : IT} {Q : QT} {r0 : Nat} {x1 : Int32} {x2 : Int32} (h : sT S r0 = 10 ∧ ∃ b2, P r0 0 = b2 + 1 ∧ sT S b2 = 40 ∧ ∃ j5, ix 0 j5 (sL S b2) ∧ ((¬ (wi x1 0 ((I b2 j5) - 1)) = 0 → B g MX9_tell 0 0 19 [(0, .ref r0), (1, .int x1), (2, .int x2), (3, .int 0), (4, .int 0), (5, .int 0)] [] S P I Q) ∧ ((wi x1 0 ((I b2 j5) - 1)) = 0 → Q (some (.int (-1000000000))) S P I))) : B g MX9_tell 0 0 0 [(0, .ref r0), (1, .int x1), (2, .int x2)] [] S P I Q := by
  refine B.aload_n 0 dX9_tell_0 rfl rfl ?_
  refine B.iload_n 1 dX9_tell_1 rfl rfl ?_
  obtain ⟨t1, h⟩ := h
  refine B.callV (M' := MX9_isHouse) (rc := 0) (rs := 0) (mc := 0) (ms := 0) (st := []) [.int x1] dX9_tell_2 mv_X9_isHouse lk_X9_144 ⟨Nat.le_of_ble_eq_true rfl, Nat.le_of_ble_eq_true rfl⟩ rfl rfl (Nat.le_of_ble_eq_true rfl) t1 ?_
  refine T_of rfl (Nat.le_of_ble_eq_true rfl) ?_
  show B g MX9_isHouse 0 0 0 [(0, .ref r0), (1, .int x1)] [] S P I _
  refine B.iload_n 1 dX9_isHouse_0 rfl rfl ?_
  refine B.iconst 0 dX9_isHouse_1 (by decide) ?_
  refine B.aload_n 0 dX9_isHouse_2 rfl rfl ?_
  obtain ⟨b2, h⟩ := h
  obtain ⟨t3, h⟩ := h
  refine B.getP dX9_isHouse_3 fl_9_7 t1 t3 ?_
  refine B.iconst 0 dX9_isHouse_6 (by decide) ?_
  obtain ⟨t4, h⟩ := h
  obtain ⟨j5, h⟩ := h
  obtain ⟨t6, h⟩ := h
  refine B.iaload dX9_isHouse_7 t4 t6 ?_
  refine B.iconst 1 dX9_isHouse_8 (by decide) ?_
  refine B.isub dX9_isHouse_9 ?_
  refine B.callS (M' := MX9_isIn) (rc := 0) (rs := 0) (mc := 0) (ms := 0) (st := []) [.int x1, .int 0, .int ((I b2 j5) - 1)] dX9_isHouse_10 ms_X9_isIn lk_X9_103 ⟨Nat.le_of_ble_eq_true rfl, Nat.le_of_ble_eq_true rfl⟩ rfl rfl (Nat.le_of_ble_eq_true rfl) (t_isIn ?_)
  show B g MX9_isHouse 0 0 13 [(0, .ref r0), (1, .int x1)] [.int (wi x1 0 ((I b2 j5) - 1))] S P I _
  refine B.ireturn dX9_isHouse_13 rfl (nar_z (wi_01 _ _ _)) ?_
  show B g MX9_tell 0 0 5 [(0, .ref r0), (1, .int x1), (2, .int x2)] [.int (wi x1 0 ((I b2 j5) - 1))] S P I _
  refine B.if_ne 11 dX9_tell_5 (by decide) (fun q7 => ?_) (fun q7 => ?_)
  · replace h := h.1 q7
    refine B.iconst 0 dX9_tell_11 (by decide) ?_
    refine B.istore_n (lv' := [(0, .ref r0), (1, .int x1), (2, .int x2), (3, .int 0)]) dX9_tell_12 rfl (by decide) rfl ?_
    refine B.iconst 0 dX9_tell_13 (by decide) ?_
    refine B.istore (lv' := [(0, .ref r0), (1, .int x1), (2, .int x2), (3, .int 0), (4, .int 0)]) dX9_tell_14 (by decide) rfl ?_
    refine B.iconst 0 dX9_tell_16 (by decide) ?_
    refine B.istore (lv' := [(0, .ref r0), (1, .int x1), (2, .int x2), (3, .int 0), (4, .int 0), (5, .int 0)]) dX9_tell_17 (by decide) rfl ?_
    exact h
  · replace h := h.2 q7
    refine B.ldc (-1000000000) dX9_tell_8 kc_X9_199 ?_
    refine B.ireturn dX9_tell_10 rfl rfl ?_
    exact h
theorem s_X9_tell_19 {g : GT} {S : ST} {P : PT} {I : IT} {Q : QT} {r0 : Nat} {x1 : Int32} {x2 : Int32} {x3 : Int32} {x4 : Int32} {x5 : Int32} (h : sT S r0 = 10 ∧ ∃ b2, P r0 0 = b2 + 1 ∧ sT S b2 = 40 ∧ ∃ j5, ix 1 j5 (sL S b2) ∧ (((I b2 j5) ≤ x5 → ((x2 = 0 → ∃ j9, ix ((60 + (30 * x1)) + x2) j9 (sL S b2) ∧ Q (some (.int (I b2 j9))) S P I) ∧ (x2 = 1 → ∃ j11, ix ((60 + (30 * x1)) + x2) j11 (sL S b2) ∧ Q (some (.int (I b2 j11))) S P I) ∧ (x2 = 2 → Q (some (.int x3)) S P I) ∧ (x2 = 3 → Q (some (.int x4)) S P I) ∧ (x2 = 4 → ∃ j13, ix ((60 + (30 * x1)) + 4) j13 (sL S b2) ∧ Q (some (.int (I b2 j13))) S P I) ∧ (x2 = 5 → T g MX9_best 0 0 [.ref r0, .int x1] S P I (fun r S' P' I' => B g MX9_tell 0 0 158 [(0, .ref r0), (1, .int x1), (2, .int x2), (3, .int x3), (4, .int x4), (5, .int x5)] (r.toList ++ [.int x1, .ref r0]) S' P' I' Q)) ∧ (x2 = 6 → T g MX9_best 0 0 [.ref r0, .int x1] S P I (fun r S' P' I' => B g MX9_tell 0 0 167 [(0, .ref r0), (1, .int x1), (2, .int x2), (3, .int x3), (4, .int x4), (5, .int x5)] (r.toList ++ []) S' P' I' Q)) ∧ (x2 = 7 → ∃ j15, ix ((60 + (30 * x1)) + 3) j15 (sL S b2) ∧ Q (some (.int (I b2 j15))) S P I) ∧ (¬ x2 = 0 → ¬ x2 = 1 → ¬ x2 = 2 → ¬ x2 = 3 → ¬ x2 = 4 → ¬ x2 = 5 → ¬ x2 = 6 → ¬ x2 = 7 → Q (some (.int (-1000000000))) S P I))) ∧ (¬ (I b2 j5) ≤ x5 → ∃ j17, ix ((300 + (8 * x5)) + 0) j17 (sL S b2) ∧ ((¬ (I b2 j17) = x1 → ((¬ (I b2 j17) = x1 → B g MX9_tell 0 0 19 [(0, .ref r0), (1, .int x1), (2, .int x2), (3, .int (x3 + 0)), (4, .int (x4 + 0)), (5, .int (x5 + 1))] [] S P I Q) ∧ ((I b2 j17) = x1 → ∃ j21, ix ((300 + (8 * x5)) + 4) j21 (sL S b2) ∧ (((I b2 j21) < 0 → B g MX9_tell 0 0 19 [(0, .ref r0), (1, .int x1), (2, .int x2), (3, .int (x3 + 0)), (4, .int (x4 + 0)), (5, .int (x5 + 1))] [] S P I Q) ∧ (¬ (I b2 j21) < 0 → B g MX9_tell 0 0 19 [(0, .ref r0), (1, .int x1), (2, .int x2), (3, .int (x3 + 0)), (4, .int (x4 + 1)), (5, .int (x5 + 1))] [] S P I Q))))) ∧ ((I b2 j17) = x1 → ((¬ (I b2 j17) = x1 → B g MX9_tell 0 0 19 [(0, .ref r0), (1, .int x1), (2, .int x2), (3, .int (x3 + 1)), (4, .int (x4 + 0)), (5, .int (x5 + 1))] [] S P I Q) ∧ ((I b2 j17) = x1 → ∃ j25, ix ((300 + (8 * x5)) + 4) j25 (sL S b2) ∧ (((I b2 j25) < 0 → B g MX9_tell 0 0 19 [(0, .ref r0), (1, .int x1), (2, .int x2), (3, .int (x3 + 1)), (4, .int (x4 + 0)), (5, .int (x5 + 1))] [] S P I Q) ∧ (¬ (I b2 j25) < 0 → B g MX9_tell 0 0 19 [(0, .ref r0), (1, .int x1), (2, .int x2), (3, .int (x3 + 1)), (4, .int (x4 + 1)), (5, .int (x5 + 1))] [] S P I Q))))))))) : B g MX9_tell 0 0 19 [(0, .ref r0), (1, .int x1), (2, .int x2), (3, .int x3), (4, .int x4), (5, .int x5)] [] S P I Q := by
  refine B.iload 5 dX9_tell_19 rfl ?_
  refine B.aload_n 0 dX9_tell_21 rfl rfl ?_
  obtain ⟨t1, h⟩ := h
  obtain ⟨b2, h⟩ := h
  obtain ⟨t3, h⟩ := h
  refine B.getP dX9_tell_22 fl_9_7 t1 t3 ?_
  refine B.iconst 1 dX9_tell_25 (by decide) ?_
  obtain ⟨t4, h⟩ := h
  obtain ⟨j5, h⟩ := h
  obtain ⟨t6, h⟩ := h
  refine B.iaload dX9_tell_26 t4 t6 ?_
  refine B.icmp_ge 85 dX9_tell_27 (by decide) (fun q7 => ?_) (fun q7 => ?_)
  · replace h := h.1 q7
    refine B.iload_n 2 dX9_tell_85 rfl rfl ?_
    rcases Decidable.em (x2 = 0) with q8 | q8_0
    · replace h := h.1 q8
      refine B.tableIn 132 dX9_tell_86 (by rw [q8]; decide) (by rw [q8]; decide) (by rw [q8]; rfl) (by decide) ?_
      refine B.aload_n 0 dX9_tell_132 rfl rfl ?_
      refine B.iload_n 1 dX9_tell_133 rfl rfl ?_
      refine B.iload_n 2 dX9_tell_134 rfl rfl ?_
      refine B.callV (M' := MX9_of) (rc := 0) (rs := 0) (mc := 0) (ms := 0) (st := []) [.int x1, .int x2] dX9_tell_135 mv_X9_of lk_X9_157 ⟨Nat.le_of_ble_eq_true rfl, Nat.le_of_ble_eq_true rfl⟩ rfl rfl (Nat.le_of_ble_eq_true rfl) t1 ?_
      refine T_of rfl (Nat.le_of_ble_eq_true rfl) ?_
      show B g MX9_of 0 0 0 [(0, .ref r0), (1, .int x1), (2, .int x2)] [] S P I _
      refine B.aload_n 0 dX9_of_0 rfl rfl ?_
      refine B.getP dX9_of_1 fl_9_7 t1 t3 ?_
      refine B.bipush 60 dX9_of_4 (by decide) ?_
      refine B.bipush 30 dX9_of_6 (by decide) ?_
      refine B.iload_n 1 dX9_of_8 rfl rfl ?_
      refine B.imul dX9_of_9 ?_
      refine B.iadd dX9_of_10 ?_
      refine B.iload_n 2 dX9_of_11 rfl rfl ?_
      refine B.iadd dX9_of_12 ?_
      obtain ⟨j9, h⟩ := h
      obtain ⟨t10, h⟩ := h
      refine B.iaload dX9_of_13 t4 t10 ?_
      refine B.ireturn dX9_of_14 rfl rfl ?_
      show B g MX9_tell 0 0 138 [(0, .ref r0), (1, .int x1), (2, .int x2), (3, .int x3), (4, .int x4), (5, .int x5)] [.int (I b2 j9)] S P I _
      refine B.ireturn dX9_tell_138 rfl rfl ?_
      exact h
    replace h := h.2
    rcases Decidable.em (x2 = 1) with q8 | q8_1
    · replace h := h.1 q8
      refine B.tableIn 132 dX9_tell_86 (by rw [q8]; decide) (by rw [q8]; decide) (by rw [q8]; rfl) (by decide) ?_
      refine B.aload_n 0 dX9_tell_132 rfl rfl ?_
      refine B.iload_n 1 dX9_tell_133 rfl rfl ?_
      refine B.iload_n 2 dX9_tell_134 rfl rfl ?_
      refine B.callV (M' := MX9_of) (rc := 0) (rs := 0) (mc := 0) (ms := 0) (st := []) [.int x1, .int x2] dX9_tell_135 mv_X9_of lk_X9_157 ⟨Nat.le_of_ble_eq_true rfl, Nat.le_of_ble_eq_true rfl⟩ rfl rfl (Nat.le_of_ble_eq_true rfl) t1 ?_
      refine T_of rfl (Nat.le_of_ble_eq_true rfl) ?_
      show B g MX9_of 0 0 0 [(0, .ref r0), (1, .int x1), (2, .int x2)] [] S P I _
      refine B.aload_n 0 dX9_of_0 rfl rfl ?_
      refine B.getP dX9_of_1 fl_9_7 t1 t3 ?_
      refine B.bipush 60 dX9_of_4 (by decide) ?_
      refine B.bipush 30 dX9_of_6 (by decide) ?_
      refine B.iload_n 1 dX9_of_8 rfl rfl ?_
      refine B.imul dX9_of_9 ?_
      refine B.iadd dX9_of_10 ?_
      refine B.iload_n 2 dX9_of_11 rfl rfl ?_
      refine B.iadd dX9_of_12 ?_
      obtain ⟨j11, h⟩ := h
      obtain ⟨t12, h⟩ := h
      refine B.iaload dX9_of_13 t4 t12 ?_
      refine B.ireturn dX9_of_14 rfl rfl ?_
      show B g MX9_tell 0 0 138 [(0, .ref r0), (1, .int x1), (2, .int x2), (3, .int x3), (4, .int x4), (5, .int x5)] [.int (I b2 j11)] S P I _
      refine B.ireturn dX9_tell_138 rfl rfl ?_
      exact h
    replace h := h.2
    rcases Decidable.em (x2 = 2) with q8 | q8_2
    · replace h := h.1 q8
      refine B.tableIn 139 dX9_tell_86 (by rw [q8]; decide) (by rw [q8]; decide) (by rw [q8]; rfl) (by decide) ?_
      refine B.iload_n 3 dX9_tell_139 rfl rfl ?_
      refine B.ireturn dX9_tell_140 rfl rfl ?_
      exact h
    replace h := h.2
    rcases Decidable.em (x2 = 3) with q8 | q8_3
    · replace h := h.1 q8
      refine B.tableIn 141 dX9_tell_86 (by rw [q8]; decide) (by rw [q8]; decide) (by rw [q8]; rfl) (by decide) ?_
      refine B.iload 4 dX9_tell_141 rfl ?_
      refine B.ireturn dX9_tell_143 rfl rfl ?_
      exact h
    replace h := h.2
    rcases Decidable.em (x2 = 4) with q8 | q8_4
    · replace h := h.1 q8
      refine B.tableIn 144 dX9_tell_86 (by rw [q8]; decide) (by rw [q8]; decide) (by rw [q8]; rfl) (by decide) ?_
      refine B.aload_n 0 dX9_tell_144 rfl rfl ?_
      refine B.iload_n 1 dX9_tell_145 rfl rfl ?_
      refine B.iconst 4 dX9_tell_146 (by decide) ?_
      refine B.callV (M' := MX9_of) (rc := 0) (rs := 0) (mc := 0) (ms := 0) (st := []) [.int x1, .int 4] dX9_tell_147 mv_X9_of lk_X9_157 ⟨Nat.le_of_ble_eq_true rfl, Nat.le_of_ble_eq_true rfl⟩ rfl rfl (Nat.le_of_ble_eq_true rfl) t1 ?_
      refine T_of rfl (Nat.le_of_ble_eq_true rfl) ?_
      show B g MX9_of 0 0 0 [(0, .ref r0), (1, .int x1), (2, .int 4)] [] S P I _
      refine B.aload_n 0 dX9_of_0 rfl rfl ?_
      refine B.getP dX9_of_1 fl_9_7 t1 t3 ?_
      refine B.bipush 60 dX9_of_4 (by decide) ?_
      refine B.bipush 30 dX9_of_6 (by decide) ?_
      refine B.iload_n 1 dX9_of_8 rfl rfl ?_
      refine B.imul dX9_of_9 ?_
      refine B.iadd dX9_of_10 ?_
      refine B.iload_n 2 dX9_of_11 rfl rfl ?_
      refine B.iadd dX9_of_12 ?_
      obtain ⟨j13, h⟩ := h
      obtain ⟨t14, h⟩ := h
      refine B.iaload dX9_of_13 t4 t14 ?_
      refine B.ireturn dX9_of_14 rfl rfl ?_
      show B g MX9_tell 0 0 150 [(0, .ref r0), (1, .int x1), (2, .int x2), (3, .int x3), (4, .int x4), (5, .int x5)] [.int (I b2 j13)] S P I _
      refine B.ireturn dX9_tell_150 rfl rfl ?_
      exact h
    replace h := h.2
    rcases Decidable.em (x2 = 5) with q8 | q8_5
    · replace h := h.1 q8
      refine B.tableIn 151 dX9_tell_86 (by rw [q8]; decide) (by rw [q8]; decide) (by rw [q8]; rfl) (by decide) ?_
      refine B.aload_n 0 dX9_tell_151 rfl rfl ?_
      refine B.iload_n 1 dX9_tell_152 rfl rfl ?_
      refine B.aload_n 0 dX9_tell_153 rfl rfl ?_
      refine B.iload_n 1 dX9_tell_154 rfl rfl ?_
      refine B.callV (M' := MX9_best) (rc := 0) (rs := 0) (mc := 0) (ms := 0) (st := [.int x1, .ref r0]) [.int x1] dX9_tell_155 mv_X9_best lk_X9_200 ⟨Nat.le_of_ble_eq_true rfl, Nat.le_of_ble_eq_true rfl⟩ rfl rfl (Nat.le_of_ble_eq_true rfl) t1 ?_
      exact h
    replace h := h.2
    rcases Decidable.em (x2 = 6) with q8 | q8_6
    · replace h := h.1 q8
      refine B.tableIn 162 dX9_tell_86 (by rw [q8]; decide) (by rw [q8]; decide) (by rw [q8]; rfl) (by decide) ?_
      refine B.aload_n 0 dX9_tell_162 rfl rfl ?_
      refine B.iload_n 1 dX9_tell_163 rfl rfl ?_
      refine B.callV (M' := MX9_best) (rc := 0) (rs := 0) (mc := 0) (ms := 0) (st := []) [.int x1] dX9_tell_164 mv_X9_best lk_X9_200 ⟨Nat.le_of_ble_eq_true rfl, Nat.le_of_ble_eq_true rfl⟩ rfl rfl (Nat.le_of_ble_eq_true rfl) t1 ?_
      exact h
    replace h := h.2
    rcases Decidable.em (x2 = 7) with q8 | q8_7
    · replace h := h.1 q8
      refine B.tableIn 168 dX9_tell_86 (by rw [q8]; decide) (by rw [q8]; decide) (by rw [q8]; rfl) (by decide) ?_
      refine B.aload_n 0 dX9_tell_168 rfl rfl ?_
      refine B.iload_n 1 dX9_tell_169 rfl rfl ?_
      refine B.iconst 3 dX9_tell_170 (by decide) ?_
      refine B.callV (M' := MX9_of) (rc := 0) (rs := 0) (mc := 0) (ms := 0) (st := []) [.int x1, .int 3] dX9_tell_171 mv_X9_of lk_X9_157 ⟨Nat.le_of_ble_eq_true rfl, Nat.le_of_ble_eq_true rfl⟩ rfl rfl (Nat.le_of_ble_eq_true rfl) t1 ?_
      refine T_of rfl (Nat.le_of_ble_eq_true rfl) ?_
      show B g MX9_of 0 0 0 [(0, .ref r0), (1, .int x1), (2, .int 3)] [] S P I _
      refine B.aload_n 0 dX9_of_0 rfl rfl ?_
      refine B.getP dX9_of_1 fl_9_7 t1 t3 ?_
      refine B.bipush 60 dX9_of_4 (by decide) ?_
      refine B.bipush 30 dX9_of_6 (by decide) ?_
      refine B.iload_n 1 dX9_of_8 rfl rfl ?_
      refine B.imul dX9_of_9 ?_
      refine B.iadd dX9_of_10 ?_
      refine B.iload_n 2 dX9_of_11 rfl rfl ?_
      refine B.iadd dX9_of_12 ?_
      obtain ⟨j15, h⟩ := h
      obtain ⟨t16, h⟩ := h
      refine B.iaload dX9_of_13 t4 t16 ?_
      refine B.ireturn dX9_of_14 rfl rfl ?_
      show B g MX9_tell 0 0 174 [(0, .ref r0), (1, .int x1), (2, .int x2), (3, .int x3), (4, .int x4), (5, .int x5)] [.int (I b2 j15)] S P I _
      refine B.ireturn dX9_tell_174 rfl rfl ?_
      exact h
    replace h := h.2
    replace h := h q8_0 q8_1 q8_2 q8_3 q8_4 q8_5 q8_6 q8_7
    have qo : (x2).toInt < 0 ∨ 7 < (x2).toInt := by
      refine tsw_out (lo := 0) (hi := 7) (by decide) (by decide) (fun c h1 h2 => ?_)
      obtain rfl | rfl | rfl | rfl | rfl | rfl | rfl | rfl : c = 0 ∨ c = 1 ∨ c = 2 ∨ c = 3 ∨ c = 4 ∨ c = 5 ∨ c = 6 ∨ c = 7 := by omega
      · exact q8_0
      · exact q8_1
      · exact q8_2
      · exact q8_3
      · exact q8_4
      · exact q8_5
      · exact q8_6
      · exact q8_7
    refine B.tableOut 175 dX9_tell_86 qo (by decide) ?_
    refine B.ldc (-1000000000) dX9_tell_175 kc_X9_199 ?_
    refine B.ireturn dX9_tell_177 rfl rfl ?_
    exact h
  · replace h := h.2 q7
    refine B.iload_n 3 dX9_tell_30 rfl rfl ?_
    refine B.aload_n 0 dX9_tell_31 rfl rfl ?_
    refine B.iload 5 dX9_tell_32 rfl ?_
    refine B.iconst 0 dX9_tell_34 (by decide) ?_
    refine B.callV (M' := MX9_its) (rc := 0) (rs := 0) (mc := 0) (ms := 0) (st := [.int x3]) [.int x5, .int 0] dX9_tell_35 mv_X9_its lk_X9_130 ⟨Nat.le_of_ble_eq_true rfl, Nat.le_of_ble_eq_true rfl⟩ rfl rfl (Nat.le_of_ble_eq_true rfl) t1 ?_
    refine T_of rfl (Nat.le_of_ble_eq_true rfl) ?_
    show B g MX9_its 0 0 0 [(0, .ref r0), (1, .int x5), (2, .int 0)] [] S P I _
    refine B.aload_n 0 dX9_its_0 rfl rfl ?_
    refine B.getP dX9_its_1 fl_9_7 t1 t3 ?_
    refine B.sipush 300 dX9_its_4 (by decide) ?_
    refine B.bipush 8 dX9_its_7 (by decide) ?_
    refine B.iload_n 1 dX9_its_9 rfl rfl ?_
    refine B.imul dX9_its_10 ?_
    refine B.iadd dX9_its_11 ?_
    refine B.iload_n 2 dX9_its_12 rfl rfl ?_
    refine B.iadd dX9_its_13 ?_
    obtain ⟨j17, h⟩ := h
    obtain ⟨t18, h⟩ := h
    refine B.iaload dX9_its_14 t4 t18 ?_
    refine B.ireturn dX9_its_15 rfl rfl ?_
    show B g MX9_tell 0 0 38 [(0, .ref r0), (1, .int x1), (2, .int x2), (3, .int x3), (4, .int x4), (5, .int x5)] [.int (I b2 j17), .int x3] S P I _
    refine B.iload_n 1 dX9_tell_38 rfl rfl ?_
    refine B.icmp_ne 46 dX9_tell_39 (by decide) (fun q19 => ?_) (fun q19 => ?_)
    · replace h := h.1 q19
      refine B.iconst 0 dX9_tell_46 (by decide) ?_
      refine B.iadd dX9_tell_47 ?_
      refine B.istore_n (lv' := [(0, .ref r0), (1, .int x1), (2, .int x2), (3, .int (x3 + 0)), (4, .int x4), (5, .int x5)]) dX9_tell_48 rfl (by decide) rfl ?_
      refine B.iload 4 dX9_tell_49 rfl ?_
      refine B.aload_n 0 dX9_tell_51 rfl rfl ?_
      refine B.iload 5 dX9_tell_52 rfl ?_
      refine B.iconst 0 dX9_tell_54 (by decide) ?_
      refine B.callV (M' := MX9_its) (rc := 0) (rs := 0) (mc := 0) (ms := 0) (st := [.int x4]) [.int x5, .int 0] dX9_tell_55 mv_X9_its lk_X9_130 ⟨Nat.le_of_ble_eq_true rfl, Nat.le_of_ble_eq_true rfl⟩ rfl rfl (Nat.le_of_ble_eq_true rfl) t1 ?_
      refine T_of rfl (Nat.le_of_ble_eq_true rfl) ?_
      show B g MX9_its 0 0 0 [(0, .ref r0), (1, .int x5), (2, .int 0)] [] S P I _
      refine B.aload_n 0 dX9_its_0 rfl rfl ?_
      refine B.getP dX9_its_1 fl_9_7 t1 t3 ?_
      refine B.sipush 300 dX9_its_4 (by decide) ?_
      refine B.bipush 8 dX9_its_7 (by decide) ?_
      refine B.iload_n 1 dX9_its_9 rfl rfl ?_
      refine B.imul dX9_its_10 ?_
      refine B.iadd dX9_its_11 ?_
      refine B.iload_n 2 dX9_its_12 rfl rfl ?_
      refine B.iadd dX9_its_13 ?_
      refine B.iaload dX9_its_14 t4 t18 ?_
      refine B.ireturn dX9_its_15 rfl rfl ?_
      show B g MX9_tell 0 0 58 [(0, .ref r0), (1, .int x1), (2, .int x2), (3, .int (x3 + 0)), (4, .int x4), (5, .int x5)] [.int (I b2 j17), .int x4] S P I _
      refine B.iload_n 1 dX9_tell_58 rfl rfl ?_
      refine B.icmp_ne 75 dX9_tell_59 (by decide) (fun q20 => ?_) (fun q20 => ?_)
      · replace h := h.1 q20
        refine B.iconst 0 dX9_tell_75 (by decide) ?_
        refine B.iadd dX9_tell_76 ?_
        refine B.istore (lv' := [(0, .ref r0), (1, .int x1), (2, .int x2), (3, .int (x3 + 0)), (4, .int (x4 + 0)), (5, .int x5)]) dX9_tell_77 (by decide) rfl ?_
        refine B.iinc (lv' := [(0, .ref r0), (1, .int x1), (2, .int x2), (3, .int (x3 + 0)), (4, .int (x4 + 0)), (5, .int (x5 + 1))]) 5 (x5 + 1) dX9_tell_79 rfl rfl (by decide) rfl ?_
        refine B.goto_ 19 dX9_tell_82 (by decide) ?_
        exact h
      · replace h := h.2 q20
        refine B.aload_n 0 dX9_tell_62 rfl rfl ?_
        refine B.iload 5 dX9_tell_63 rfl ?_
        refine B.callV (M' := MX9_stands) (rc := 0) (rs := 0) (mc := 0) (ms := 0) (st := [.int x4]) [.int x5] dX9_tell_65 mv_X9_stands lk_X9_134 ⟨Nat.le_of_ble_eq_true rfl, Nat.le_of_ble_eq_true rfl⟩ rfl rfl (Nat.le_of_ble_eq_true rfl) t1 ?_
        refine T_of rfl (Nat.le_of_ble_eq_true rfl) ?_
        show B g MX9_stands 0 0 0 [(0, .ref r0), (1, .int x5)] [] S P I _
        refine B.aload_n 0 dX9_stands_0 rfl rfl ?_
        refine B.iload_n 1 dX9_stands_1 rfl rfl ?_
        refine B.iconst 4 dX9_stands_2 (by decide) ?_
        refine B.callV (M' := MX9_its) (rc := 0) (rs := 0) (mc := 0) (ms := 0) (st := []) [.int x5, .int 4] dX9_stands_3 mv_X9_its lk_X9_130 ⟨Nat.le_of_ble_eq_true rfl, Nat.le_of_ble_eq_true rfl⟩ rfl rfl (Nat.le_of_ble_eq_true rfl) t1 ?_
        refine T_of rfl (Nat.le_of_ble_eq_true rfl) ?_
        show B g MX9_its 0 0 0 [(0, .ref r0), (1, .int x5), (2, .int 4)] [] S P I _
        refine B.aload_n 0 dX9_its_0 rfl rfl ?_
        refine B.getP dX9_its_1 fl_9_7 t1 t3 ?_
        refine B.sipush 300 dX9_its_4 (by decide) ?_
        refine B.bipush 8 dX9_its_7 (by decide) ?_
        refine B.iload_n 1 dX9_its_9 rfl rfl ?_
        refine B.imul dX9_its_10 ?_
        refine B.iadd dX9_its_11 ?_
        refine B.iload_n 2 dX9_its_12 rfl rfl ?_
        refine B.iadd dX9_its_13 ?_
        obtain ⟨j21, h⟩ := h
        obtain ⟨t22, h⟩ := h
        refine B.iaload dX9_its_14 t4 t22 ?_
        refine B.ireturn dX9_its_15 rfl rfl ?_
        show B g MX9_stands 0 0 6 [(0, .ref r0), (1, .int x5)] [.int (I b2 j21)] S P I _
        refine B.if_lt 13 dX9_stands_6 (by decide) (fun q23 => ?_) (fun q23 => ?_)
        · replace h := h.1 q23
          refine B.iconst 0 dX9_stands_13 (by decide) ?_
          refine B.ireturn dX9_stands_14 rfl rfl ?_
          show B g MX9_tell 0 0 68 [(0, .ref r0), (1, .int x1), (2, .int x2), (3, .int (x3 + 0)), (4, .int x4), (5, .int x5)] [.int 0, .int x4] S P I _
          refine B.if_eq 75 dX9_tell_68 (by decide) (fun _ => ?_) (fun q => absurd q (by decide))
          refine B.iconst 0 dX9_tell_75 (by decide) ?_
          refine B.iadd dX9_tell_76 ?_
          refine B.istore (lv' := [(0, .ref r0), (1, .int x1), (2, .int x2), (3, .int (x3 + 0)), (4, .int (x4 + 0)), (5, .int x5)]) dX9_tell_77 (by decide) rfl ?_
          refine B.iinc (lv' := [(0, .ref r0), (1, .int x1), (2, .int x2), (3, .int (x3 + 0)), (4, .int (x4 + 0)), (5, .int (x5 + 1))]) 5 (x5 + 1) dX9_tell_79 rfl rfl (by decide) rfl ?_
          refine B.goto_ 19 dX9_tell_82 (by decide) ?_
          exact h
        · replace h := h.2 q23
          refine B.iconst 1 dX9_stands_9 (by decide) ?_
          refine B.goto_ 14 dX9_stands_10 (by decide) ?_
          refine B.ireturn dX9_stands_14 rfl rfl ?_
          show B g MX9_tell 0 0 68 [(0, .ref r0), (1, .int x1), (2, .int x2), (3, .int (x3 + 0)), (4, .int x4), (5, .int x5)] [.int 1, .int x4] S P I _
          refine B.if_eq 75 dX9_tell_68 (by decide) (fun q => absurd q (by decide)) (fun _ => ?_)
          refine B.iconst 1 dX9_tell_71 (by decide) ?_
          refine B.goto_ 76 dX9_tell_72 (by decide) ?_
          refine B.iadd dX9_tell_76 ?_
          refine B.istore (lv' := [(0, .ref r0), (1, .int x1), (2, .int x2), (3, .int (x3 + 0)), (4, .int (x4 + 1)), (5, .int x5)]) dX9_tell_77 (by decide) rfl ?_
          refine B.iinc (lv' := [(0, .ref r0), (1, .int x1), (2, .int x2), (3, .int (x3 + 0)), (4, .int (x4 + 1)), (5, .int (x5 + 1))]) 5 (x5 + 1) dX9_tell_79 rfl rfl (by decide) rfl ?_
          refine B.goto_ 19 dX9_tell_82 (by decide) ?_
          exact h
    · replace h := h.2 q19
      refine B.iconst 1 dX9_tell_42 (by decide) ?_
      refine B.goto_ 47 dX9_tell_43 (by decide) ?_
      refine B.iadd dX9_tell_47 ?_
      refine B.istore_n (lv' := [(0, .ref r0), (1, .int x1), (2, .int x2), (3, .int (x3 + 1)), (4, .int x4), (5, .int x5)]) dX9_tell_48 rfl (by decide) rfl ?_
      refine B.iload 4 dX9_tell_49 rfl ?_
      refine B.aload_n 0 dX9_tell_51 rfl rfl ?_
      refine B.iload 5 dX9_tell_52 rfl ?_
      refine B.iconst 0 dX9_tell_54 (by decide) ?_
      refine B.callV (M' := MX9_its) (rc := 0) (rs := 0) (mc := 0) (ms := 0) (st := [.int x4]) [.int x5, .int 0] dX9_tell_55 mv_X9_its lk_X9_130 ⟨Nat.le_of_ble_eq_true rfl, Nat.le_of_ble_eq_true rfl⟩ rfl rfl (Nat.le_of_ble_eq_true rfl) t1 ?_
      refine T_of rfl (Nat.le_of_ble_eq_true rfl) ?_
      show B g MX9_its 0 0 0 [(0, .ref r0), (1, .int x5), (2, .int 0)] [] S P I _
      refine B.aload_n 0 dX9_its_0 rfl rfl ?_
      refine B.getP dX9_its_1 fl_9_7 t1 t3 ?_
      refine B.sipush 300 dX9_its_4 (by decide) ?_
      refine B.bipush 8 dX9_its_7 (by decide) ?_
      refine B.iload_n 1 dX9_its_9 rfl rfl ?_
      refine B.imul dX9_its_10 ?_
      refine B.iadd dX9_its_11 ?_
      refine B.iload_n 2 dX9_its_12 rfl rfl ?_
      refine B.iadd dX9_its_13 ?_
      refine B.iaload dX9_its_14 t4 t18 ?_
      refine B.ireturn dX9_its_15 rfl rfl ?_
      show B g MX9_tell 0 0 58 [(0, .ref r0), (1, .int x1), (2, .int x2), (3, .int (x3 + 1)), (4, .int x4), (5, .int x5)] [.int (I b2 j17), .int x4] S P I _
      refine B.iload_n 1 dX9_tell_58 rfl rfl ?_
      refine B.icmp_ne 75 dX9_tell_59 (by decide) (fun q24 => ?_) (fun q24 => ?_)
      · replace h := h.1 q24
        refine B.iconst 0 dX9_tell_75 (by decide) ?_
        refine B.iadd dX9_tell_76 ?_
        refine B.istore (lv' := [(0, .ref r0), (1, .int x1), (2, .int x2), (3, .int (x3 + 1)), (4, .int (x4 + 0)), (5, .int x5)]) dX9_tell_77 (by decide) rfl ?_
        refine B.iinc (lv' := [(0, .ref r0), (1, .int x1), (2, .int x2), (3, .int (x3 + 1)), (4, .int (x4 + 0)), (5, .int (x5 + 1))]) 5 (x5 + 1) dX9_tell_79 rfl rfl (by decide) rfl ?_
        refine B.goto_ 19 dX9_tell_82 (by decide) ?_
        exact h
      · replace h := h.2 q24
        refine B.aload_n 0 dX9_tell_62 rfl rfl ?_
        refine B.iload 5 dX9_tell_63 rfl ?_
        refine B.callV (M' := MX9_stands) (rc := 0) (rs := 0) (mc := 0) (ms := 0) (st := [.int x4]) [.int x5] dX9_tell_65 mv_X9_stands lk_X9_134 ⟨Nat.le_of_ble_eq_true rfl, Nat.le_of_ble_eq_true rfl⟩ rfl rfl (Nat.le_of_ble_eq_true rfl) t1 ?_
        refine T_of rfl (Nat.le_of_ble_eq_true rfl) ?_
        show B g MX9_stands 0 0 0 [(0, .ref r0), (1, .int x5)] [] S P I _
        refine B.aload_n 0 dX9_stands_0 rfl rfl ?_
        refine B.iload_n 1 dX9_stands_1 rfl rfl ?_
        refine B.iconst 4 dX9_stands_2 (by decide) ?_
        refine B.callV (M' := MX9_its) (rc := 0) (rs := 0) (mc := 0) (ms := 0) (st := []) [.int x5, .int 4] dX9_stands_3 mv_X9_its lk_X9_130 ⟨Nat.le_of_ble_eq_true rfl, Nat.le_of_ble_eq_true rfl⟩ rfl rfl (Nat.le_of_ble_eq_true rfl) t1 ?_
        refine T_of rfl (Nat.le_of_ble_eq_true rfl) ?_
        show B g MX9_its 0 0 0 [(0, .ref r0), (1, .int x5), (2, .int 4)] [] S P I _
        refine B.aload_n 0 dX9_its_0 rfl rfl ?_
        refine B.getP dX9_its_1 fl_9_7 t1 t3 ?_
        refine B.sipush 300 dX9_its_4 (by decide) ?_
        refine B.bipush 8 dX9_its_7 (by decide) ?_
        refine B.iload_n 1 dX9_its_9 rfl rfl ?_
        refine B.imul dX9_its_10 ?_
        refine B.iadd dX9_its_11 ?_
        refine B.iload_n 2 dX9_its_12 rfl rfl ?_
        refine B.iadd dX9_its_13 ?_
        obtain ⟨j25, h⟩ := h
        obtain ⟨t26, h⟩ := h
        refine B.iaload dX9_its_14 t4 t26 ?_
        refine B.ireturn dX9_its_15 rfl rfl ?_
        show B g MX9_stands 0 0 6 [(0, .ref r0), (1, .int x5)] [.int (I b2 j25)] S P I _
        refine B.if_lt 13 dX9_stands_6 (by decide) (fun q27 => ?_) (fun q27 => ?_)
        · replace h := h.1 q27
          refine B.iconst 0 dX9_stands_13 (by decide) ?_
          refine B.ireturn dX9_stands_14 rfl rfl ?_
          show B g MX9_tell 0 0 68 [(0, .ref r0), (1, .int x1), (2, .int x2), (3, .int (x3 + 1)), (4, .int x4), (5, .int x5)] [.int 0, .int x4] S P I _
          refine B.if_eq 75 dX9_tell_68 (by decide) (fun _ => ?_) (fun q => absurd q (by decide))
          refine B.iconst 0 dX9_tell_75 (by decide) ?_
          refine B.iadd dX9_tell_76 ?_
          refine B.istore (lv' := [(0, .ref r0), (1, .int x1), (2, .int x2), (3, .int (x3 + 1)), (4, .int (x4 + 0)), (5, .int x5)]) dX9_tell_77 (by decide) rfl ?_
          refine B.iinc (lv' := [(0, .ref r0), (1, .int x1), (2, .int x2), (3, .int (x3 + 1)), (4, .int (x4 + 0)), (5, .int (x5 + 1))]) 5 (x5 + 1) dX9_tell_79 rfl rfl (by decide) rfl ?_
          refine B.goto_ 19 dX9_tell_82 (by decide) ?_
          exact h
        · replace h := h.2 q27
          refine B.iconst 1 dX9_stands_9 (by decide) ?_
          refine B.goto_ 14 dX9_stands_10 (by decide) ?_
          refine B.ireturn dX9_stands_14 rfl rfl ?_
          show B g MX9_tell 0 0 68 [(0, .ref r0), (1, .int x1), (2, .int x2), (3, .int (x3 + 1)), (4, .int x4), (5, .int x5)] [.int 1, .int x4] S P I _
          refine B.if_eq 75 dX9_tell_68 (by decide) (fun q => absurd q (by decide)) (fun _ => ?_)
          refine B.iconst 1 dX9_tell_71 (by decide) ?_
          refine B.goto_ 76 dX9_tell_72 (by decide) ?_
          refine B.iadd dX9_tell_76 ?_
          refine B.istore (lv' := [(0, .ref r0), (1, .int x1), (2, .int x2), (3, .int (x3 + 1)), (4, .int (x4 + 1)), (5, .int x5)]) dX9_tell_77 (by decide) rfl ?_
          refine B.iinc (lv' := [(0, .ref r0), (1, .int x1), (2, .int x2), (3, .int (x3 + 1)), (4, .int (x4 + 1)), (5, .int (x5 + 1))]) 5 (x5 + 1) dX9_tell_79 rfl rfl (by decide) rfl ?_
          refine B.goto_ 19 dX9_tell_82 (by decide) ?_
          exact h
theorem s_X9_tell_158 {g : GT} {S : ST} {P : PT} {I : IT} {Q : QT} {r0 : Nat} {x1 : Int32} {x2 : Int32} {x3 : Int32} {x4 : Int32} {x5 : Int32} {w_s0 : Int32} {w_s1 : Int32} {a_s2 : Nat} (h : sT S a_s2 = 10 ∧ T g MX9_worthOf 0 0 [.ref a_s2, .int w_s1, .int w_s0] S P I (fun r S' P' I' => B g MX9_tell 0 0 161 [(0, .ref r0), (1, .int x1), (2, .int x2), (3, .int x3), (4, .int x4), (5, .int x5)] (r.toList ++ []) S' P' I' Q)) : B g MX9_tell 0 0 158 [(0, .ref r0), (1, .int x1), (2, .int x2), (3, .int x3), (4, .int x4), (5, .int x5)] [.int w_s0, .int w_s1, .ref a_s2] S P I Q := by
  obtain ⟨t1, h⟩ := h
  refine B.callV (M' := MX9_worthOf) (rc := 0) (rs := 0) (mc := 0) (ms := 0) (st := []) [.int w_s1, .int w_s0] dX9_tell_158 mv_X9_worthOf lk_X9_196 ⟨Nat.le_of_ble_eq_true rfl, Nat.le_of_ble_eq_true rfl⟩ rfl rfl (Nat.le_of_ble_eq_true rfl) t1 ?_
  exact h
theorem s_X9_tell_161 {g : GT} {S : ST} {P : PT} {I : IT} {Q : QT} {r0 : Nat} {x1 : Int32} {x2 : Int32} {x3 : Int32} {x4 : Int32} {x5 : Int32} {w_s0 : Int32} (h : Q (some (.int w_s0)) S P I) : B g MX9_tell 0 0 161 [(0, .ref r0), (1, .int x1), (2, .int x2), (3, .int x3), (4, .int x4), (5, .int x5)] [.int w_s0] S P I Q := by
  refine B.ireturn dX9_tell_161 rfl rfl ?_
  exact h
theorem s_X9_tell_167 {g : GT} {S : ST} {P : PT} {I : IT} {Q : QT} {r0 : Nat} {x1 : Int32} {x2 : Int32} {x3 : Int32} {x4 : Int32} {x5 : Int32} {w_s0 : Int32} (h : Q (some (.int w_s0)) S P I) : B g MX9_tell 0 0 167 [(0, .ref r0), (1, .int x1), (2, .int x2), (3, .int x3), (4, .int x4), (5, .int x5)] [.int w_s0] S P I Q := by
  refine B.ireturn dX9_tell_167 rfl rfl ?_
  exact h
