theorem s_X9_begins_0 {g : GT} {S : ST} {P : PT} {I : IT} {Q : QT} {r0 : Nat} {x1 : Int32} (h : sT S r0 = 10 ∧ ∃ b2, P r0 0 = b2 + 1 ∧ sT S b2 = 40 ∧ ∃ j5, ix 2 j5 (sL S b2) ∧ B g MX9_begins 0 0 9 [(0, .ref r0), (1, .int x1), (2, .int 0)] [] S P (u2 I b2 j5 x1) Q) : B g MX9_begins 0 0 0 [(0, .ref r0), (1, .int x1)] [] S P I Q := by
  refine B.aload_n 0 dX9_begins_0 rfl rfl ?_
  obtain ⟨t1, h⟩ := h
  obtain ⟨b2, h⟩ := h
  obtain ⟨t3, h⟩ := h
  refine B.getP dX9_begins_1 fl_9_7 t1 t3 ?_
  refine B.iconst 2 dX9_begins_4 (by decide) ?_
  refine B.iload_n 1 dX9_begins_5 rfl rfl ?_
  obtain ⟨t4, h⟩ := h
  obtain ⟨j5, h⟩ := h
  obtain ⟨t6, h⟩ := h
  refine B.iastore dX9_begins_6 t4 t6 ?_
  refine B.iconst 0 dX9_begins_7 (by decide) ?_
  refine B.istore_n (lv' := [(0, .ref r0), (1, .int x1), (2, .int 0)]) dX9_begins_8 rfl (by decide) rfl ?_
  exact h
theorem s_X9_begins_9 {g : GT} {S : ST} {P : PT} {I : IT} {Q : QT} {r0 : Nat} {x1 : Int32} {x2 : Int32} (h : ((6 ≤ x2 → Q none S P I) ∧ (¬ 6 ≤ x2 → sT S r0 = 10 ∧ ∃ b3, P r0 0 = b3 + 1 ∧ sT S b3 = 40 ∧ ∃ j6, ix (10 + x2) j6 (sL S b3) ∧ B g MX9_begins 0 0 28 [(0, .ref r0), (1, .int x1), (2, .int x2), (3, .int 0)] [] S P (u2 I b3 j6 20) Q))) : B g MX9_begins 0 0 9 [(0, .ref r0), (1, .int x1), (2, .int x2)] [] S P I Q := by
  refine B.iload_n 2 dX9_begins_9 rfl rfl ?_
  refine B.bipush 6 dX9_begins_10 (by decide) ?_
  refine B.icmp_ge 64 dX9_begins_12 (by decide) (fun q1 => ?_) (fun q1 => ?_)
  · replace h := h.1 q1
    refine B.return_ dX9_begins_64 rfl ?_
    exact h
  · replace h := h.2 q1
    refine B.aload_n 0 dX9_begins_15 rfl rfl ?_
    obtain ⟨t2, h⟩ := h
    obtain ⟨b3, h⟩ := h
    obtain ⟨t4, h⟩ := h
    refine B.getP dX9_begins_16 fl_9_7 t2 t4 ?_
    refine B.bipush 10 dX9_begins_19 (by decide) ?_
    refine B.iload_n 2 dX9_begins_21 rfl rfl ?_
    refine B.iadd dX9_begins_22 ?_
    refine B.bipush 20 dX9_begins_23 (by decide) ?_
    obtain ⟨t5, h⟩ := h
    obtain ⟨j6, h⟩ := h
    obtain ⟨t7, h⟩ := h
    refine B.iastore dX9_begins_25 t5 t7 ?_
    refine B.iconst 0 dX9_begins_26 (by decide) ?_
    refine B.istore_n (lv' := [(0, .ref r0), (1, .int x1), (2, .int x2), (3, .int 0)]) dX9_begins_27 rfl (by decide) rfl ?_
    exact h
theorem s_X9_begins_28 {g : GT} {S : ST} {P : PT} {I : IT} {Q : QT} {r0 : Nat} {x1 : Int32} {x2 : Int32} {x3 : Int32} (h : ((4 ≤ x3 → B g MX9_begins 0 0 9 [(0, .ref r0), (1, .int x1), (2, .int (x2 + 1))] [] S P I Q) ∧ (¬ 4 ≤ x3 → sT S r0 = 10 ∧ ∃ b3, P r0 0 = b3 + 1 ∧ sT S b3 = 40 ∧ ∃ j6, ix ((16 + (4 * x2)) + x3) j6 (sL S b3) ∧ B g MX9_begins 0 0 28 [(0, .ref r0), (1, .int x1), (2, .int x2), (3, .int (x3 + 1))] [] S P (u2 I b3 j6 ((10 - x2) + x3)) Q))) : B g MX9_begins 0 0 28 [(0, .ref r0), (1, .int x1), (2, .int x2), (3, .int x3)] [] S P I Q := by
  refine B.iload_n 3 dX9_begins_28 rfl rfl ?_
  refine B.iconst 4 dX9_begins_29 (by decide) ?_
  refine B.icmp_ge 58 dX9_begins_30 (by decide) (fun q1 => ?_) (fun q1 => ?_)
  · replace h := h.1 q1
    refine B.iinc (lv' := [(0, .ref r0), (1, .int x1), (2, .int (x2 + 1)), (3, .int x3)]) 2 (x2 + 1) dX9_begins_58 rfl rfl (by decide) rfl ?_
    refine B.goto_ 9 dX9_begins_61 (by decide) ?_
    refine B.lvs [(0, .ref r0), (1, .int x1), (2, .int (x2 + 1))] [0, 1, 2] rfl ?_
    exact h
  · replace h := h.2 q1
    refine B.aload_n 0 dX9_begins_33 rfl rfl ?_
    obtain ⟨t2, h⟩ := h
    obtain ⟨b3, h⟩ := h
    obtain ⟨t4, h⟩ := h
    refine B.getP dX9_begins_34 fl_9_7 t2 t4 ?_
    refine B.bipush 16 dX9_begins_37 (by decide) ?_
    refine B.iconst 4 dX9_begins_39 (by decide) ?_
    refine B.iload_n 2 dX9_begins_40 rfl rfl ?_
    refine B.imul dX9_begins_41 ?_
    refine B.iadd dX9_begins_42 ?_
    refine B.iload_n 3 dX9_begins_43 rfl rfl ?_
    refine B.iadd dX9_begins_44 ?_
    refine B.bipush 10 dX9_begins_45 (by decide) ?_
    refine B.iload_n 2 dX9_begins_47 rfl rfl ?_
    refine B.isub dX9_begins_48 ?_
    refine B.iload_n 3 dX9_begins_49 rfl rfl ?_
    refine B.iadd dX9_begins_50 ?_
    obtain ⟨t5, h⟩ := h
    obtain ⟨j6, h⟩ := h
    obtain ⟨t7, h⟩ := h
    refine B.iastore dX9_begins_51 t5 t7 ?_
    refine B.iinc (lv' := [(0, .ref r0), (1, .int x1), (2, .int x2), (3, .int (x3 + 1))]) 3 (x3 + 1) dX9_begins_52 rfl rfl (by decide) rfl ?_
    refine B.goto_ 28 dX9_begins_55 (by decide) ?_
    exact h
theorem s_X9_feed_0 {g : GT} {S : ST} {P : PT} {I : IT} {Q : QT} {r0 : Nat} {x1 : Int32} {x2 : Int32} {x3 : Int32} {x4 : Int32} {x5 : Int32} (h : sT S r0 = 10 ∧ ∃ b2, P r0 0 = b2 + 1 ∧ sT S b2 = 40 ∧ ∃ j5, ix 7 j5 (sL S b2) ∧ ((((I b2 j5) + 20) ≤ 300 → B g MX9_feed 0 0 21 [(0, .ref r0), (1, .int x1), (2, .int x2), (3, .int x3), (4, .int x4), (5, .int x5), (6, .int 0)] [] S P I Q) ∧ (¬ ((I b2 j5) + 20) ≤ 300 → Q (some (.int (-1))) S P I))) : B g MX9_feed 0 0 0 [(0, .ref r0), (1, .int x1), (2, .int x2), (3, .int x3), (4, .int x4), (5, .int x5)] [] S P I Q := by
  refine B.aload_n 0 dX9_feed_0 rfl rfl ?_
  obtain ⟨t1, h⟩ := h
  obtain ⟨b2, h⟩ := h
  obtain ⟨t3, h⟩ := h
  refine B.getP dX9_feed_1 fl_9_7 t1 t3 ?_
  refine B.bipush 7 dX9_feed_4 (by decide) ?_
  obtain ⟨t4, h⟩ := h
  obtain ⟨j5, h⟩ := h
  obtain ⟨t6, h⟩ := h
  refine B.iaload dX9_feed_6 t4 t6 ?_
  refine B.bipush 20 dX9_feed_7 (by decide) ?_
  refine B.iadd dX9_feed_9 ?_
  refine B.sipush 300 dX9_feed_10 (by decide) ?_
  refine B.icmp_le 18 dX9_feed_13 (by decide) (fun q7 => ?_) (fun q7 => ?_)
  · replace h := h.1 q7
    refine B.iconst 0 dX9_feed_18 (by decide) ?_
    refine B.istore (lv' := [(0, .ref r0), (1, .int x1), (2, .int x2), (3, .int x3), (4, .int x4), (5, .int x5), (6, .int 0)]) dX9_feed_19 (by decide) rfl ?_
    exact h
  · replace h := h.2 q7
    refine B.iconst (-1) dX9_feed_16 (by decide) ?_
    refine B.ireturn dX9_feed_17 rfl rfl ?_
    exact h
theorem s_X9_feed_21 {g : GT} {S : ST} {P : PT} {I : IT} {Q : QT} {r0 : Nat} {x1 : Int32} {x2 : Int32} {x3 : Int32} {x4 : Int32} {x5 : Int32} {x6 : Int32} (h : ((20 ≤ x6 → sT S r0 = 10 ∧ ∃ b3, P r0 0 = b3 + 1 ∧ sT S b3 = 40 ∧ ∃ j6, ix 7 j6 (sL S b3) ∧ Q (some (.int (I b3 j6))) S P I) ∧ (¬ 20 ≤ x6 → ((4 ≤ x6 → ((8 ≤ x6 → ((12 ≤ x6 → ((16 ≤ x6 → B g MX9_feed 0 0 74 [(0, .ref r0), (1, .int x1), (2, .int x2), (3, .int x3), (4, .int x4), (5, .int x5), (6, .int x6)] [.int x5] S P I Q) ∧ (¬ 16 ≤ x6 → B g MX9_feed 0 0 74 [(0, .ref r0), (1, .int x1), (2, .int x2), (3, .int x3), (4, .int x4), (5, .int x5), (6, .int x6)] [.int x4] S P I Q))) ∧ (¬ 12 ≤ x6 → B g MX9_feed 0 0 74 [(0, .ref r0), (1, .int x1), (2, .int x2), (3, .int x3), (4, .int x4), (5, .int x5), (6, .int x6)] [.int x3] S P I Q))) ∧ (¬ 8 ≤ x6 → B g MX9_feed 0 0 74 [(0, .ref r0), (1, .int x1), (2, .int x2), (3, .int x3), (4, .int x4), (5, .int x5), (6, .int x6)] [.int x2] S P I Q))) ∧ (¬ 4 ≤ x6 → B g MX9_feed 0 0 74 [(0, .ref r0), (1, .int x1), (2, .int x2), (3, .int x3), (4, .int x4), (5, .int x5), (6, .int x6)] [.int x1] S P I Q))))) : B g MX9_feed 0 0 21 [(0, .ref r0), (1, .int x1), (2, .int x2), (3, .int x3), (4, .int x4), (5, .int x5), (6, .int x6)] [] S P I Q := by
  refine B.iload 6 dX9_feed_21 rfl ?_
  refine B.bipush 20 dX9_feed_23 (by decide) ?_
  refine B.icmp_ge 126 dX9_feed_25 (by decide) (fun q1 => ?_) (fun q1 => ?_)
  · replace h := h.1 q1
    refine B.aload_n 0 dX9_feed_126 rfl rfl ?_
    obtain ⟨t2, h⟩ := h
    obtain ⟨b3, h⟩ := h
    obtain ⟨t4, h⟩ := h
    refine B.getP dX9_feed_127 fl_9_7 t2 t4 ?_
    refine B.bipush 7 dX9_feed_130 (by decide) ?_
    obtain ⟨t5, h⟩ := h
    obtain ⟨j6, h⟩ := h
    obtain ⟨t7, h⟩ := h
    refine B.iaload dX9_feed_132 t5 t7 ?_
    refine B.ireturn dX9_feed_133 rfl rfl ?_
    exact h
  · replace h := h.2 q1
    refine B.iload 6 dX9_feed_28 rfl ?_
    refine B.iconst 4 dX9_feed_30 (by decide) ?_
    refine B.icmp_ge 38 dX9_feed_31 (by decide) (fun q8 => ?_) (fun q8 => ?_)
    · replace h := h.1 q8
      refine B.iload 6 dX9_feed_38 rfl ?_
      refine B.bipush 8 dX9_feed_40 (by decide) ?_
      refine B.icmp_ge 49 dX9_feed_42 (by decide) (fun q9 => ?_) (fun q9 => ?_)
      · replace h := h.1 q9
        refine B.iload 6 dX9_feed_49 rfl ?_
        refine B.bipush 12 dX9_feed_51 (by decide) ?_
        refine B.icmp_ge 60 dX9_feed_53 (by decide) (fun q10 => ?_) (fun q10 => ?_)
        · replace h := h.1 q10
          refine B.iload 6 dX9_feed_60 rfl ?_
          refine B.bipush 16 dX9_feed_62 (by decide) ?_
          refine B.icmp_ge 72 dX9_feed_64 (by decide) (fun q11 => ?_) (fun q11 => ?_)
          · replace h := h.1 q11
            refine B.iload 5 dX9_feed_72 rfl ?_
            exact h
          · replace h := h.2 q11
            refine B.iload 4 dX9_feed_67 rfl ?_
            refine B.goto_ 74 dX9_feed_69 (by decide) ?_
            exact h
        · replace h := h.2 q10
          refine B.iload_n 3 dX9_feed_56 rfl rfl ?_
          refine B.goto_ 74 dX9_feed_57 (by decide) ?_
          exact h
      · replace h := h.2 q9
        refine B.iload_n 2 dX9_feed_45 rfl rfl ?_
        refine B.goto_ 74 dX9_feed_46 (by decide) ?_
        exact h
    · replace h := h.2 q8
      refine B.iload_n 1 dX9_feed_34 rfl rfl ?_
      refine B.goto_ 74 dX9_feed_35 (by decide) ?_
      exact h
theorem s_X9_feed_74 {g : GT} {S : ST} {P : PT} {I : IT} {Q : QT} {r0 : Nat} {x1 : Int32} {x2 : Int32} {x3 : Int32} {x4 : Int32} {x5 : Int32} {x6 : Int32} {w_s0 : Int32} (h : sT S r0 = 10 ∧ ∃ b2, P r0 0 = b2 + 1 ∧ sT S b2 = 40 ∧ ∃ j5, ix 7 j5 (sL S b2) ∧ ∃ j7, ix (720 + (I b2 j5)) j7 (sL S b2) ∧ B g MX9_feed 0 0 21 [(0, .ref r0), (1, .int x1), (2, .int x2), (3, .int x3), (4, .int x4), (5, .int x5), (6, .int (x6 + 1))] [] S P (u2 (u2 I b2 j7 ((w_s0 >>> ((24 - (8 * (x6 - (x6 / 4) * 4))) &&& 31)) &&& 255)) b2 j5 (((u2 I b2 j7 ((w_s0 >>> ((24 - (8 * (x6 - (x6 / 4) * 4))) &&& 31)) &&& 255)) b2 j5) + 1)) Q) : B g MX9_feed 0 0 74 [(0, .ref r0), (1, .int x1), (2, .int x2), (3, .int x3), (4, .int x4), (5, .int x5), (6, .int x6)] [.int w_s0] S P I Q := by
  refine B.istore (lv' := [(0, .ref r0), (1, .int x1), (2, .int x2), (3, .int x3), (4, .int x4), (5, .int x5), (6, .int x6), (7, .int w_s0)]) dX9_feed_74 (by decide) rfl ?_
  refine B.aload_n 0 dX9_feed_76 rfl rfl ?_
  obtain ⟨t1, h⟩ := h
  obtain ⟨b2, h⟩ := h
  obtain ⟨t3, h⟩ := h
  refine B.getP dX9_feed_77 fl_9_7 t1 t3 ?_
  refine B.sipush 720 dX9_feed_80 (by decide) ?_
  refine B.aload_n 0 dX9_feed_83 rfl rfl ?_
  refine B.getP dX9_feed_84 fl_9_7 t1 t3 ?_
  refine B.bipush 7 dX9_feed_87 (by decide) ?_
  obtain ⟨t4, h⟩ := h
  obtain ⟨j5, h⟩ := h
  obtain ⟨t6, h⟩ := h
  refine B.iaload dX9_feed_89 t4 t6 ?_
  refine B.iadd dX9_feed_90 ?_
  refine B.iload 7 dX9_feed_91 rfl ?_
  refine B.bipush 24 dX9_feed_93 (by decide) ?_
  refine B.bipush 8 dX9_feed_95 (by decide) ?_
  refine B.iload 6 dX9_feed_97 rfl ?_
  refine B.iconst 4 dX9_feed_99 (by decide) ?_
  refine B.irem dX9_feed_100 (by decide) ?_
  refine B.imul dX9_feed_101 ?_
  refine B.isub dX9_feed_102 ?_
  refine B.ishr dX9_feed_103 ?_
  refine B.sipush 255 dX9_feed_104 (by decide) ?_
  refine B.iand dX9_feed_107 ?_
  obtain ⟨j7, h⟩ := h
  obtain ⟨t8, h⟩ := h
  refine B.iastore dX9_feed_108 t4 t8 ?_
  refine B.aload_n 0 dX9_feed_109 rfl rfl ?_
  refine B.getP dX9_feed_110 fl_9_7 t1 t3 ?_
  refine B.bipush 7 dX9_feed_113 (by decide) ?_
  refine B.dup2 dX9_feed_115 rfl rfl ?_
  refine B.iaload dX9_feed_116 t4 t6 ?_
  refine B.iconst 1 dX9_feed_117 (by decide) ?_
  refine B.iadd dX9_feed_118 ?_
  refine B.iastore dX9_feed_119 t4 t6 ?_
  refine B.iinc (lv' := [(0, .ref r0), (1, .int x1), (2, .int x2), (3, .int x3), (4, .int x4), (5, .int x5), (6, .int (x6 + 1)), (7, .int w_s0)]) 6 (x6 + 1) dX9_feed_120 rfl rfl (by decide) rfl ?_
  refine B.goto_ 21 dX9_feed_123 (by decide) ?_
  refine B.lvs [(0, .ref r0), (1, .int x1), (2, .int x2), (3, .int x3), (4, .int x4), (5, .int x5), (6, .int (x6 + 1))] [0, 1, 2, 3, 4, 5, 6] rfl ?_
  exact h
theorem s_X9_end_0 {g : GT} {S : ST} {P : PT} {I : IT} {Q : QT} {r0 : Nat} {x1 : Int32} (h : ((x1 < 0 → Q (some (.int (-1))) S P I) ∧ (¬ x1 < 0 → sT S r0 = 10 ∧ ∃ b3, P r0 0 = b3 + 1 ∧ sT S b3 = 40 ∧ ∃ j6, ix 7 j6 (sL S b3) ∧ ((x1 ≤ (I b3 j6) → Q (some (.int x1)) S P (u2 I b3 j6 x1)) ∧ (¬ x1 ≤ (I b3 j6) → Q (some (.int (-1))) S P I))))) : B g MX9_end 0 0 0 [(0, .ref r0), (1, .int x1)] [] S P I Q := by
  refine B.iload_n 1 dX9_end_0 rfl rfl ?_
  refine B.if_lt 15 dX9_end_1 (by decide) (fun q1 => ?_) (fun q1 => ?_)
  · replace h := h.1 q1
    refine B.iconst (-1) dX9_end_15 (by decide) ?_
    refine B.ireturn dX9_end_16 rfl rfl ?_
    exact h
  · replace h := h.2 q1
    refine B.iload_n 1 dX9_end_4 rfl rfl ?_
    refine B.aload_n 0 dX9_end_5 rfl rfl ?_
    obtain ⟨t2, h⟩ := h
    obtain ⟨b3, h⟩ := h
    obtain ⟨t4, h⟩ := h
    refine B.getP dX9_end_6 fl_9_7 t2 t4 ?_
    refine B.bipush 7 dX9_end_9 (by decide) ?_
    obtain ⟨t5, h⟩ := h
    obtain ⟨j6, h⟩ := h
    obtain ⟨t7, h⟩ := h
    refine B.iaload dX9_end_11 t5 t7 ?_
    refine B.icmp_le 17 dX9_end_12 (by decide) (fun q8 => ?_) (fun q8 => ?_)
    · replace h := h.1 q8
      refine B.aload_n 0 dX9_end_17 rfl rfl ?_
      refine B.getP dX9_end_18 fl_9_7 t2 t4 ?_
      refine B.bipush 7 dX9_end_21 (by decide) ?_
      refine B.iload_n 1 dX9_end_23 rfl rfl ?_
      refine B.iastore dX9_end_24 t5 t7 ?_
      refine B.iload_n 1 dX9_end_25 rfl rfl ?_
      refine B.ireturn dX9_end_26 rfl rfl ?_
      exact h
    · replace h := h.2 q8
      refine B.iconst (-1) dX9_end_15 (by decide) ?_
      refine B.ireturn dX9_end_16 rfl rfl ?_
      exact h
theorem s_X9_wordOf_0 {g : GT} {S : ST} {P : PT} {I : IT} {Q : QT} {l0 : Int64} (h : ((¬ (lg_cmp l0 ((((((thr 99 104 97) * 32768) + (thr 109 98 101)) * 32) + 114) - 96)) = 0 → ((¬ (lg_cmp l0 (fou 115 112 111 116)) = 0 → ((¬ (lg_cmp l0 ((((fou 115 104 97 112) * 32) + 101) - 96)) = 0 → ((¬ (lg_cmp l0 ((((fou 103 108 97 122) * 32) + 101) - 96)) = 0 → ((¬ (lg_cmp l0 ((((fou 104 111 117 115) * 32) + 101) - 96)) = 0 → ((¬ (lg_cmp l0 (thr 119 101 116)) = 0 → ((¬ (lg_cmp l0 (fou 114 105 112 101)) = 0 → ((¬ (lg_cmp l0 (fou 98 101 97 114)) = 0 → ((¬ (lg_cmp l0 (fou 112 97 114 116)) = 0 → ((¬ (lg_cmp l0 294) = 0 → ((¬ (lg_cmp l0 (thr 97 110 100)) = 0 → ((¬ (lg_cmp l0 (thr 110 111 116)) = 0 → Q (some (.int 99)) S P I) ∧ ((lg_cmp l0 (thr 110 111 116)) = 0 → Q (some (.int 32)) S P I))) ∧ ((lg_cmp l0 (thr 97 110 100)) = 0 → Q (some (.int 31)) S P I))) ∧ ((lg_cmp l0 294) = 0 → Q (some (.int 30)) S P I))) ∧ ((lg_cmp l0 (fou 112 97 114 116)) = 0 → Q (some (.int 21)) S P I))) ∧ ((lg_cmp l0 (fou 98 101 97 114)) = 0 → Q (some (.int 20)) S P I))) ∧ ((lg_cmp l0 (fou 114 105 112 101)) = 0 → Q (some (.int 7)) S P I))) ∧ ((lg_cmp l0 (thr 119 101 116)) = 0 → Q (some (.int 6)) S P I))) ∧ ((lg_cmp l0 ((((fou 104 111 117 115) * 32) + 101) - 96)) = 0 → Q (some (.int 5)) S P I))) ∧ ((lg_cmp l0 ((((fou 103 108 97 122) * 32) + 101) - 96)) = 0 → Q (some (.int 4)) S P I))) ∧ ((lg_cmp l0 ((((fou 115 104 97 112) * 32) + 101) - 96)) = 0 → Q (some (.int 3)) S P I))) ∧ ((lg_cmp l0 (fou 115 112 111 116)) = 0 → Q (some (.int 2)) S P I))) ∧ ((lg_cmp l0 ((((((thr 99 104 97) * 32768) + (thr 109 98 101)) * 32) + 114) - 96)) = 0 → Q (some (.int 1)) S P I))) : B g MX9_wordOf 0 0 0 [(0, .long l0)] [] S P I Q := by
  refine B.lload_n 0 dX9_wordOf_0 rfl rfl ?_
  refine B.bipush 99 dX9_wordOf_1 (by decide) ?_
  refine B.bipush 104 dX9_wordOf_3 (by decide) ?_
  refine B.bipush 97 dX9_wordOf_5 (by decide) ?_
  refine B.callS (M' := MX9_three) (rc := 0) (rs := 0) (mc := 0) (ms := 0) (st := [.long l0]) [.int 99, .int 104, .int 97] dX9_wordOf_7 ms_X9_three lk_X9_38 ⟨Nat.le_of_ble_eq_true rfl, Nat.le_of_ble_eq_true rfl⟩ rfl rfl (Nat.le_of_ble_eq_true rfl) (t_three ?_)
  show B g MX9_wordOf 0 0 10 [(0, .long l0)] [.long (thr 99 104 97), .long l0] S P I _
  refine B.ldc2 32768 dX9_wordOf_10 kl_X9_42 ?_
  refine B.lmul dX9_wordOf_13 ?_
  refine B.bipush 109 dX9_wordOf_14 (by decide) ?_
  refine B.bipush 98 dX9_wordOf_16 (by decide) ?_
  refine B.bipush 101 dX9_wordOf_18 (by decide) ?_
  refine B.callS (M' := MX9_three) (rc := 0) (rs := 0) (mc := 0) (ms := 0) (st := [.long ((thr 99 104 97) * 32768), .long l0]) [.int 109, .int 98, .int 101] dX9_wordOf_20 ms_X9_three lk_X9_38 ⟨Nat.le_of_ble_eq_true rfl, Nat.le_of_ble_eq_true rfl⟩ rfl rfl (Nat.le_of_ble_eq_true rfl) (t_three ?_)
  show B g MX9_wordOf 0 0 23 [(0, .long l0)] [.long (thr 109 98 101), .long ((thr 99 104 97) * 32768), .long l0] S P I _
  refine B.ladd dX9_wordOf_23 ?_
  refine B.ldc2 32 dX9_wordOf_24 kl_X9_34 ?_
  refine B.lmul dX9_wordOf_27 ?_
  refine B.ldc2 114 dX9_wordOf_28 kl_X9_44 ?_
  refine B.ladd dX9_wordOf_31 ?_
  refine B.ldc2 96 dX9_wordOf_32 kl_X9_36 ?_
  refine B.lsub dX9_wordOf_35 ?_
  refine B.lcmp dX9_wordOf_36 ?_
  refine B.if_ne 42 dX9_wordOf_37 (by decide) (fun q1 => ?_) (fun q1 => ?_)
  · replace h := h.1 q1
    refine B.lload_n 0 dX9_wordOf_42 rfl rfl ?_
    refine B.bipush 115 dX9_wordOf_43 (by decide) ?_
    refine B.bipush 112 dX9_wordOf_45 (by decide) ?_
    refine B.bipush 111 dX9_wordOf_47 (by decide) ?_
    refine B.bipush 116 dX9_wordOf_49 (by decide) ?_
    refine B.callS (M' := MX9_four) (rc := 0) (rs := 0) (mc := 0) (ms := 0) (st := [.long l0]) [.int 115, .int 112, .int 111, .int 116] dX9_wordOf_51 ms_X9_four lk_X9_46 ⟨Nat.le_of_ble_eq_true rfl, Nat.le_of_ble_eq_true rfl⟩ rfl rfl (Nat.le_of_ble_eq_true rfl) (t_four ?_)
    show B g MX9_wordOf 0 0 54 [(0, .long l0)] [.long (fou 115 112 111 116), .long l0] S P I _
    refine B.lcmp dX9_wordOf_54 ?_
    refine B.if_ne 60 dX9_wordOf_55 (by decide) (fun q2 => ?_) (fun q2 => ?_)
    · replace h := h.1 q2
      refine B.lload_n 0 dX9_wordOf_60 rfl rfl ?_
      refine B.bipush 115 dX9_wordOf_61 (by decide) ?_
      refine B.bipush 104 dX9_wordOf_63 (by decide) ?_
      refine B.bipush 97 dX9_wordOf_65 (by decide) ?_
      refine B.bipush 112 dX9_wordOf_67 (by decide) ?_
      refine B.callS (M' := MX9_four) (rc := 0) (rs := 0) (mc := 0) (ms := 0) (st := [.long l0]) [.int 115, .int 104, .int 97, .int 112] dX9_wordOf_69 ms_X9_four lk_X9_46 ⟨Nat.le_of_ble_eq_true rfl, Nat.le_of_ble_eq_true rfl⟩ rfl rfl (Nat.le_of_ble_eq_true rfl) (t_four ?_)
      show B g MX9_wordOf 0 0 72 [(0, .long l0)] [.long (fou 115 104 97 112), .long l0] S P I _
      refine B.ldc2 32 dX9_wordOf_72 kl_X9_34 ?_
      refine B.lmul dX9_wordOf_75 ?_
      refine B.ldc2 101 dX9_wordOf_76 kl_X9_50 ?_
      refine B.ladd dX9_wordOf_79 ?_
      refine B.ldc2 96 dX9_wordOf_80 kl_X9_36 ?_
      refine B.lsub dX9_wordOf_83 ?_
      refine B.lcmp dX9_wordOf_84 ?_
      refine B.if_ne 90 dX9_wordOf_85 (by decide) (fun q3 => ?_) (fun q3 => ?_)
      · replace h := h.1 q3
        refine B.lload_n 0 dX9_wordOf_90 rfl rfl ?_
        refine B.bipush 103 dX9_wordOf_91 (by decide) ?_
        refine B.bipush 108 dX9_wordOf_93 (by decide) ?_
        refine B.bipush 97 dX9_wordOf_95 (by decide) ?_
        refine B.bipush 122 dX9_wordOf_97 (by decide) ?_
        refine B.callS (M' := MX9_four) (rc := 0) (rs := 0) (mc := 0) (ms := 0) (st := [.long l0]) [.int 103, .int 108, .int 97, .int 122] dX9_wordOf_99 ms_X9_four lk_X9_46 ⟨Nat.le_of_ble_eq_true rfl, Nat.le_of_ble_eq_true rfl⟩ rfl rfl (Nat.le_of_ble_eq_true rfl) (t_four ?_)
        show B g MX9_wordOf 0 0 102 [(0, .long l0)] [.long (fou 103 108 97 122), .long l0] S P I _
        refine B.ldc2 32 dX9_wordOf_102 kl_X9_34 ?_
        refine B.lmul dX9_wordOf_105 ?_
        refine B.ldc2 101 dX9_wordOf_106 kl_X9_50 ?_
        refine B.ladd dX9_wordOf_109 ?_
        refine B.ldc2 96 dX9_wordOf_110 kl_X9_36 ?_
        refine B.lsub dX9_wordOf_113 ?_
        refine B.lcmp dX9_wordOf_114 ?_
        refine B.if_ne 120 dX9_wordOf_115 (by decide) (fun q4 => ?_) (fun q4 => ?_)
        · replace h := h.1 q4
          refine B.lload_n 0 dX9_wordOf_120 rfl rfl ?_
          refine B.bipush 104 dX9_wordOf_121 (by decide) ?_
          refine B.bipush 111 dX9_wordOf_123 (by decide) ?_
          refine B.bipush 117 dX9_wordOf_125 (by decide) ?_
          refine B.bipush 115 dX9_wordOf_127 (by decide) ?_
          refine B.callS (M' := MX9_four) (rc := 0) (rs := 0) (mc := 0) (ms := 0) (st := [.long l0]) [.int 104, .int 111, .int 117, .int 115] dX9_wordOf_129 ms_X9_four lk_X9_46 ⟨Nat.le_of_ble_eq_true rfl, Nat.le_of_ble_eq_true rfl⟩ rfl rfl (Nat.le_of_ble_eq_true rfl) (t_four ?_)
          show B g MX9_wordOf 0 0 132 [(0, .long l0)] [.long (fou 104 111 117 115), .long l0] S P I _
          refine B.ldc2 32 dX9_wordOf_132 kl_X9_34 ?_
          refine B.lmul dX9_wordOf_135 ?_
          refine B.ldc2 101 dX9_wordOf_136 kl_X9_50 ?_
          refine B.ladd dX9_wordOf_139 ?_
          refine B.ldc2 96 dX9_wordOf_140 kl_X9_36 ?_
          refine B.lsub dX9_wordOf_143 ?_
          refine B.lcmp dX9_wordOf_144 ?_
          refine B.if_ne 150 dX9_wordOf_145 (by decide) (fun q5 => ?_) (fun q5 => ?_)
          · replace h := h.1 q5
            refine B.lload_n 0 dX9_wordOf_150 rfl rfl ?_
            refine B.bipush 119 dX9_wordOf_151 (by decide) ?_
            refine B.bipush 101 dX9_wordOf_153 (by decide) ?_
            refine B.bipush 116 dX9_wordOf_155 (by decide) ?_
            refine B.callS (M' := MX9_three) (rc := 0) (rs := 0) (mc := 0) (ms := 0) (st := [.long l0]) [.int 119, .int 101, .int 116] dX9_wordOf_157 ms_X9_three lk_X9_38 ⟨Nat.le_of_ble_eq_true rfl, Nat.le_of_ble_eq_true rfl⟩ rfl rfl (Nat.le_of_ble_eq_true rfl) (t_three ?_)
            show B g MX9_wordOf 0 0 160 [(0, .long l0)] [.long (thr 119 101 116), .long l0] S P I _
            refine B.lcmp dX9_wordOf_160 ?_
            refine B.if_ne 167 dX9_wordOf_161 (by decide) (fun q6 => ?_) (fun q6 => ?_)
            · replace h := h.1 q6
              refine B.lload_n 0 dX9_wordOf_167 rfl rfl ?_
              refine B.bipush 114 dX9_wordOf_168 (by decide) ?_
              refine B.bipush 105 dX9_wordOf_170 (by decide) ?_
              refine B.bipush 112 dX9_wordOf_172 (by decide) ?_
              refine B.bipush 101 dX9_wordOf_174 (by decide) ?_
              refine B.callS (M' := MX9_four) (rc := 0) (rs := 0) (mc := 0) (ms := 0) (st := [.long l0]) [.int 114, .int 105, .int 112, .int 101] dX9_wordOf_176 ms_X9_four lk_X9_46 ⟨Nat.le_of_ble_eq_true rfl, Nat.le_of_ble_eq_true rfl⟩ rfl rfl (Nat.le_of_ble_eq_true rfl) (t_four ?_)
              show B g MX9_wordOf 0 0 179 [(0, .long l0)] [.long (fou 114 105 112 101), .long l0] S P I _
              refine B.lcmp dX9_wordOf_179 ?_
              refine B.if_ne 186 dX9_wordOf_180 (by decide) (fun q7 => ?_) (fun q7 => ?_)
              · replace h := h.1 q7
                refine B.lload_n 0 dX9_wordOf_186 rfl rfl ?_
                refine B.bipush 98 dX9_wordOf_187 (by decide) ?_
                refine B.bipush 101 dX9_wordOf_189 (by decide) ?_
                refine B.bipush 97 dX9_wordOf_191 (by decide) ?_
                refine B.bipush 114 dX9_wordOf_193 (by decide) ?_
                refine B.callS (M' := MX9_four) (rc := 0) (rs := 0) (mc := 0) (ms := 0) (st := [.long l0]) [.int 98, .int 101, .int 97, .int 114] dX9_wordOf_195 ms_X9_four lk_X9_46 ⟨Nat.le_of_ble_eq_true rfl, Nat.le_of_ble_eq_true rfl⟩ rfl rfl (Nat.le_of_ble_eq_true rfl) (t_four ?_)
                show B g MX9_wordOf 0 0 198 [(0, .long l0)] [.long (fou 98 101 97 114), .long l0] S P I _
                refine B.lcmp dX9_wordOf_198 ?_
                refine B.if_ne 205 dX9_wordOf_199 (by decide) (fun q8 => ?_) (fun q8 => ?_)
                · replace h := h.1 q8
                  refine B.lload_n 0 dX9_wordOf_205 rfl rfl ?_
                  refine B.bipush 112 dX9_wordOf_206 (by decide) ?_
                  refine B.bipush 97 dX9_wordOf_208 (by decide) ?_
                  refine B.bipush 114 dX9_wordOf_210 (by decide) ?_
                  refine B.bipush 116 dX9_wordOf_212 (by decide) ?_
                  refine B.callS (M' := MX9_four) (rc := 0) (rs := 0) (mc := 0) (ms := 0) (st := [.long l0]) [.int 112, .int 97, .int 114, .int 116] dX9_wordOf_214 ms_X9_four lk_X9_46 ⟨Nat.le_of_ble_eq_true rfl, Nat.le_of_ble_eq_true rfl⟩ rfl rfl (Nat.le_of_ble_eq_true rfl) (t_four ?_)
                  show B g MX9_wordOf 0 0 217 [(0, .long l0)] [.long (fou 112 97 114 116), .long l0] S P I _
                  refine B.lcmp dX9_wordOf_217 ?_
                  refine B.if_ne 224 dX9_wordOf_218 (by decide) (fun q9 => ?_) (fun q9 => ?_)
                  · replace h := h.1 q9
                    refine B.lload_n 0 dX9_wordOf_224 rfl rfl ?_
                    refine B.ldc2 294 dX9_wordOf_225 kl_X9_52 ?_
                    refine B.lcmp dX9_wordOf_228 ?_
                    refine B.if_ne 235 dX9_wordOf_229 (by decide) (fun q10 => ?_) (fun q10 => ?_)
                    · replace h := h.1 q10
                      refine B.lload_n 0 dX9_wordOf_235 rfl rfl ?_
                      refine B.bipush 97 dX9_wordOf_236 (by decide) ?_
                      refine B.bipush 110 dX9_wordOf_238 (by decide) ?_
                      refine B.bipush 100 dX9_wordOf_240 (by decide) ?_
                      refine B.callS (M' := MX9_three) (rc := 0) (rs := 0) (mc := 0) (ms := 0) (st := [.long l0]) [.int 97, .int 110, .int 100] dX9_wordOf_242 ms_X9_three lk_X9_38 ⟨Nat.le_of_ble_eq_true rfl, Nat.le_of_ble_eq_true rfl⟩ rfl rfl (Nat.le_of_ble_eq_true rfl) (t_three ?_)
                      show B g MX9_wordOf 0 0 245 [(0, .long l0)] [.long (thr 97 110 100), .long l0] S P I _
                      refine B.lcmp dX9_wordOf_245 ?_
                      refine B.if_ne 252 dX9_wordOf_246 (by decide) (fun q11 => ?_) (fun q11 => ?_)
                      · replace h := h.1 q11
                        refine B.lload_n 0 dX9_wordOf_252 rfl rfl ?_
                        refine B.bipush 110 dX9_wordOf_253 (by decide) ?_
                        refine B.bipush 111 dX9_wordOf_255 (by decide) ?_
                        refine B.bipush 116 dX9_wordOf_257 (by decide) ?_
                        refine B.callS (M' := MX9_three) (rc := 0) (rs := 0) (mc := 0) (ms := 0) (st := [.long l0]) [.int 110, .int 111, .int 116] dX9_wordOf_259 ms_X9_three lk_X9_38 ⟨Nat.le_of_ble_eq_true rfl, Nat.le_of_ble_eq_true rfl⟩ rfl rfl (Nat.le_of_ble_eq_true rfl) (t_three ?_)
                        show B g MX9_wordOf 0 0 262 [(0, .long l0)] [.long (thr 110 111 116), .long l0] S P I _
                        refine B.lcmp dX9_wordOf_262 ?_
                        refine B.if_ne 269 dX9_wordOf_263 (by decide) (fun q12 => ?_) (fun q12 => ?_)
                        · replace h := h.1 q12
                          refine B.bipush 99 dX9_wordOf_269 (by decide) ?_
                          refine B.ireturn dX9_wordOf_271 rfl rfl ?_
                          exact h
                        · replace h := h.2 q12
                          refine B.bipush 32 dX9_wordOf_266 (by decide) ?_
                          refine B.ireturn dX9_wordOf_268 rfl rfl ?_
                          exact h
                      · replace h := h.2 q11
                        refine B.bipush 31 dX9_wordOf_249 (by decide) ?_
                        refine B.ireturn dX9_wordOf_251 rfl rfl ?_
                        exact h
                    · replace h := h.2 q10
                      refine B.bipush 30 dX9_wordOf_232 (by decide) ?_
                      refine B.ireturn dX9_wordOf_234 rfl rfl ?_
                      exact h
                  · replace h := h.2 q9
                    refine B.bipush 21 dX9_wordOf_221 (by decide) ?_
                    refine B.ireturn dX9_wordOf_223 rfl rfl ?_
                    exact h
                · replace h := h.2 q8
                  refine B.bipush 20 dX9_wordOf_202 (by decide) ?_
                  refine B.ireturn dX9_wordOf_204 rfl rfl ?_
                  exact h
              · replace h := h.2 q7
                refine B.bipush 7 dX9_wordOf_183 (by decide) ?_
                refine B.ireturn dX9_wordOf_185 rfl rfl ?_
                exact h
            · replace h := h.2 q6
              refine B.bipush 6 dX9_wordOf_164 (by decide) ?_
              refine B.ireturn dX9_wordOf_166 rfl rfl ?_
              exact h
          · replace h := h.2 q5
            refine B.iconst 5 dX9_wordOf_148 (by decide) ?_
            refine B.ireturn dX9_wordOf_149 rfl rfl ?_
            exact h
        · replace h := h.2 q4
          refine B.iconst 4 dX9_wordOf_118 (by decide) ?_
          refine B.ireturn dX9_wordOf_119 rfl rfl ?_
          exact h
      · replace h := h.2 q3
        refine B.iconst 3 dX9_wordOf_88 (by decide) ?_
        refine B.ireturn dX9_wordOf_89 rfl rfl ?_
        exact h
    · replace h := h.2 q2
      refine B.iconst 2 dX9_wordOf_58 (by decide) ?_
      refine B.ireturn dX9_wordOf_59 rfl rfl ?_
      exact h
  · replace h := h.2 q1
    refine B.iconst 1 dX9_wordOf_40 (by decide) ?_
    refine B.ireturn dX9_wordOf_41 rfl rfl ?_
    exact h
theorem s_X9_stops_0 {g : GT} {S : ST} {P : PT} {I : IT} {Q : QT} {r0 : Nat} (h : sT S r0 = 10 ∧ (((I r0 9) = 0 → ∃ b3, P r0 0 = b3 + 1 ∧ sT S b3 = 40 ∧ ∃ j6, ix 8 j6 (sL S b3) ∧ ∃ j8, ix 9 j8 (sL S b3) ∧ Q none S P (u2 (u2 (u2 I r0 9 1) b3 j6 1) b3 j8 ((u2 (u2 I r0 9 1) b3 j6 1) r0 4))) ∧ (¬ (I r0 9) = 0 → Q none S P I))) : B g MX9_stops 0 0 0 [(0, .ref r0)] [] S P I Q := by
  refine B.aload_n 0 dX9_stops_0 rfl rfl ?_
  obtain ⟨t1, h⟩ := h
  refine B.getI dX9_stops_1 fl_9_90 t1 ?_
  refine B.if_eq 8 dX9_stops_4 (by decide) (fun q2 => ?_) (fun q2 => ?_)
  · replace h := h.1 q2
    refine B.aload_n 0 dX9_stops_8 rfl rfl ?_
    refine B.iconst 1 dX9_stops_9 (by decide) ?_
    refine B.putZ dX9_stops_10 fw_9_90 t1 (by decide) ?_
    refine B.aload_n 0 dX9_stops_13 rfl rfl ?_
    obtain ⟨b3, h⟩ := h
    obtain ⟨t4, h⟩ := h
    refine B.getP dX9_stops_14 fl_9_7 t1 t4 ?_
    refine B.bipush 8 dX9_stops_17 (by decide) ?_
    refine B.iconst 1 dX9_stops_19 (by decide) ?_
    obtain ⟨t5, h⟩ := h
    obtain ⟨j6, h⟩ := h
    obtain ⟨t7, h⟩ := h
    refine B.iastore dX9_stops_20 t5 t7 ?_
    refine B.aload_n 0 dX9_stops_21 rfl rfl ?_
    refine B.getP dX9_stops_22 fl_9_7 t1 t4 ?_
    refine B.bipush 9 dX9_stops_25 (by decide) ?_
    refine B.aload_n 0 dX9_stops_27 rfl rfl ?_
    refine B.getI dX9_stops_28 fl_9_61 t1 ?_
    obtain ⟨j8, h⟩ := h
    obtain ⟨t9, h⟩ := h
    refine B.iastore dX9_stops_31 t5 t9 ?_
    refine B.return_ dX9_stops_32 rfl ?_
    exact h
  · replace h := h.2 q2
    refine B.return_ dX9_stops_7 rfl ?_
    exact h
theorem s_X9_tells_0 {g : GT} {S : ST} {P : PT} {I : IT} {Q : QT} {r0 : Nat} {x1 : Int32} {x2 : Int32} (h : sT S r0 = 10 ∧ ((¬ (I r0 9) = 0 → Q none S P I) ∧ ((I r0 9) = 0 → ∃ b3, P r0 0 = b3 + 1 ∧ sT S b3 = 40 ∧ ∃ j6, ix 8 j6 (sL S b3) ∧ (((I b3 j6) = 0 → ∃ j9, ix 9 j9 (sL S b3) ∧ Q none S P (u2 (u2 I b3 j6 x1) b3 j9 x2)) ∧ (¬ (I b3 j6) = 0 → Q none S P I))))) : B g MX9_tells 0 0 0 [(0, .ref r0), (1, .int x1), (2, .int x2)] [] S P I Q := by
  refine B.aload_n 0 dX9_tells_0 rfl rfl ?_
  obtain ⟨t1, h⟩ := h
  refine B.getI dX9_tells_1 fl_9_90 t1 ?_
  refine B.if_ne 17 dX9_tells_4 (by decide) (fun q2 => ?_) (fun q2 => ?_)
  · replace h := h.1 q2
    refine B.return_ dX9_tells_17 rfl ?_
    exact h
  · replace h := h.2 q2
    refine B.aload_n 0 dX9_tells_7 rfl rfl ?_
    obtain ⟨b3, h⟩ := h
    obtain ⟨t4, h⟩ := h
    refine B.getP dX9_tells_8 fl_9_7 t1 t4 ?_
    refine B.bipush 8 dX9_tells_11 (by decide) ?_
    obtain ⟨t5, h⟩ := h
    obtain ⟨j6, h⟩ := h
    obtain ⟨t7, h⟩ := h
    refine B.iaload dX9_tells_13 t5 t7 ?_
    refine B.if_eq 18 dX9_tells_14 (by decide) (fun q8 => ?_) (fun q8 => ?_)
    · replace h := h.1 q8
      refine B.aload_n 0 dX9_tells_18 rfl rfl ?_
      refine B.getP dX9_tells_19 fl_9_7 t1 t4 ?_
      refine B.bipush 8 dX9_tells_22 (by decide) ?_
      refine B.iload_n 1 dX9_tells_24 rfl rfl ?_
      refine B.iastore dX9_tells_25 t5 t7 ?_
      refine B.aload_n 0 dX9_tells_26 rfl rfl ?_
      refine B.getP dX9_tells_27 fl_9_7 t1 t4 ?_
      refine B.bipush 9 dX9_tells_30 (by decide) ?_
      refine B.iload_n 2 dX9_tells_32 rfl rfl ?_
      obtain ⟨j9, h⟩ := h
      obtain ⟨t10, h⟩ := h
      refine B.iastore dX9_tells_33 t5 t10 ?_
      refine B.return_ dX9_tells_34 rfl ?_
      exact h
    · replace h := h.2 q8
      refine B.return_ dX9_tells_17 rfl ?_
      exact h
theorem s_X9_takes_0 {g : GT} {S : ST} {P : PT} {I : IT} {Q : QT} {r0 : Nat} {x1 : Int32} (h : sT S r0 = 10 ∧ ((¬ (I r0 9) = 0 → Q (some (.int 0)) S P I) ∧ ((I r0 9) = 0 → ((¬ (I r0 5) = 3 → Q (some (.int 0)) S P I) ∧ ((I r0 5) = 3 → (((I r0 8) = x1 → T g MX9_advance 0 0 [.ref r0] S P I (fun r S' P' I' => B g MX9_takes 0 0 29 [(0, .ref r0), (1, .int x1)] (r.toList ++ []) S' P' I' Q)) ∧ (¬ (I r0 8) = x1 → Q (some (.int 0)) S P I))))))) : B g MX9_takes 0 0 0 [(0, .ref r0), (1, .int x1)] [] S P I Q := by
  refine B.aload_n 0 dX9_takes_0 rfl rfl ?_
  obtain ⟨t1, h⟩ := h
  refine B.getI dX9_takes_1 fl_9_90 t1 ?_
  refine B.if_ne 23 dX9_takes_4 (by decide) (fun q2 => ?_) (fun q2 => ?_)
  · replace h := h.1 q2
    refine B.iconst 0 dX9_takes_23 (by decide) ?_
    refine B.ireturn dX9_takes_24 rfl rfl ?_
    exact h
  · replace h := h.2 q2
    refine B.aload_n 0 dX9_takes_7 rfl rfl ?_
    refine B.getI dX9_takes_8 fl_9_64 t1 ?_
    refine B.iconst 3 dX9_takes_11 (by decide) ?_
    refine B.icmp_ne 23 dX9_takes_12 (by decide) (fun q3 => ?_) (fun q3 => ?_)
    · replace h := h.1 q3
      refine B.iconst 0 dX9_takes_23 (by decide) ?_
      refine B.ireturn dX9_takes_24 rfl rfl ?_
      exact h
    · replace h := h.2 q3
      refine B.aload_n 0 dX9_takes_15 rfl rfl ?_
      refine B.getI dX9_takes_16 fl_9_75 t1 ?_
      refine B.iload_n 1 dX9_takes_19 rfl rfl ?_
      refine B.icmp_eq 25 dX9_takes_20 (by decide) (fun q4 => ?_) (fun q4 => ?_)
      · replace h := h.1 q4
        refine B.aload_n 0 dX9_takes_25 rfl rfl ?_
        refine B.callV (M' := MX9_advance) (rc := 0) (rs := 0) (mc := 0) (ms := 0) (st := []) [] dX9_takes_26 mv_X9_advance lk_X9_94 ⟨Nat.le_of_ble_eq_true rfl, Nat.le_of_ble_eq_true rfl⟩ rfl rfl (Nat.le_of_ble_eq_true rfl) t1 ?_
        exact h
      · replace h := h.2 q4
        refine B.iconst 0 dX9_takes_23 (by decide) ?_
        refine B.ireturn dX9_takes_24 rfl rfl ?_
        exact h
theorem s_X9_takes_29 {g : GT} {S : ST} {P : PT} {I : IT} {Q : QT} {r0 : Nat} {x1 : Int32} (h : Q (some (.int 1)) S P I) : B g MX9_takes 0 0 29 [(0, .ref r0), (1, .int x1)] [] S P I Q := by
  refine B.iconst 1 dX9_takes_29 (by decide) ?_
  refine B.ireturn dX9_takes_30 rfl rfl ?_
  exact h
theorem s_X9_must_0 {g : GT} {S : ST} {P : PT} {I : IT} {Q : QT} {r0 : Nat} {x1 : Int32} (h : sT S r0 = 10 ∧ ((¬ (I r0 9) = 0 → (((I r0 9) = 0 → ∃ b4, P r0 0 = b4 + 1 ∧ sT S b4 = 40 ∧ ∃ j7, ix 8 j7 (sL S b4) ∧ ∃ j9, ix 9 j9 (sL S b4) ∧ Q none S P (u2 (u2 (u2 I r0 9 1) b4 j7 1) b4 j9 ((u2 (u2 I r0 9 1) b4 j7 1) r0 4))) ∧ (¬ (I r0 9) = 0 → Q none S P I))) ∧ ((I r0 9) = 0 → ((¬ (I r0 5) = 2 → (((I r0 9) = 0 → ∃ b13, P r0 0 = b13 + 1 ∧ sT S b13 = 40 ∧ ∃ j16, ix 8 j16 (sL S b13) ∧ ∃ j18, ix 9 j18 (sL S b13) ∧ Q none S P (u2 (u2 (u2 I r0 9 1) b13 j16 1) b13 j18 ((u2 (u2 I r0 9 1) b13 j16 1) r0 4))) ∧ (¬ (I r0 9) = 0 → Q none S P I))) ∧ ((I r0 5) = 2 → ((¬ (I r0 7) = x1 → (((I r0 9) = 0 → ∃ b22, P r0 0 = b22 + 1 ∧ sT S b22 = 40 ∧ ∃ j25, ix 8 j25 (sL S b22) ∧ ∃ j27, ix 9 j27 (sL S b22) ∧ Q none S P (u2 (u2 (u2 I r0 9 1) b22 j25 1) b22 j27 ((u2 (u2 I r0 9 1) b22 j25 1) r0 4))) ∧ (¬ (I r0 9) = 0 → Q none S P I))) ∧ ((I r0 7) = x1 → T g MX9_advance 0 0 [.ref r0] S P I (fun r S' P' I' => B g MX9_must 0 0 27 [(0, .ref r0), (1, .int x1)] (r.toList ++ []) S' P' I' Q)))))))) : B g MX9_must 0 0 0 [(0, .ref r0), (1, .int x1)] [] S P I Q := by
  refine B.aload_n 0 dX9_must_0 rfl rfl ?_
  obtain ⟨t1, h⟩ := h
  refine B.getI dX9_must_1 fl_9_90 t1 ?_
  refine B.if_ne 30 dX9_must_4 (by decide) (fun q2 => ?_) (fun q2 => ?_)
  · replace h := h.1 q2
    refine B.aload_n 0 dX9_must_30 rfl rfl ?_
    refine B.callV (M' := MX9_stops) (rc := 0) (rs := 0) (mc := 0) (ms := 0) (st := []) [] dX9_must_31 mv_X9_stops lk_X9_97 ⟨Nat.le_of_ble_eq_true rfl, Nat.le_of_ble_eq_true rfl⟩ rfl rfl (Nat.le_of_ble_eq_true rfl) t1 ?_
    refine T_of rfl (Nat.le_of_ble_eq_true rfl) ?_
    show B g MX9_stops 0 0 0 [(0, .ref r0)] [] S P I _
    refine B.aload_n 0 dX9_stops_0 rfl rfl ?_
    refine B.getI dX9_stops_1 fl_9_90 t1 ?_
    refine B.if_eq 8 dX9_stops_4 (by decide) (fun q3 => ?_) (fun q3 => ?_)
    · replace h := h.1 q3
      refine B.aload_n 0 dX9_stops_8 rfl rfl ?_
      refine B.iconst 1 dX9_stops_9 (by decide) ?_
      refine B.putZ dX9_stops_10 fw_9_90 t1 (by decide) ?_
      refine B.aload_n 0 dX9_stops_13 rfl rfl ?_
      obtain ⟨b4, h⟩ := h
      obtain ⟨t5, h⟩ := h
      refine B.getP dX9_stops_14 fl_9_7 t1 t5 ?_
      refine B.bipush 8 dX9_stops_17 (by decide) ?_
      refine B.iconst 1 dX9_stops_19 (by decide) ?_
      obtain ⟨t6, h⟩ := h
      obtain ⟨j7, h⟩ := h
      obtain ⟨t8, h⟩ := h
      refine B.iastore dX9_stops_20 t6 t8 ?_
      refine B.aload_n 0 dX9_stops_21 rfl rfl ?_
      refine B.getP dX9_stops_22 fl_9_7 t1 t5 ?_
      refine B.bipush 9 dX9_stops_25 (by decide) ?_
      refine B.aload_n 0 dX9_stops_27 rfl rfl ?_
      refine B.getI dX9_stops_28 fl_9_61 t1 ?_
      obtain ⟨j9, h⟩ := h
      obtain ⟨t10, h⟩ := h
      refine B.iastore dX9_stops_31 t6 t10 ?_
      refine B.return_ dX9_stops_32 rfl ?_
      show B g MX9_must 0 0 34 [(0, .ref r0), (1, .int x1)] [] S P (u2 (u2 (u2 I r0 9 1) b4 j7 1) b4 j9 ((u2 (u2 I r0 9 1) b4 j7 1) r0 4)) _
      refine B.return_ dX9_must_34 rfl ?_
      exact h
    · replace h := h.2 q3
      refine B.return_ dX9_stops_7 rfl ?_
      show B g MX9_must 0 0 34 [(0, .ref r0), (1, .int x1)] [] S P I _
      refine B.return_ dX9_must_34 rfl ?_
      exact h
  · replace h := h.2 q2
    refine B.aload_n 0 dX9_must_7 rfl rfl ?_
    refine B.getI dX9_must_8 fl_9_64 t1 ?_
    refine B.iconst 2 dX9_must_11 (by decide) ?_
    refine B.icmp_ne 30 dX9_must_12 (by decide) (fun q11 => ?_) (fun q11 => ?_)
    · replace h := h.1 q11
      refine B.aload_n 0 dX9_must_30 rfl rfl ?_
      refine B.callV (M' := MX9_stops) (rc := 0) (rs := 0) (mc := 0) (ms := 0) (st := []) [] dX9_must_31 mv_X9_stops lk_X9_97 ⟨Nat.le_of_ble_eq_true rfl, Nat.le_of_ble_eq_true rfl⟩ rfl rfl (Nat.le_of_ble_eq_true rfl) t1 ?_
      refine T_of rfl (Nat.le_of_ble_eq_true rfl) ?_
      show B g MX9_stops 0 0 0 [(0, .ref r0)] [] S P I _
      refine B.aload_n 0 dX9_stops_0 rfl rfl ?_
      refine B.getI dX9_stops_1 fl_9_90 t1 ?_
      refine B.if_eq 8 dX9_stops_4 (by decide) (fun q12 => ?_) (fun q12 => ?_)
      · replace h := h.1 q12
        refine B.aload_n 0 dX9_stops_8 rfl rfl ?_
        refine B.iconst 1 dX9_stops_9 (by decide) ?_
        refine B.putZ dX9_stops_10 fw_9_90 t1 (by decide) ?_
        refine B.aload_n 0 dX9_stops_13 rfl rfl ?_
        obtain ⟨b13, h⟩ := h
        obtain ⟨t14, h⟩ := h
        refine B.getP dX9_stops_14 fl_9_7 t1 t14 ?_
        refine B.bipush 8 dX9_stops_17 (by decide) ?_
        refine B.iconst 1 dX9_stops_19 (by decide) ?_
        obtain ⟨t15, h⟩ := h
        obtain ⟨j16, h⟩ := h
        obtain ⟨t17, h⟩ := h
        refine B.iastore dX9_stops_20 t15 t17 ?_
        refine B.aload_n 0 dX9_stops_21 rfl rfl ?_
        refine B.getP dX9_stops_22 fl_9_7 t1 t14 ?_
        refine B.bipush 9 dX9_stops_25 (by decide) ?_
        refine B.aload_n 0 dX9_stops_27 rfl rfl ?_
        refine B.getI dX9_stops_28 fl_9_61 t1 ?_
        obtain ⟨j18, h⟩ := h
        obtain ⟨t19, h⟩ := h
        refine B.iastore dX9_stops_31 t15 t19 ?_
        refine B.return_ dX9_stops_32 rfl ?_
        show B g MX9_must 0 0 34 [(0, .ref r0), (1, .int x1)] [] S P (u2 (u2 (u2 I r0 9 1) b13 j16 1) b13 j18 ((u2 (u2 I r0 9 1) b13 j16 1) r0 4)) _
        refine B.return_ dX9_must_34 rfl ?_
        exact h
      · replace h := h.2 q12
        refine B.return_ dX9_stops_7 rfl ?_
        show B g MX9_must 0 0 34 [(0, .ref r0), (1, .int x1)] [] S P I _
        refine B.return_ dX9_must_34 rfl ?_
        exact h
    · replace h := h.2 q11
      refine B.aload_n 0 dX9_must_15 rfl rfl ?_
      refine B.getI dX9_must_16 fl_9_84 t1 ?_
      refine B.iload_n 1 dX9_must_19 rfl rfl ?_
      refine B.icmp_ne 30 dX9_must_20 (by decide) (fun q20 => ?_) (fun q20 => ?_)
      · replace h := h.1 q20
        refine B.aload_n 0 dX9_must_30 rfl rfl ?_
        refine B.callV (M' := MX9_stops) (rc := 0) (rs := 0) (mc := 0) (ms := 0) (st := []) [] dX9_must_31 mv_X9_stops lk_X9_97 ⟨Nat.le_of_ble_eq_true rfl, Nat.le_of_ble_eq_true rfl⟩ rfl rfl (Nat.le_of_ble_eq_true rfl) t1 ?_
        refine T_of rfl (Nat.le_of_ble_eq_true rfl) ?_
        show B g MX9_stops 0 0 0 [(0, .ref r0)] [] S P I _
        refine B.aload_n 0 dX9_stops_0 rfl rfl ?_
        refine B.getI dX9_stops_1 fl_9_90 t1 ?_
        refine B.if_eq 8 dX9_stops_4 (by decide) (fun q21 => ?_) (fun q21 => ?_)
        · replace h := h.1 q21
          refine B.aload_n 0 dX9_stops_8 rfl rfl ?_
          refine B.iconst 1 dX9_stops_9 (by decide) ?_
          refine B.putZ dX9_stops_10 fw_9_90 t1 (by decide) ?_
          refine B.aload_n 0 dX9_stops_13 rfl rfl ?_
          obtain ⟨b22, h⟩ := h
          obtain ⟨t23, h⟩ := h
          refine B.getP dX9_stops_14 fl_9_7 t1 t23 ?_
          refine B.bipush 8 dX9_stops_17 (by decide) ?_
          refine B.iconst 1 dX9_stops_19 (by decide) ?_
          obtain ⟨t24, h⟩ := h
          obtain ⟨j25, h⟩ := h
          obtain ⟨t26, h⟩ := h
          refine B.iastore dX9_stops_20 t24 t26 ?_
          refine B.aload_n 0 dX9_stops_21 rfl rfl ?_
          refine B.getP dX9_stops_22 fl_9_7 t1 t23 ?_
          refine B.bipush 9 dX9_stops_25 (by decide) ?_
          refine B.aload_n 0 dX9_stops_27 rfl rfl ?_
          refine B.getI dX9_stops_28 fl_9_61 t1 ?_
          obtain ⟨j27, h⟩ := h
          obtain ⟨t28, h⟩ := h
          refine B.iastore dX9_stops_31 t24 t28 ?_
          refine B.return_ dX9_stops_32 rfl ?_
          show B g MX9_must 0 0 34 [(0, .ref r0), (1, .int x1)] [] S P (u2 (u2 (u2 I r0 9 1) b22 j25 1) b22 j27 ((u2 (u2 I r0 9 1) b22 j25 1) r0 4)) _
          refine B.return_ dX9_must_34 rfl ?_
          exact h
        · replace h := h.2 q21
          refine B.return_ dX9_stops_7 rfl ?_
          show B g MX9_must 0 0 34 [(0, .ref r0), (1, .int x1)] [] S P I _
          refine B.return_ dX9_must_34 rfl ?_
          exact h
      · replace h := h.2 q20
        refine B.aload_n 0 dX9_must_23 rfl rfl ?_
        refine B.callV (M' := MX9_advance) (rc := 0) (rs := 0) (mc := 0) (ms := 0) (st := []) [] dX9_must_24 mv_X9_advance lk_X9_94 ⟨Nat.le_of_ble_eq_true rfl, Nat.le_of_ble_eq_true rfl⟩ rfl rfl (Nat.le_of_ble_eq_true rfl) t1 ?_
        exact h
theorem s_X9_must_27 {g : GT} {S : ST} {P : PT} {I : IT} {Q : QT} {r0 : Nat} {x1 : Int32} (h : Q none S P I) : B g MX9_must 0 0 27 [(0, .ref r0), (1, .int x1)] [] S P I Q := by
  refine B.goto_ 34 dX9_must_27 (by decide) ?_
  refine B.return_ dX9_must_34 rfl ?_
  exact h
theorem s_X9_numbered_0 {g : GT} {S : ST} {P : PT} {I : IT} {Q : QT} {r0 : Nat} (h : sT S r0 = 10 ∧ ((¬ (I r0 9) = 0 → (((I r0 9) = 0 → ∃ b4, P r0 0 = b4 + 1 ∧ sT S b4 = 40 ∧ ∃ j7, ix 8 j7 (sL S b4) ∧ ∃ j9, ix 9 j9 (sL S b4) ∧ Q (some (.int (I r0 6))) S P (u2 (u2 (u2 I r0 9 1) b4 j7 1) b4 j9 ((u2 (u2 I r0 9 1) b4 j7 1) r0 4))) ∧ (¬ (I r0 9) = 0 → Q (some (.int (I r0 6))) S P I))) ∧ ((I r0 9) = 0 → ((¬ (I r0 5) = 1 → (((I r0 9) = 0 → ∃ b13, P r0 0 = b13 + 1 ∧ sT S b13 = 40 ∧ ∃ j16, ix 8 j16 (sL S b13) ∧ ∃ j18, ix 9 j18 (sL S b13) ∧ Q (some (.int (I r0 6))) S P (u2 (u2 (u2 I r0 9 1) b13 j16 1) b13 j18 ((u2 (u2 I r0 9 1) b13 j16 1) r0 4))) ∧ (¬ (I r0 9) = 0 → Q (some (.int (I r0 6))) S P I))) ∧ ((I r0 5) = 1 → T g MX9_advance 0 0 [.ref r0] S P I (fun r S' P' I' => B g MX9_numbered 0 0 24 [(0, .ref r0), (1, .int (I r0 6))] (r.toList ++ []) S' P' I' Q)))))) : B g MX9_numbered 0 0 0 [(0, .ref r0)] [] S P I Q := by
  refine B.aload_n 0 dX9_numbered_0 rfl rfl ?_
  obtain ⟨t1, h⟩ := h
  refine B.getI dX9_numbered_1 fl_9_81 t1 ?_
  refine B.istore_n (lv' := [(0, .ref r0), (1, .int (I r0 6))]) dX9_numbered_4 rfl (by decide) rfl ?_
  refine B.aload_n 0 dX9_numbered_5 rfl rfl ?_
  refine B.getI dX9_numbered_6 fl_9_90 t1 ?_
  refine B.if_ne 27 dX9_numbered_9 (by decide) (fun q2 => ?_) (fun q2 => ?_)
  · replace h := h.1 q2
    refine B.aload_n 0 dX9_numbered_27 rfl rfl ?_
    refine B.callV (M' := MX9_stops) (rc := 0) (rs := 0) (mc := 0) (ms := 0) (st := []) [] dX9_numbered_28 mv_X9_stops lk_X9_97 ⟨Nat.le_of_ble_eq_true rfl, Nat.le_of_ble_eq_true rfl⟩ rfl rfl (Nat.le_of_ble_eq_true rfl) t1 ?_
    refine T_of rfl (Nat.le_of_ble_eq_true rfl) ?_
    show B g MX9_stops 0 0 0 [(0, .ref r0)] [] S P I _
    refine B.aload_n 0 dX9_stops_0 rfl rfl ?_
    refine B.getI dX9_stops_1 fl_9_90 t1 ?_
    refine B.if_eq 8 dX9_stops_4 (by decide) (fun q3 => ?_) (fun q3 => ?_)
    · replace h := h.1 q3
      refine B.aload_n 0 dX9_stops_8 rfl rfl ?_
      refine B.iconst 1 dX9_stops_9 (by decide) ?_
      refine B.putZ dX9_stops_10 fw_9_90 t1 (by decide) ?_
      refine B.aload_n 0 dX9_stops_13 rfl rfl ?_
      obtain ⟨b4, h⟩ := h
      obtain ⟨t5, h⟩ := h
      refine B.getP dX9_stops_14 fl_9_7 t1 t5 ?_
      refine B.bipush 8 dX9_stops_17 (by decide) ?_
      refine B.iconst 1 dX9_stops_19 (by decide) ?_
      obtain ⟨t6, h⟩ := h
      obtain ⟨j7, h⟩ := h
      obtain ⟨t8, h⟩ := h
      refine B.iastore dX9_stops_20 t6 t8 ?_
      refine B.aload_n 0 dX9_stops_21 rfl rfl ?_
      refine B.getP dX9_stops_22 fl_9_7 t1 t5 ?_
      refine B.bipush 9 dX9_stops_25 (by decide) ?_
      refine B.aload_n 0 dX9_stops_27 rfl rfl ?_
      refine B.getI dX9_stops_28 fl_9_61 t1 ?_
      obtain ⟨j9, h⟩ := h
      obtain ⟨t10, h⟩ := h
      refine B.iastore dX9_stops_31 t6 t10 ?_
      refine B.return_ dX9_stops_32 rfl ?_
      show B g MX9_numbered 0 0 31 [(0, .ref r0), (1, .int (I r0 6))] [] S P (u2 (u2 (u2 I r0 9 1) b4 j7 1) b4 j9 ((u2 (u2 I r0 9 1) b4 j7 1) r0 4)) _
      refine B.iload_n 1 dX9_numbered_31 rfl rfl ?_
      refine B.ireturn dX9_numbered_32 rfl rfl ?_
      exact h
    · replace h := h.2 q3
      refine B.return_ dX9_stops_7 rfl ?_
      show B g MX9_numbered 0 0 31 [(0, .ref r0), (1, .int (I r0 6))] [] S P I _
      refine B.iload_n 1 dX9_numbered_31 rfl rfl ?_
      refine B.ireturn dX9_numbered_32 rfl rfl ?_
      exact h
  · replace h := h.2 q2
    refine B.aload_n 0 dX9_numbered_12 rfl rfl ?_
    refine B.getI dX9_numbered_13 fl_9_64 t1 ?_
    refine B.iconst 1 dX9_numbered_16 (by decide) ?_
    refine B.icmp_ne 27 dX9_numbered_17 (by decide) (fun q11 => ?_) (fun q11 => ?_)
    · replace h := h.1 q11
      refine B.aload_n 0 dX9_numbered_27 rfl rfl ?_
      refine B.callV (M' := MX9_stops) (rc := 0) (rs := 0) (mc := 0) (ms := 0) (st := []) [] dX9_numbered_28 mv_X9_stops lk_X9_97 ⟨Nat.le_of_ble_eq_true rfl, Nat.le_of_ble_eq_true rfl⟩ rfl rfl (Nat.le_of_ble_eq_true rfl) t1 ?_
      refine T_of rfl (Nat.le_of_ble_eq_true rfl) ?_
      show B g MX9_stops 0 0 0 [(0, .ref r0)] [] S P I _
      refine B.aload_n 0 dX9_stops_0 rfl rfl ?_
      refine B.getI dX9_stops_1 fl_9_90 t1 ?_
      refine B.if_eq 8 dX9_stops_4 (by decide) (fun q12 => ?_) (fun q12 => ?_)
      · replace h := h.1 q12
        refine B.aload_n 0 dX9_stops_8 rfl rfl ?_
        refine B.iconst 1 dX9_stops_9 (by decide) ?_
        refine B.putZ dX9_stops_10 fw_9_90 t1 (by decide) ?_
        refine B.aload_n 0 dX9_stops_13 rfl rfl ?_
        obtain ⟨b13, h⟩ := h
        obtain ⟨t14, h⟩ := h
        refine B.getP dX9_stops_14 fl_9_7 t1 t14 ?_
        refine B.bipush 8 dX9_stops_17 (by decide) ?_
        refine B.iconst 1 dX9_stops_19 (by decide) ?_
        obtain ⟨t15, h⟩ := h
        obtain ⟨j16, h⟩ := h
        obtain ⟨t17, h⟩ := h
        refine B.iastore dX9_stops_20 t15 t17 ?_
        refine B.aload_n 0 dX9_stops_21 rfl rfl ?_
        refine B.getP dX9_stops_22 fl_9_7 t1 t14 ?_
        refine B.bipush 9 dX9_stops_25 (by decide) ?_
        refine B.aload_n 0 dX9_stops_27 rfl rfl ?_
        refine B.getI dX9_stops_28 fl_9_61 t1 ?_
        obtain ⟨j18, h⟩ := h
        obtain ⟨t19, h⟩ := h
        refine B.iastore dX9_stops_31 t15 t19 ?_
        refine B.return_ dX9_stops_32 rfl ?_
        show B g MX9_numbered 0 0 31 [(0, .ref r0), (1, .int (I r0 6))] [] S P (u2 (u2 (u2 I r0 9 1) b13 j16 1) b13 j18 ((u2 (u2 I r0 9 1) b13 j16 1) r0 4)) _
        refine B.iload_n 1 dX9_numbered_31 rfl rfl ?_
        refine B.ireturn dX9_numbered_32 rfl rfl ?_
        exact h
      · replace h := h.2 q12
        refine B.return_ dX9_stops_7 rfl ?_
        show B g MX9_numbered 0 0 31 [(0, .ref r0), (1, .int (I r0 6))] [] S P I _
        refine B.iload_n 1 dX9_numbered_31 rfl rfl ?_
        refine B.ireturn dX9_numbered_32 rfl rfl ?_
        exact h
    · replace h := h.2 q11
      refine B.aload_n 0 dX9_numbered_20 rfl rfl ?_
      refine B.callV (M' := MX9_advance) (rc := 0) (rs := 0) (mc := 0) (ms := 0) (st := []) [] dX9_numbered_21 mv_X9_advance lk_X9_94 ⟨Nat.le_of_ble_eq_true rfl, Nat.le_of_ble_eq_true rfl⟩ rfl rfl (Nat.le_of_ble_eq_true rfl) t1 ?_
      exact h
theorem s_X9_numbered_24 {g : GT} {S : ST} {P : PT} {I : IT} {Q : QT} {r0 : Nat} {x1 : Int32} (h : Q (some (.int x1)) S P I) : B g MX9_numbered 0 0 24 [(0, .ref r0), (1, .int x1)] [] S P I Q := by
  refine B.goto_ 31 dX9_numbered_24 (by decide) ?_
  refine B.iload_n 1 dX9_numbered_31 rfl rfl ?_
  refine B.ireturn dX9_numbered_32 rfl rfl ?_
  exact h
theorem s_X9_puts_0 {g : GT} {S : ST} {P : PT} {I : IT} {Q : QT} {r0 : Nat} {x1 : Int32} {x2 : Int32} (h : sT S r0 = 10 ∧ ((12 ≤ (I r0 10) → Q none S P I) ∧ (¬ 12 ≤ (I r0 10) → ∃ b3, P r0 11 = b3 + 1 ∧ sT S b3 = 40 ∧ ∃ j6, ix ((18 * (I r0 10)) + x1) j6 (sL S b3) ∧ Q none S P (u2 I b3 j6 x2)))) : B g MX9_puts 0 0 0 [(0, .ref r0), (1, .int x1), (2, .int x2)] [] S P I Q := by
  refine B.aload_n 0 dX9_puts_0 rfl rfl ?_
  obtain ⟨t1, h⟩ := h
  refine B.getI dX9_puts_1 fl_9_111 t1 ?_
  refine B.bipush 12 dX9_puts_4 (by decide) ?_
  refine B.icmp_ge 24 dX9_puts_6 (by decide) (fun q2 => ?_) (fun q2 => ?_)
  · replace h := h.1 q2
    refine B.return_ dX9_puts_24 rfl ?_
    exact h
  · replace h := h.2 q2
    refine B.aload_n 0 dX9_puts_9 rfl rfl ?_
    obtain ⟨b3, h⟩ := h
    obtain ⟨t4, h⟩ := h
    refine B.getP dX9_puts_10 fl_9_17 t1 t4 ?_
    refine B.bipush 18 dX9_puts_13 (by decide) ?_
    refine B.aload_n 0 dX9_puts_15 rfl rfl ?_
    refine B.getI dX9_puts_16 fl_9_111 t1 ?_
    refine B.imul dX9_puts_19 ?_
    refine B.iload_n 1 dX9_puts_20 rfl rfl ?_
    refine B.iadd dX9_puts_21 ?_
    refine B.iload_n 2 dX9_puts_22 rfl rfl ?_
    obtain ⟨t5, h⟩ := h
    obtain ⟨j6, h⟩ := h
    obtain ⟨t7, h⟩ := h
    refine B.iastore dX9_puts_23 t5 t7 ?_
    refine B.return_ dX9_puts_24 rfl ?_
    exact h
theorem s_X9_custom_0 {g : GT} {S : ST} {P : PT} {I : IT} {Q : QT} {r0 : Nat} (h : sT S r0 = 10 ∧ ∃ b2, P r0 0 = b2 + 1 ∧ sT S b2 = 40 ∧ ∃ j5, ix 7 j5 (sL S b2) ∧ ∃ j7, ix 8 j7 (sL S b2) ∧ ∃ j9, ix 9 j9 (sL S b2) ∧ T g MX9_advance 0 0 [.ref r0] S P (u2 (u2 (u2 (u2 (u2 (u2 (u2 I r0 2 (I b2 j5)) b2 j5 0) r0 3 0) b2 j7 0) b2 j9 (-1)) r0 9 0) r0 10 0) (fun r S' P' I' => B g MX9_custom 0 0 54 [(0, .ref r0)] (r.toList ++ []) S' P' I' Q)) : B g MX9_custom 0 0 0 [(0, .ref r0)] [] S P I Q := by
  refine B.aload_n 0 dX9_custom_0 rfl rfl ?_
  refine B.aload_n 0 dX9_custom_1 rfl rfl ?_
  obtain ⟨t1, h⟩ := h
  obtain ⟨b2, h⟩ := h
  obtain ⟨t3, h⟩ := h
  refine B.getP dX9_custom_2 fl_9_7 t1 t3 ?_
  refine B.bipush 7 dX9_custom_5 (by decide) ?_
  obtain ⟨t4, h⟩ := h
  obtain ⟨j5, h⟩ := h
  obtain ⟨t6, h⟩ := h
  refine B.iaload dX9_custom_7 t4 t6 ?_
  refine B.putI dX9_custom_8 fw_9_30 t1 ?_
  refine B.aload_n 0 dX9_custom_11 rfl rfl ?_
  refine B.getP dX9_custom_12 fl_9_7 t1 t3 ?_
  refine B.bipush 7 dX9_custom_15 (by decide) ?_
  refine B.iconst 0 dX9_custom_17 (by decide) ?_
  refine B.iastore dX9_custom_18 t4 t6 ?_
  refine B.aload_n 0 dX9_custom_19 rfl rfl ?_
  refine B.iconst 0 dX9_custom_20 (by decide) ?_
  refine B.putI dX9_custom_21 fw_9_54 t1 ?_
  refine B.aload_n 0 dX9_custom_24 rfl rfl ?_
  refine B.getP dX9_custom_25 fl_9_7 t1 t3 ?_
  refine B.bipush 8 dX9_custom_28 (by decide) ?_
  refine B.iconst 0 dX9_custom_30 (by decide) ?_
  obtain ⟨j7, h⟩ := h
  obtain ⟨t8, h⟩ := h
  refine B.iastore dX9_custom_31 t4 t8 ?_
  refine B.aload_n 0 dX9_custom_32 rfl rfl ?_
  refine B.getP dX9_custom_33 fl_9_7 t1 t3 ?_
  refine B.bipush 9 dX9_custom_36 (by decide) ?_
  refine B.iconst (-1) dX9_custom_38 (by decide) ?_
  obtain ⟨j9, h⟩ := h
  obtain ⟨t10, h⟩ := h
  refine B.iastore dX9_custom_39 t4 t10 ?_
  refine B.aload_n 0 dX9_custom_40 rfl rfl ?_
  refine B.iconst 0 dX9_custom_41 (by decide) ?_
  refine B.putZ dX9_custom_42 fw_9_90 t1 (by decide) ?_
  refine B.aload_n 0 dX9_custom_45 rfl rfl ?_
  refine B.iconst 0 dX9_custom_46 (by decide) ?_
  refine B.putI dX9_custom_47 fw_9_111 t1 ?_
  refine B.aload_n 0 dX9_custom_50 rfl rfl ?_
  refine B.callV (M' := MX9_advance) (rc := 0) (rs := 0) (mc := 0) (ms := 0) (st := []) [] dX9_custom_51 mv_X9_advance lk_X9_94 ⟨Nat.le_of_ble_eq_true rfl, Nat.le_of_ble_eq_true rfl⟩ rfl rfl (Nat.le_of_ble_eq_true rfl) t1 ?_
  exact h
theorem s_X9_custom_54 {g : GT} {S : ST} {P : PT} {I : IT} {Q : QT} {r0 : Nat} (h : sT S r0 = 10 ∧ ((¬ (I r0 9) = 0 → ∃ b3, P r0 0 = b3 + 1 ∧ sT S b3 = 40 ∧ ∃ j6, ix 8 j6 (sL S b3) ∧ (((I b3 j6) = 0 → B g MX9_custom 0 0 89 [(0, .ref r0), (1, .int 0)] [] S P I Q) ∧ (¬ (I b3 j6) = 0 → Q (some (.int (-1))) S P I))) ∧ ((I r0 9) = 0 → (((I r0 5) = 0 → ∃ b10, P r0 0 = b10 + 1 ∧ sT S b10 = 40 ∧ ∃ j13, ix 8 j13 (sL S b10) ∧ (((I b10 j13) = 0 → B g MX9_custom 0 0 89 [(0, .ref r0), (1, .int 0)] [] S P I Q) ∧ (¬ (I b10 j13) = 0 → Q (some (.int (-1))) S P I))) ∧ (¬ (I r0 5) = 0 → T g MX9_aLine 0 0 [.ref r0] S P I (fun r S' P' I' => B g MX9_custom 0 0 72 [(0, .ref r0)] (r.toList ++ []) S' P' I' Q)))))) : B g MX9_custom 0 0 54 [(0, .ref r0)] [] S P I Q := by
  refine B.aload_n 0 dX9_custom_54 rfl rfl ?_
  obtain ⟨t1, h⟩ := h
  refine B.getI dX9_custom_55 fl_9_90 t1 ?_
  refine B.if_ne 75 dX9_custom_58 (by decide) (fun q2 => ?_) (fun q2 => ?_)
  · replace h := h.1 q2
    refine B.aload_n 0 dX9_custom_75 rfl rfl ?_
    obtain ⟨b3, h⟩ := h
    obtain ⟨t4, h⟩ := h
    refine B.getP dX9_custom_76 fl_9_7 t1 t4 ?_
    refine B.bipush 8 dX9_custom_79 (by decide) ?_
    obtain ⟨t5, h⟩ := h
    obtain ⟨j6, h⟩ := h
    obtain ⟨t7, h⟩ := h
    refine B.iaload dX9_custom_81 t5 t7 ?_
    refine B.if_eq 87 dX9_custom_82 (by decide) (fun q8 => ?_) (fun q8 => ?_)
    · replace h := h.1 q8
      refine B.iconst 0 dX9_custom_87 (by decide) ?_
      refine B.istore_n (lv' := [(0, .ref r0), (1, .int 0)]) dX9_custom_88 rfl (by decide) rfl ?_
      exact h
    · replace h := h.2 q8
      refine B.iconst (-1) dX9_custom_85 (by decide) ?_
      refine B.ireturn dX9_custom_86 rfl rfl ?_
      exact h
  · replace h := h.2 q2
    refine B.aload_n 0 dX9_custom_61 rfl rfl ?_
    refine B.getI dX9_custom_62 fl_9_64 t1 ?_
    refine B.if_eq 75 dX9_custom_65 (by decide) (fun q9 => ?_) (fun q9 => ?_)
    · replace h := h.1 q9
      refine B.aload_n 0 dX9_custom_75 rfl rfl ?_
      obtain ⟨b10, h⟩ := h
      obtain ⟨t11, h⟩ := h
      refine B.getP dX9_custom_76 fl_9_7 t1 t11 ?_
      refine B.bipush 8 dX9_custom_79 (by decide) ?_
      obtain ⟨t12, h⟩ := h
      obtain ⟨j13, h⟩ := h
      obtain ⟨t14, h⟩ := h
      refine B.iaload dX9_custom_81 t12 t14 ?_
      refine B.if_eq 87 dX9_custom_82 (by decide) (fun q15 => ?_) (fun q15 => ?_)
      · replace h := h.1 q15
        refine B.iconst 0 dX9_custom_87 (by decide) ?_
        refine B.istore_n (lv' := [(0, .ref r0), (1, .int 0)]) dX9_custom_88 rfl (by decide) rfl ?_
        exact h
      · replace h := h.2 q15
        refine B.iconst (-1) dX9_custom_85 (by decide) ?_
        refine B.ireturn dX9_custom_86 rfl rfl ?_
        exact h
    · replace h := h.2 q9
      refine B.aload_n 0 dX9_custom_68 rfl rfl ?_
      refine B.callV (M' := MX9_aLine) (rc := 0) (rs := 0) (mc := 0) (ms := 0) (st := []) [] dX9_custom_69 mv_X9_aLine lk_X9_127 ⟨Nat.le_of_ble_eq_true rfl, Nat.le_of_ble_eq_true rfl⟩ rfl rfl (Nat.le_of_ble_eq_true rfl) t1 ?_
      exact h
theorem s_X9_custom_72 {g : GT} {S : ST} {P : PT} {I : IT} {Q : QT} {r0 : Nat} (h : B g MX9_custom 0 0 54 [(0, .ref r0)] [] S P I Q) : B g MX9_custom 0 0 72 [(0, .ref r0)] [] S P I Q := by
  refine B.goto_ 54 dX9_custom_72 (by decide) ?_
  exact h
theorem s_X9_custom_89 {g : GT} {S : ST} {P : PT} {I : IT} {Q : QT} {r0 : Nat} {x1 : Int32} (h : ((216 ≤ x1 → sT S r0 = 10 ∧ ∃ b3, P r0 0 = b3 + 1 ∧ sT S b3 = 40 ∧ ∃ j6, ix 6 j6 (sL S b3) ∧ Q (some (.int ((u2 I b3 j6 (I r0 10)) r0 10))) S P (u2 I b3 j6 (I r0 10))) ∧ (¬ 216 ≤ x1 → sT S r0 = 10 ∧ ∃ b9, P r0 0 = b9 + 1 ∧ ∃ b11, P r0 11 = b11 + 1 ∧ sT S b11 = 40 ∧ ∃ j14, ix x1 j14 (sL S b11) ∧ sT S b9 = 40 ∧ ∃ j17, ix (500 + x1) j17 (sL S b9) ∧ B g MX9_custom 0 0 89 [(0, .ref r0), (1, .int (x1 + 1))] [] S P (u2 I b9 j17 (I b11 j14)) Q))) : B g MX9_custom 0 0 89 [(0, .ref r0), (1, .int x1)] [] S P I Q := by
  refine B.iload_n 1 dX9_custom_89 rfl rfl ?_
  refine B.sipush 216 dX9_custom_90 (by decide) ?_
  refine B.icmp_ge 118 dX9_custom_93 (by decide) (fun q1 => ?_) (fun q1 => ?_)
  · replace h := h.1 q1
    refine B.aload_n 0 dX9_custom_118 rfl rfl ?_
    obtain ⟨t2, h⟩ := h
    obtain ⟨b3, h⟩ := h
    obtain ⟨t4, h⟩ := h
    refine B.getP dX9_custom_119 fl_9_7 t2 t4 ?_
    refine B.bipush 6 dX9_custom_122 (by decide) ?_
    refine B.aload_n 0 dX9_custom_124 rfl rfl ?_
    refine B.getI dX9_custom_125 fl_9_111 t2 ?_
    obtain ⟨t5, h⟩ := h
    obtain ⟨j6, h⟩ := h
    obtain ⟨t7, h⟩ := h
    refine B.iastore dX9_custom_128 t5 t7 ?_
    refine B.aload_n 0 dX9_custom_129 rfl rfl ?_
    refine B.getI dX9_custom_130 fl_9_111 t2 ?_
    refine B.ireturn dX9_custom_133 rfl rfl ?_
    exact h
  · replace h := h.2 q1
    refine B.aload_n 0 dX9_custom_96 rfl rfl ?_
    obtain ⟨t8, h⟩ := h
    obtain ⟨b9, h⟩ := h
    obtain ⟨t10, h⟩ := h
    refine B.getP dX9_custom_97 fl_9_7 t8 t10 ?_
    refine B.sipush 500 dX9_custom_100 (by decide) ?_
    refine B.iload_n 1 dX9_custom_103 rfl rfl ?_
    refine B.iadd dX9_custom_104 ?_
    refine B.aload_n 0 dX9_custom_105 rfl rfl ?_
    obtain ⟨b11, h⟩ := h
    obtain ⟨t12, h⟩ := h
    refine B.getP dX9_custom_106 fl_9_17 t8 t12 ?_
    refine B.iload_n 1 dX9_custom_109 rfl rfl ?_
    obtain ⟨t13, h⟩ := h
    obtain ⟨j14, h⟩ := h
    obtain ⟨t15, h⟩ := h
    refine B.iaload dX9_custom_110 t13 t15 ?_
    obtain ⟨t16, h⟩ := h
    obtain ⟨j17, h⟩ := h
    obtain ⟨t18, h⟩ := h
    refine B.iastore dX9_custom_111 t16 t18 ?_
    refine B.iinc (lv' := [(0, .ref r0), (1, .int (x1 + 1))]) 1 (x1 + 1) dX9_custom_112 rfl rfl (by decide) rfl ?_
    refine B.goto_ 89 dX9_custom_115 (by decide) ?_
    exact h
theorem s_X9_fault_0 {g : GT} {S : ST} {P : PT} {I : IT} {Q : QT} {r0 : Nat} {x1 : Int32} (h : ((¬ x1 = 0 → ((¬ x1 = 1 → Q (some (.int (-1))) S P I) ∧ (x1 = 1 → sT S r0 = 10 ∧ ∃ b4, P r0 0 = b4 + 1 ∧ sT S b4 = 40 ∧ ∃ j7, ix 9 j7 (sL S b4) ∧ Q (some (.int (I b4 j7))) S P I))) ∧ (x1 = 0 → sT S r0 = 10 ∧ ∃ b10, P r0 0 = b10 + 1 ∧ sT S b10 = 40 ∧ ∃ j13, ix 8 j13 (sL S b10) ∧ Q (some (.int (I b10 j13))) S P I))) : B g MX9_fault 0 0 0 [(0, .ref r0), (1, .int x1)] [] S P I Q := by
  refine B.iload_n 1 dX9_fault_0 rfl rfl ?_
  refine B.if_ne 14 dX9_fault_1 (by decide) (fun q1 => ?_) (fun q1 => ?_)
  · replace h := h.1 q1
    refine B.iload_n 1 dX9_fault_14 rfl rfl ?_
    refine B.iconst 1 dX9_fault_15 (by decide) ?_
    refine B.icmp_ne 29 dX9_fault_16 (by decide) (fun q2 => ?_) (fun q2 => ?_)
    · replace h := h.1 q2
      refine B.iconst (-1) dX9_fault_29 (by decide) ?_
      refine B.ireturn dX9_fault_30 rfl rfl ?_
      exact h
    · replace h := h.2 q2
      refine B.aload_n 0 dX9_fault_19 rfl rfl ?_
      obtain ⟨t3, h⟩ := h
      obtain ⟨b4, h⟩ := h
      obtain ⟨t5, h⟩ := h
      refine B.getP dX9_fault_20 fl_9_7 t3 t5 ?_
      refine B.bipush 9 dX9_fault_23 (by decide) ?_
      obtain ⟨t6, h⟩ := h
      obtain ⟨j7, h⟩ := h
      obtain ⟨t8, h⟩ := h
      refine B.iaload dX9_fault_25 t6 t8 ?_
      refine B.goto_ 30 dX9_fault_26 (by decide) ?_
      refine B.ireturn dX9_fault_30 rfl rfl ?_
      exact h
  · replace h := h.2 q1
    refine B.aload_n 0 dX9_fault_4 rfl rfl ?_
    obtain ⟨t9, h⟩ := h
    obtain ⟨b10, h⟩ := h
    obtain ⟨t11, h⟩ := h
    refine B.getP dX9_fault_5 fl_9_7 t9 t11 ?_
    refine B.bipush 8 dX9_fault_8 (by decide) ?_
    obtain ⟨t12, h⟩ := h
    obtain ⟨j13, h⟩ := h
    obtain ⟨t14, h⟩ := h
    refine B.iaload dX9_fault_10 t12 t14 ?_
    refine B.goto_ 30 dX9_fault_11 (by decide) ?_
    refine B.ireturn dX9_fault_30 rfl rfl ?_
    exact h
theorem s_X9_isHouse_0 {g : GT} {S : ST} {P : PT} {I : IT} {Q : QT} {r0 : Nat} {x1 : Int32} (h : sT S r0 = 10 ∧ ∃ b2, P r0 0 = b2 + 1 ∧ sT S b2 = 40 ∧ ∃ j5, ix 0 j5 (sL S b2) ∧ Q (some (.int (wi x1 0 ((I b2 j5) - 1)))) S P I) : B g MX9_isHouse 0 0 0 [(0, .ref r0), (1, .int x1)] [] S P I Q := by
  refine B.iload_n 1 dX9_isHouse_0 rfl rfl ?_
  refine B.iconst 0 dX9_isHouse_1 (by decide) ?_
  refine B.aload_n 0 dX9_isHouse_2 rfl rfl ?_
  obtain ⟨t1, h⟩ := h
  obtain ⟨b2, h⟩ := h
  obtain ⟨t3, h⟩ := h
  refine B.getP dX9_isHouse_3 fl_9_7 t1 t3 ?_
  refine B.iconst 0 dX9_isHouse_6 (by decide) ?_
  obtain ⟨t4, h⟩ := h
  obtain ⟨j5, h⟩ := h
  obtain ⟨t6, h⟩ := h
  refine B.iaload dX9_isHouse_7 t4 t6 ?_
  refine B.iconst 1 dX9_isHouse_8 (by decide) ?_
  refine B.isub dX9_isHouse_9 ?_
  refine B.callS (M' := MX9_isIn) (rc := 0) (rs := 0) (mc := 0) (ms := 0) (st := []) [.int x1, .int 0, .int ((I b2 j5) - 1)] dX9_isHouse_10 ms_X9_isIn lk_X9_103 ⟨Nat.le_of_ble_eq_true rfl, Nat.le_of_ble_eq_true rfl⟩ rfl rfl (Nat.le_of_ble_eq_true rfl) (t_isIn ?_)
  show B g MX9_isHouse 0 0 13 [(0, .ref r0), (1, .int x1)] [.int (wi x1 0 ((I b2 j5) - 1))] S P I _
  refine B.ireturn dX9_isHouse_13 rfl (nar_z (wi_01 _ _ _)) ?_
  exact h
theorem s_X9_of_0 {g : GT} {S : ST} {P : PT} {I : IT} {Q : QT} {r0 : Nat} {x1 : Int32} {x2 : Int32} (h : sT S r0 = 10 ∧ ∃ b2, P r0 0 = b2 + 1 ∧ sT S b2 = 40 ∧ ∃ j5, ix ((60 + (30 * x1)) + x2) j5 (sL S b2) ∧ Q (some (.int (I b2 j5))) S P I) : B g MX9_of 0 0 0 [(0, .ref r0), (1, .int x1), (2, .int x2)] [] S P I Q := by
  refine B.aload_n 0 dX9_of_0 rfl rfl ?_
  obtain ⟨t1, h⟩ := h
  obtain ⟨b2, h⟩ := h
  obtain ⟨t3, h⟩ := h
  refine B.getP dX9_of_1 fl_9_7 t1 t3 ?_
  refine B.bipush 60 dX9_of_4 (by decide) ?_
  refine B.bipush 30 dX9_of_6 (by decide) ?_
  refine B.iload_n 1 dX9_of_8 rfl rfl ?_
  refine B.imul dX9_of_9 ?_
  refine B.iadd dX9_of_10 ?_
  refine B.iload_n 2 dX9_of_11 rfl rfl ?_
  refine B.iadd dX9_of_12 ?_
  obtain ⟨t4, h⟩ := h
  obtain ⟨j5, h⟩ := h
  obtain ⟨t6, h⟩ := h
  refine B.iaload dX9_of_13 t4 t6 ?_
  refine B.ireturn dX9_of_14 rfl rfl ?_
  exact h
theorem s_X9_adds_0 {g : GT} {S : ST} {P : PT} {I : IT} {Q : QT} {r0 : Nat} {x1 : Int32} {x2 : Int32} {x3 : Int32} (h : sT S r0 = 10 ∧ ∃ b2, P r0 0 = b2 + 1 ∧ sT S b2 = 40 ∧ ∃ j5, ix ((60 + (30 * x1)) + x2) j5 (sL S b2) ∧ Q none S P (u2 I b2 j5 ((I b2 j5) + x3))) : B g MX9_adds 0 0 0 [(0, .ref r0), (1, .int x1), (2, .int x2), (3, .int x3)] [] S P I Q := by
  refine B.aload_n 0 dX9_adds_0 rfl rfl ?_
  obtain ⟨t1, h⟩ := h
  obtain ⟨b2, h⟩ := h
  obtain ⟨t3, h⟩ := h
  refine B.getP dX9_adds_1 fl_9_7 t1 t3 ?_
  refine B.bipush 60 dX9_adds_4 (by decide) ?_
  refine B.bipush 30 dX9_adds_6 (by decide) ?_
  refine B.iload_n 1 dX9_adds_8 rfl rfl ?_
  refine B.imul dX9_adds_9 ?_
  refine B.iadd dX9_adds_10 ?_
  refine B.iload_n 2 dX9_adds_11 rfl rfl ?_
  refine B.iadd dX9_adds_12 ?_
  refine B.dup2 dX9_adds_13 rfl rfl ?_
  obtain ⟨t4, h⟩ := h
  obtain ⟨j5, h⟩ := h
  obtain ⟨t6, h⟩ := h
  refine B.iaload dX9_adds_14 t4 t6 ?_
  refine B.iload_n 3 dX9_adds_15 rfl rfl ?_
  refine B.iadd dX9_adds_16 ?_
  refine B.iastore dX9_adds_17 t4 t6 ?_
  refine B.return_ dX9_adds_18 rfl ?_
  exact h
theorem s_X9_house_0 {g : GT} {S : ST} {P : PT} {I : IT} {Q : QT} {r0 : Nat} (h : sT S r0 = 10 ∧ ∃ b2, P r0 0 = b2 + 1 ∧ sT S b2 = 40 ∧ ∃ j5, ix 0 j5 (sL S b2) ∧ ((¬ (I b2 j5) = 8 → B g MX9_house 0 0 15 [(0, .ref r0), (1, .int 0)] [] S P I Q) ∧ ((I b2 j5) = 8 → Q (some (.int (-1))) S P I))) : B g MX9_house 0 0 0 [(0, .ref r0)] [] S P I Q := by
  refine B.aload_n 0 dX9_house_0 rfl rfl ?_
  obtain ⟨t1, h⟩ := h
  obtain ⟨b2, h⟩ := h
  obtain ⟨t3, h⟩ := h
  refine B.getP dX9_house_1 fl_9_7 t1 t3 ?_
  refine B.iconst 0 dX9_house_4 (by decide) ?_
  obtain ⟨t4, h⟩ := h
  obtain ⟨j5, h⟩ := h
  obtain ⟨t6, h⟩ := h
  refine B.iaload dX9_house_5 t4 t6 ?_
  refine B.bipush 8 dX9_house_6 (by decide) ?_
  refine B.icmp_ne 13 dX9_house_8 (by decide) (fun q7 => ?_) (fun q7 => ?_)
  · replace h := h.1 q7
    refine B.iconst 0 dX9_house_13 (by decide) ?_
    refine B.istore_n (lv' := [(0, .ref r0), (1, .int 0)]) dX9_house_14 rfl (by decide) rfl ?_
    exact h
  · replace h := h.2 q7
    refine B.iconst (-1) dX9_house_11 (by decide) ?_
    refine B.ireturn dX9_house_12 rfl rfl ?_
    exact h
theorem s_X9_house_15 {g : GT} {S : ST} {P : PT} {I : IT} {Q : QT} {r0 : Nat} {x1 : Int32} (h : ((30 ≤ x1 → sT S r0 = 10 ∧ ∃ b3, P r0 0 = b3 + 1 ∧ sT S b3 = 40 ∧ ∃ j6, ix 0 j6 (sL S b3) ∧ Q (some (.int (((u2 I b3 j6 ((I b3 j6) + 1)) b3 j6) - 1))) S P (u2 I b3 j6 ((I b3 j6) + 1))) ∧ (¬ 30 ≤ x1 → sT S r0 = 10 ∧ ∃ b9, P r0 0 = b9 + 1 ∧ sT S b9 = 40 ∧ ∃ j12, ix 0 j12 (sL S b9) ∧ ∃ j14, ix ((60 + (30 * (I b9 j12))) + x1) j14 (sL S b9) ∧ B g MX9_house 0 0 15 [(0, .ref r0), (1, .int (x1 + 1))] [] S P (u2 I b9 j14 0) Q))) : B g MX9_house 0 0 15 [(0, .ref r0), (1, .int x1)] [] S P I Q := by
  refine B.iload_n 1 dX9_house_15 rfl rfl ?_
  refine B.bipush 30 dX9_house_16 (by decide) ?_
  refine B.icmp_ge 47 dX9_house_18 (by decide) (fun q1 => ?_) (fun q1 => ?_)
  · replace h := h.1 q1
    refine B.aload_n 0 dX9_house_47 rfl rfl ?_
    obtain ⟨t2, h⟩ := h
    obtain ⟨b3, h⟩ := h
    obtain ⟨t4, h⟩ := h
    refine B.getP dX9_house_48 fl_9_7 t2 t4 ?_
    refine B.iconst 0 dX9_house_51 (by decide) ?_
    refine B.dup2 dX9_house_52 rfl rfl ?_
    obtain ⟨t5, h⟩ := h
    obtain ⟨j6, h⟩ := h
    obtain ⟨t7, h⟩ := h
    refine B.iaload dX9_house_53 t5 t7 ?_
    refine B.iconst 1 dX9_house_54 (by decide) ?_
    refine B.iadd dX9_house_55 ?_
    refine B.iastore dX9_house_56 t5 t7 ?_
    refine B.aload_n 0 dX9_house_57 rfl rfl ?_
    refine B.getP dX9_house_58 fl_9_7 t2 t4 ?_
    refine B.iconst 0 dX9_house_61 (by decide) ?_
    refine B.iaload dX9_house_62 t5 t7 ?_
    refine B.iconst 1 dX9_house_63 (by decide) ?_
    refine B.isub dX9_house_64 ?_
    refine B.ireturn dX9_house_65 rfl rfl ?_
    exact h
  · replace h := h.2 q1
    refine B.aload_n 0 dX9_house_21 rfl rfl ?_
    obtain ⟨t8, h⟩ := h
    obtain ⟨b9, h⟩ := h
    obtain ⟨t10, h⟩ := h
    refine B.getP dX9_house_22 fl_9_7 t8 t10 ?_
    refine B.bipush 60 dX9_house_25 (by decide) ?_
    refine B.bipush 30 dX9_house_27 (by decide) ?_
    refine B.aload_n 0 dX9_house_29 rfl rfl ?_
    refine B.getP dX9_house_30 fl_9_7 t8 t10 ?_
    refine B.iconst 0 dX9_house_33 (by decide) ?_
    obtain ⟨t11, h⟩ := h
    obtain ⟨j12, h⟩ := h
    obtain ⟨t13, h⟩ := h
    refine B.iaload dX9_house_34 t11 t13 ?_
    refine B.imul dX9_house_35 ?_
    refine B.iadd dX9_house_36 ?_
    refine B.iload_n 1 dX9_house_37 rfl rfl ?_
    refine B.iadd dX9_house_38 ?_
    refine B.iconst 0 dX9_house_39 (by decide) ?_
    obtain ⟨j14, h⟩ := h
    obtain ⟨t15, h⟩ := h
    refine B.iastore dX9_house_40 t11 t15 ?_
    refine B.iinc (lv' := [(0, .ref r0), (1, .int (x1 + 1))]) 1 (x1 + 1) dX9_house_41 rfl rfl (by decide) rfl ?_
    refine B.goto_ 15 dX9_house_44 (by decide) ?_
    exact h
theorem s_X9_shape_0 {g : GT} {S : ST} {P : PT} {I : IT} {Q : QT} {r0 : Nat} {x1 : Int32} {x2 : Int32} {x3 : Int32} (h : (((wi x1 0 4) = 0 → Q (some (.int 0)) S P I) ∧ (¬ (wi x1 0 4) = 0 → (((wi x2 1 999) = 0 → Q (some (.int 0)) S P I) ∧ (¬ (wi x2 1 999) = 0 → ((¬ (wi x3 1 999) = 0 → sT S r0 = 10 ∧ ∃ b5, P r0 0 = b5 + 1 ∧ sT S b5 = 40 ∧ ∃ j8, ix (40 + (2 * x1)) j8 (sL S b5) ∧ ∃ j10, ix ((40 + (2 * x1)) + 1) j10 (sL S b5) ∧ Q (some (.int 1)) S P (u2 (u2 I b5 j8 x2) b5 j10 x3)) ∧ ((wi x3 1 999) = 0 → Q (some (.int 0)) S P I))))))) : B g MX9_shape 0 0 0 [(0, .ref r0), (1, .int x1), (2, .int x2), (3, .int x3)] [] S P I Q := by
  refine B.iload_n 1 dX9_shape_0 rfl rfl ?_
  refine B.iconst 0 dX9_shape_1 (by decide) ?_
  refine B.iconst 4 dX9_shape_2 (by decide) ?_
  refine B.callS (M' := MX9_isIn) (rc := 0) (rs := 0) (mc := 0) (ms := 0) (st := []) [.int x1, .int 0, .int 4] dX9_shape_3 ms_X9_isIn lk_X9_103 ⟨Nat.le_of_ble_eq_true rfl, Nat.le_of_ble_eq_true rfl⟩ rfl rfl (Nat.le_of_ble_eq_true rfl) (t_isIn ?_)
  show B g MX9_shape 0 0 6 [(0, .ref r0), (1, .int x1), (2, .int x2), (3, .int x3)] [.int (wi x1 0 4)] S P I _
  refine B.if_eq 31 dX9_shape_6 (by decide) (fun q1 => ?_) (fun q1 => ?_)
  · replace h := h.1 q1
    refine B.iconst 0 dX9_shape_31 (by decide) ?_
    refine B.ireturn dX9_shape_32 rfl rfl ?_
    exact h
  · replace h := h.2 q1
    refine B.iload_n 2 dX9_shape_9 rfl rfl ?_
    refine B.iconst 1 dX9_shape_10 (by decide) ?_
    refine B.sipush 999 dX9_shape_11 (by decide) ?_
    refine B.callS (M' := MX9_isIn) (rc := 0) (rs := 0) (mc := 0) (ms := 0) (st := []) [.int x2, .int 1, .int 999] dX9_shape_14 ms_X9_isIn lk_X9_103 ⟨Nat.le_of_ble_eq_true rfl, Nat.le_of_ble_eq_true rfl⟩ rfl rfl (Nat.le_of_ble_eq_true rfl) (t_isIn ?_)
    show B g MX9_shape 0 0 17 [(0, .ref r0), (1, .int x1), (2, .int x2), (3, .int x3)] [.int (wi x2 1 999)] S P I _
    refine B.if_eq 31 dX9_shape_17 (by decide) (fun q2 => ?_) (fun q2 => ?_)
    · replace h := h.1 q2
      refine B.iconst 0 dX9_shape_31 (by decide) ?_
      refine B.ireturn dX9_shape_32 rfl rfl ?_
      exact h
    · replace h := h.2 q2
      refine B.iload_n 3 dX9_shape_20 rfl rfl ?_
      refine B.iconst 1 dX9_shape_21 (by decide) ?_
      refine B.sipush 999 dX9_shape_22 (by decide) ?_
      refine B.callS (M' := MX9_isIn) (rc := 0) (rs := 0) (mc := 0) (ms := 0) (st := []) [.int x3, .int 1, .int 999] dX9_shape_25 ms_X9_isIn lk_X9_103 ⟨Nat.le_of_ble_eq_true rfl, Nat.le_of_ble_eq_true rfl⟩ rfl rfl (Nat.le_of_ble_eq_true rfl) (t_isIn ?_)
      show B g MX9_shape 0 0 28 [(0, .ref r0), (1, .int x1), (2, .int x2), (3, .int x3)] [.int (wi x3 1 999)] S P I _
      refine B.if_ne 33 dX9_shape_28 (by decide) (fun q3 => ?_) (fun q3 => ?_)
      · replace h := h.1 q3
        refine B.aload_n 0 dX9_shape_33 rfl rfl ?_
        obtain ⟨t4, h⟩ := h
        obtain ⟨b5, h⟩ := h
        obtain ⟨t6, h⟩ := h
        refine B.getP dX9_shape_34 fl_9_7 t4 t6 ?_
        refine B.bipush 40 dX9_shape_37 (by decide) ?_
        refine B.iconst 2 dX9_shape_39 (by decide) ?_
        refine B.iload_n 1 dX9_shape_40 rfl rfl ?_
        refine B.imul dX9_shape_41 ?_
        refine B.iadd dX9_shape_42 ?_
        refine B.iload_n 2 dX9_shape_43 rfl rfl ?_
        obtain ⟨t7, h⟩ := h
        obtain ⟨j8, h⟩ := h
        obtain ⟨t9, h⟩ := h
        refine B.iastore dX9_shape_44 t7 t9 ?_
        refine B.aload_n 0 dX9_shape_45 rfl rfl ?_
        refine B.getP dX9_shape_46 fl_9_7 t4 t6 ?_
        refine B.bipush 40 dX9_shape_49 (by decide) ?_
        refine B.iconst 2 dX9_shape_51 (by decide) ?_
        refine B.iload_n 1 dX9_shape_52 rfl rfl ?_
        refine B.imul dX9_shape_53 ?_
        refine B.iadd dX9_shape_54 ?_
        refine B.iconst 1 dX9_shape_55 (by decide) ?_
        refine B.iadd dX9_shape_56 ?_
        refine B.iload_n 3 dX9_shape_57 rfl rfl ?_
        obtain ⟨j10, h⟩ := h
        obtain ⟨t11, h⟩ := h
        refine B.iastore dX9_shape_58 t7 t11 ?_
        refine B.iconst 1 dX9_shape_59 (by decide) ?_
        refine B.ireturn dX9_shape_60 rfl rfl ?_
        exact h
      · replace h := h.2 q3
        refine B.iconst 0 dX9_shape_31 (by decide) ?_
        refine B.ireturn dX9_shape_32 rfl rfl ?_
        exact h
theorem s_X9_glaze_0 {g : GT} {S : ST} {P : PT} {I : IT} {Q : QT} {r0 : Nat} {x1 : Int32} {x2 : Int32} (h : (((wi x1 0 3) = 0 → Q (some (.int 0)) S P I) ∧ (¬ (wi x1 0 3) = 0 → ((¬ (wi x2 0 10) = 0 → sT S r0 = 10 ∧ ∃ b4, P r0 0 = b4 + 1 ∧ sT S b4 = 40 ∧ ∃ j7, ix (50 + x1) j7 (sL S b4) ∧ Q (some (.int 1)) S P (u2 I b4 j7 x2)) ∧ ((wi x2 0 10) = 0 → Q (some (.int 0)) S P I))))) : B g MX9_glaze 0 0 0 [(0, .ref r0), (1, .int x1), (2, .int x2)] [] S P I Q := by
  refine B.iload_n 1 dX9_glaze_0 rfl rfl ?_
  refine B.iconst 0 dX9_glaze_1 (by decide) ?_
  refine B.iconst 3 dX9_glaze_2 (by decide) ?_
  refine B.callS (M' := MX9_isIn) (rc := 0) (rs := 0) (mc := 0) (ms := 0) (st := []) [.int x1, .int 0, .int 3] dX9_glaze_3 ms_X9_isIn lk_X9_103 ⟨Nat.le_of_ble_eq_true rfl, Nat.le_of_ble_eq_true rfl⟩ rfl rfl (Nat.le_of_ble_eq_true rfl) (t_isIn ?_)
  show B g MX9_glaze 0 0 6 [(0, .ref r0), (1, .int x1), (2, .int x2)] [.int (wi x1 0 3)] S P I _
  refine B.if_eq 19 dX9_glaze_6 (by decide) (fun q1 => ?_) (fun q1 => ?_)
  · replace h := h.1 q1
    refine B.iconst 0 dX9_glaze_19 (by decide) ?_
    refine B.ireturn dX9_glaze_20 rfl rfl ?_
    exact h
  · replace h := h.2 q1
    refine B.iload_n 2 dX9_glaze_9 rfl rfl ?_
    refine B.iconst 0 dX9_glaze_10 (by decide) ?_
    refine B.bipush 10 dX9_glaze_11 (by decide) ?_
    refine B.callS (M' := MX9_isIn) (rc := 0) (rs := 0) (mc := 0) (ms := 0) (st := []) [.int x2, .int 0, .int 10] dX9_glaze_13 ms_X9_isIn lk_X9_103 ⟨Nat.le_of_ble_eq_true rfl, Nat.le_of_ble_eq_true rfl⟩ rfl rfl (Nat.le_of_ble_eq_true rfl) (t_isIn ?_)
    show B g MX9_glaze 0 0 16 [(0, .ref r0), (1, .int x1), (2, .int x2)] [.int (wi x2 0 10)] S P I _
    refine B.if_ne 21 dX9_glaze_16 (by decide) (fun q2 => ?_) (fun q2 => ?_)
    · replace h := h.1 q2
      refine B.aload_n 0 dX9_glaze_21 rfl rfl ?_
      obtain ⟨t3, h⟩ := h
      obtain ⟨b4, h⟩ := h
      obtain ⟨t5, h⟩ := h
      refine B.getP dX9_glaze_22 fl_9_7 t3 t5 ?_
      refine B.bipush 50 dX9_glaze_25 (by decide) ?_
      refine B.iload_n 1 dX9_glaze_27 rfl rfl ?_
      refine B.iadd dX9_glaze_28 ?_
      refine B.iload_n 2 dX9_glaze_29 rfl rfl ?_
      obtain ⟨t6, h⟩ := h
      obtain ⟨j7, h⟩ := h
      obtain ⟨t8, h⟩ := h
      refine B.iastore dX9_glaze_30 t6 t8 ?_
      refine B.iconst 1 dX9_glaze_31 (by decide) ?_
      refine B.ireturn dX9_glaze_32 rfl rfl ?_
      exact h
    · replace h := h.2 q2
      refine B.iconst 0 dX9_glaze_19 (by decide) ?_
      refine B.ireturn dX9_glaze_20 rfl rfl ?_
      exact h
theorem s_X9_its_0 {g : GT} {S : ST} {P : PT} {I : IT} {Q : QT} {r0 : Nat} {x1 : Int32} {x2 : Int32} (h : sT S r0 = 10 ∧ ∃ b2, P r0 0 = b2 + 1 ∧ sT S b2 = 40 ∧ ∃ j5, ix ((300 + (8 * x1)) + x2) j5 (sL S b2) ∧ Q (some (.int (I b2 j5))) S P I) : B g MX9_its 0 0 0 [(0, .ref r0), (1, .int x1), (2, .int x2)] [] S P I Q := by
  refine B.aload_n 0 dX9_its_0 rfl rfl ?_
  obtain ⟨t1, h⟩ := h
  obtain ⟨b2, h⟩ := h
  obtain ⟨t3, h⟩ := h
  refine B.getP dX9_its_1 fl_9_7 t1 t3 ?_
  refine B.sipush 300 dX9_its_4 (by decide) ?_
  refine B.bipush 8 dX9_its_7 (by decide) ?_
  refine B.iload_n 1 dX9_its_9 rfl rfl ?_
  refine B.imul dX9_its_10 ?_
  refine B.iadd dX9_its_11 ?_
  refine B.iload_n 2 dX9_its_12 rfl rfl ?_
  refine B.iadd dX9_its_13 ?_
  obtain ⟨t4, h⟩ := h
  obtain ⟨j5, h⟩ := h
  obtain ⟨t6, h⟩ := h
  refine B.iaload dX9_its_14 t4 t6 ?_
  refine B.ireturn dX9_its_15 rfl rfl ?_
  exact h
theorem s_X9_sets_0 {g : GT} {S : ST} {P : PT} {I : IT} {Q : QT} {r0 : Nat} {x1 : Int32} {x2 : Int32} {x3 : Int32} (h : sT S r0 = 10 ∧ ∃ b2, P r0 0 = b2 + 1 ∧ sT S b2 = 40 ∧ ∃ j5, ix ((300 + (8 * x1)) + x2) j5 (sL S b2) ∧ Q none S P (u2 I b2 j5 x3)) : B g MX9_sets 0 0 0 [(0, .ref r0), (1, .int x1), (2, .int x2), (3, .int x3)] [] S P I Q := by
  refine B.aload_n 0 dX9_sets_0 rfl rfl ?_
  obtain ⟨t1, h⟩ := h
  obtain ⟨b2, h⟩ := h
  obtain ⟨t3, h⟩ := h
  refine B.getP dX9_sets_1 fl_9_7 t1 t3 ?_
  refine B.sipush 300 dX9_sets_4 (by decide) ?_
  refine B.bipush 8 dX9_sets_7 (by decide) ?_
  refine B.iload_n 1 dX9_sets_9 rfl rfl ?_
  refine B.imul dX9_sets_10 ?_
  refine B.iadd dX9_sets_11 ?_
  refine B.iload_n 2 dX9_sets_12 rfl rfl ?_
  refine B.iadd dX9_sets_13 ?_
  refine B.iload_n 3 dX9_sets_14 rfl rfl ?_
  obtain ⟨t4, h⟩ := h
  obtain ⟨j5, h⟩ := h
  obtain ⟨t6, h⟩ := h
  refine B.iastore dX9_sets_15 t4 t6 ?_
  refine B.return_ dX9_sets_16 rfl ?_
  exact h
theorem s_X9_stands_0 {g : GT} {S : ST} {P : PT} {I : IT} {Q : QT} {r0 : Nat} {x1 : Int32} (h : sT S r0 = 10 ∧ ∃ b2, P r0 0 = b2 + 1 ∧ sT S b2 = 40 ∧ ∃ j5, ix ((300 + (8 * x1)) + 4) j5 (sL S b2) ∧ (((I b2 j5) < 0 → Q (some (.int 0)) S P I) ∧ (¬ (I b2 j5) < 0 → Q (some (.int 1)) S P I))) : B g MX9_stands 0 0 0 [(0, .ref r0), (1, .int x1)] [] S P I Q := by
  refine B.aload_n 0 dX9_stands_0 rfl rfl ?_
  refine B.iload_n 1 dX9_stands_1 rfl rfl ?_
  refine B.iconst 4 dX9_stands_2 (by decide) ?_
  obtain ⟨t1, h⟩ := h
  refine B.callV (M' := MX9_its) (rc := 0) (rs := 0) (mc := 0) (ms := 0) (st := []) [.int x1, .int 4] dX9_stands_3 mv_X9_its lk_X9_130 ⟨Nat.le_of_ble_eq_true rfl, Nat.le_of_ble_eq_true rfl⟩ rfl rfl (Nat.le_of_ble_eq_true rfl) t1 ?_
  refine T_of rfl (Nat.le_of_ble_eq_true rfl) ?_
  show B g MX9_its 0 0 0 [(0, .ref r0), (1, .int x1), (2, .int 4)] [] S P I _
  refine B.aload_n 0 dX9_its_0 rfl rfl ?_
  obtain ⟨b2, h⟩ := h
  obtain ⟨t3, h⟩ := h
  refine B.getP dX9_its_1 fl_9_7 t1 t3 ?_
  refine B.sipush 300 dX9_its_4 (by decide) ?_
  refine B.bipush 8 dX9_its_7 (by decide) ?_
  refine B.iload_n 1 dX9_its_9 rfl rfl ?_
  refine B.imul dX9_its_10 ?_
  refine B.iadd dX9_its_11 ?_
  refine B.iload_n 2 dX9_its_12 rfl rfl ?_
  refine B.iadd dX9_its_13 ?_
  obtain ⟨t4, h⟩ := h
  obtain ⟨j5, h⟩ := h
  obtain ⟨t6, h⟩ := h
  refine B.iaload dX9_its_14 t4 t6 ?_
  refine B.ireturn dX9_its_15 rfl rfl ?_
  show B g MX9_stands 0 0 6 [(0, .ref r0), (1, .int x1)] [.int (I b2 j5)] S P I _
  refine B.if_lt 13 dX9_stands_6 (by decide) (fun q7 => ?_) (fun q7 => ?_)
  · replace h := h.1 q7
    refine B.iconst 0 dX9_stands_13 (by decide) ?_
    refine B.ireturn dX9_stands_14 rfl rfl ?_
    exact h
  · replace h := h.2 q7
    refine B.iconst 1 dX9_stands_9 (by decide) ?_
    refine B.goto_ 14 dX9_stands_10 (by decide) ?_
    refine B.ireturn dX9_stands_14 rfl rfl ?_
    exact h
theorem s_X9_standing_0 {g : GT} {S : ST} {P : PT} {I : IT} {Q : QT} {r0 : Nat} (h : B g MX9_standing 0 0 4 [(0, .ref r0), (1, .int 0), (2, .int 0)] [] S P I Q) : B g MX9_standing 0 0 0 [(0, .ref r0)] [] S P I Q := by
  refine B.iconst 0 dX9_standing_0 (by decide) ?_
  refine B.istore_n (lv' := [(0, .ref r0), (1, .int 0)]) dX9_standing_1 rfl (by decide) rfl ?_
  refine B.iconst 0 dX9_standing_2 (by decide) ?_
  refine B.istore_n (lv' := [(0, .ref r0), (1, .int 0), (2, .int 0)]) dX9_standing_3 rfl (by decide) rfl ?_
  exact h
theorem s_X9_standing_4 {g : GT} {S : ST} {P : PT} {I : IT} {Q : QT} {r0 : Nat} {x1 : Int32} {x2 : Int32} (h : sT S r0 = 10 ∧ ∃ b2, P r0 0 = b2 + 1 ∧ sT S b2 = 40 ∧ ∃ j5, ix 1 j5 (sL S b2) ∧ (((I b2 j5) ≤ x2 → Q (some (.int x1)) S P I) ∧ (¬ (I b2 j5) ≤ x2 → ∃ j8, ix ((300 + (8 * x2)) + 4) j8 (sL S b2) ∧ (((I b2 j8) < 0 → B g MX9_standing 0 0 4 [(0, .ref r0), (1, .int (x1 + 0)), (2, .int (x2 + 1))] [] S P I Q) ∧ (¬ (I b2 j8) < 0 → B g MX9_standing 0 0 4 [(0, .ref r0), (1, .int (x1 + 1)), (2, .int (x2 + 1))] [] S P I Q))))) : B g MX9_standing 0 0 4 [(0, .ref r0), (1, .int x1), (2, .int x2)] [] S P I Q := by
  refine B.iload_n 2 dX9_standing_4 rfl rfl ?_
  refine B.aload_n 0 dX9_standing_5 rfl rfl ?_
  obtain ⟨t1, h⟩ := h
  obtain ⟨b2, h⟩ := h
  obtain ⟨t3, h⟩ := h
  refine B.getP dX9_standing_6 fl_9_7 t1 t3 ?_
  refine B.iconst 1 dX9_standing_9 (by decide) ?_
  obtain ⟨t4, h⟩ := h
  obtain ⟨j5, h⟩ := h
  obtain ⟨t6, h⟩ := h
  refine B.iaload dX9_standing_10 t4 t6 ?_
  refine B.icmp_ge 36 dX9_standing_11 (by decide) (fun q7 => ?_) (fun q7 => ?_)
  · replace h := h.1 q7
    refine B.iload_n 1 dX9_standing_36 rfl rfl ?_
    refine B.ireturn dX9_standing_37 rfl rfl ?_
    exact h
  · replace h := h.2 q7
    refine B.iload_n 1 dX9_standing_14 rfl rfl ?_
    refine B.aload_n 0 dX9_standing_15 rfl rfl ?_
    refine B.iload_n 2 dX9_standing_16 rfl rfl ?_
    refine B.callV (M' := MX9_stands) (rc := 0) (rs := 0) (mc := 0) (ms := 0) (st := [.int x1]) [.int x2] dX9_standing_17 mv_X9_stands lk_X9_134 ⟨Nat.le_of_ble_eq_true rfl, Nat.le_of_ble_eq_true rfl⟩ rfl rfl (Nat.le_of_ble_eq_true rfl) t1 ?_
    refine T_of rfl (Nat.le_of_ble_eq_true rfl) ?_
    show B g MX9_stands 0 0 0 [(0, .ref r0), (1, .int x2)] [] S P I _
    refine B.aload_n 0 dX9_stands_0 rfl rfl ?_
    refine B.iload_n 1 dX9_stands_1 rfl rfl ?_
    refine B.iconst 4 dX9_stands_2 (by decide) ?_
    refine B.callV (M' := MX9_its) (rc := 0) (rs := 0) (mc := 0) (ms := 0) (st := []) [.int x2, .int 4] dX9_stands_3 mv_X9_its lk_X9_130 ⟨Nat.le_of_ble_eq_true rfl, Nat.le_of_ble_eq_true rfl⟩ rfl rfl (Nat.le_of_ble_eq_true rfl) t1 ?_
    refine T_of rfl (Nat.le_of_ble_eq_true rfl) ?_
    show B g MX9_its 0 0 0 [(0, .ref r0), (1, .int x2), (2, .int 4)] [] S P I _
    refine B.aload_n 0 dX9_its_0 rfl rfl ?_
    refine B.getP dX9_its_1 fl_9_7 t1 t3 ?_
    refine B.sipush 300 dX9_its_4 (by decide) ?_
    refine B.bipush 8 dX9_its_7 (by decide) ?_
    refine B.iload_n 1 dX9_its_9 rfl rfl ?_
    refine B.imul dX9_its_10 ?_
    refine B.iadd dX9_its_11 ?_
    refine B.iload_n 2 dX9_its_12 rfl rfl ?_
    refine B.iadd dX9_its_13 ?_
    obtain ⟨j8, h⟩ := h
    obtain ⟨t9, h⟩ := h
    refine B.iaload dX9_its_14 t4 t9 ?_
    refine B.ireturn dX9_its_15 rfl rfl ?_
    show B g MX9_stands 0 0 6 [(0, .ref r0), (1, .int x2)] [.int (I b2 j8)] S P I _
    refine B.if_lt 13 dX9_stands_6 (by decide) (fun q10 => ?_) (fun q10 => ?_)
    · replace h := h.1 q10
      refine B.iconst 0 dX9_stands_13 (by decide) ?_
      refine B.ireturn dX9_stands_14 rfl rfl ?_
      show B g MX9_standing 0 0 20 [(0, .ref r0), (1, .int x1), (2, .int x2)] [.int 0, .int x1] S P I _
      refine B.if_eq 27 dX9_standing_20 (by decide) (fun _ => ?_) (fun q => absurd q (by decide))
      refine B.iconst 0 dX9_standing_27 (by decide) ?_
      refine B.iadd dX9_standing_28 ?_
      refine B.istore_n (lv' := [(0, .ref r0), (1, .int (x1 + 0)), (2, .int x2)]) dX9_standing_29 rfl (by decide) rfl ?_
      refine B.iinc (lv' := [(0, .ref r0), (1, .int (x1 + 0)), (2, .int (x2 + 1))]) 2 (x2 + 1) dX9_standing_30 rfl rfl (by decide) rfl ?_
      refine B.goto_ 4 dX9_standing_33 (by decide) ?_
      exact h
    · replace h := h.2 q10
      refine B.iconst 1 dX9_stands_9 (by decide) ?_
      refine B.goto_ 14 dX9_stands_10 (by decide) ?_
      refine B.ireturn dX9_stands_14 rfl rfl ?_
      show B g MX9_standing 0 0 20 [(0, .ref r0), (1, .int x1), (2, .int x2)] [.int 1, .int x1] S P I _
      refine B.if_eq 27 dX9_standing_20 (by decide) (fun q => absurd q (by decide)) (fun _ => ?_)
      refine B.iconst 1 dX9_standing_23 (by decide) ?_
      refine B.goto_ 28 dX9_standing_24 (by decide) ?_
      refine B.iadd dX9_standing_28 ?_
      refine B.istore_n (lv' := [(0, .ref r0), (1, .int (x1 + 1)), (2, .int x2)]) dX9_standing_29 rfl (by decide) rfl ?_
      refine B.iinc (lv' := [(0, .ref r0), (1, .int (x1 + 1)), (2, .int (x2 + 1))]) 2 (x2 + 1) dX9_standing_30 rfl rfl (by decide) rfl ?_
      refine B.goto_ 4 dX9_standing_33 (by decide) ?_
      exact h
theorem s_X9_kiln_0 {g : GT} {S : ST} {P : PT} {I : IT} {Q : QT} {r0 : Nat} {x1 : Int32} (h : (((wi x1 2 6) = 0 → Q (some (.int 0)) S P I) ∧ (¬ (wi x1 2 6) = 0 → sT S r0 = 10 ∧ T g MX9_standing 0 0 [.ref r0] S P I (fun r S' P' I' => B g MX9_kiln 0 0 14 [(0, .ref r0), (1, .int x1)] (r.toList ++ []) S' P' I' Q)))) : B g MX9_kiln 0 0 0 [(0, .ref r0), (1, .int x1)] [] S P I Q := by
  refine B.iload_n 1 dX9_kiln_0 rfl rfl ?_
  refine B.iconst 2 dX9_kiln_1 (by decide) ?_
  refine B.bipush 6 dX9_kiln_2 (by decide) ?_
  refine B.callS (M' := MX9_isIn) (rc := 0) (rs := 0) (mc := 0) (ms := 0) (st := []) [.int x1, .int 2, .int 6] dX9_kiln_4 ms_X9_isIn lk_X9_103 ⟨Nat.le_of_ble_eq_true rfl, Nat.le_of_ble_eq_true rfl⟩ rfl rfl (Nat.le_of_ble_eq_true rfl) (t_isIn ?_)
  show B g MX9_kiln 0 0 7 [(0, .ref r0), (1, .int x1)] [.int (wi x1 2 6)] S P I _
  refine B.if_eq 17 dX9_kiln_7 (by decide) (fun q1 => ?_) (fun q1 => ?_)
  · replace h := h.1 q1
    refine B.iconst 0 dX9_kiln_17 (by decide) ?_
    refine B.ireturn dX9_kiln_18 rfl rfl ?_
    exact h
  · replace h := h.2 q1
    refine B.aload_n 0 dX9_kiln_10 rfl rfl ?_
    obtain ⟨t2, h⟩ := h
    refine B.callV (M' := MX9_standing) (rc := 0) (rs := 0) (mc := 0) (ms := 0) (st := []) [] dX9_kiln_11 mv_X9_standing lk_X9_137 ⟨Nat.le_of_ble_eq_true rfl, Nat.le_of_ble_eq_true rfl⟩ rfl rfl (Nat.le_of_ble_eq_true rfl) t2 ?_
    exact h
theorem s_X9_kiln_14 {g : GT} {S : ST} {P : PT} {I : IT} {Q : QT} {r0 : Nat} {x1 : Int32} {w_s0 : Int32} (h : ((w_s0 ≤ 0 → sT S r0 = 10 ∧ T g MX9_begins 0 0 [.ref r0, .int x1] S P I (fun r S' P' I' => B g MX9_kiln 0 0 24 [(0, .ref r0), (1, .int x1)] (r.toList ++ []) S' P' I' Q)) ∧ (¬ w_s0 ≤ 0 → Q (some (.int 0)) S P I))) : B g MX9_kiln 0 0 14 [(0, .ref r0), (1, .int x1)] [.int w_s0] S P I Q := by
  refine B.if_le 19 dX9_kiln_14 (by decide) (fun q1 => ?_) (fun q1 => ?_)
  · replace h := h.1 q1
    refine B.aload_n 0 dX9_kiln_19 rfl rfl ?_
    refine B.iload_n 1 dX9_kiln_20 rfl rfl ?_
    obtain ⟨t2, h⟩ := h
    refine B.callV (M' := MX9_begins) (rc := 0) (rs := 0) (mc := 0) (ms := 0) (st := []) [.int x1] dX9_kiln_21 mv_X9_begins lk_X9_26 ⟨Nat.le_of_ble_eq_true rfl, Nat.le_of_ble_eq_true rfl⟩ rfl rfl (Nat.le_of_ble_eq_true rfl) t2 ?_
    exact h
  · replace h := h.2 q1
    refine B.iconst 0 dX9_kiln_17 (by decide) ?_
    refine B.ireturn dX9_kiln_18 rfl rfl ?_
    exact h
theorem s_X9_kiln_24 {g : GT} {S : ST} {P : PT} {I : IT} {Q : QT} {r0 : Nat} {x1 : Int32} (h : Q (some (.int 1)) S P I) : B g MX9_kiln 0 0 24 [(0, .ref r0), (1, .int x1)] [] S P I Q := by
  refine B.iconst 1 dX9_kiln_24 (by decide) ?_
  refine B.ireturn dX9_kiln_25 rfl rfl ?_
  exact h
theorem s_X9_isPlace_0 {g : GT} {S : ST} {P : PT} {I : IT} {Q : QT} {r0 : Nat} {x1 : Int32} {x2 : Int32} (h : sT S r0 = 10 ∧ ∃ b2, P r0 0 = b2 + 1 ∧ sT S b2 = 40 ∧ ∃ j5, ix 2 j5 (sL S b2) ∧ (((wi x1 0 ((I b2 j5) - 1)) = 0 → Q (some (.int 0)) S P I) ∧ (¬ (wi x1 0 ((I b2 j5) - 1)) = 0 → (((wi x2 0 3) = 0 → Q (some (.int 0)) S P I) ∧ (¬ (wi x2 0 3) = 0 → Q (some (.int 1)) S P I))))) : B g MX9_isPlace 0 0 0 [(0, .ref r0), (1, .int x1), (2, .int x2)] [] S P I Q := by
  refine B.iload_n 1 dX9_isPlace_0 rfl rfl ?_
  refine B.iconst 0 dX9_isPlace_1 (by decide) ?_
  refine B.aload_n 0 dX9_isPlace_2 rfl rfl ?_
  obtain ⟨t1, h⟩ := h
  obtain ⟨b2, h⟩ := h
  obtain ⟨t3, h⟩ := h
  refine B.getP dX9_isPlace_3 fl_9_7 t1 t3 ?_
  refine B.iconst 2 dX9_isPlace_6 (by decide) ?_
  obtain ⟨t4, h⟩ := h
  obtain ⟨j5, h⟩ := h
  obtain ⟨t6, h⟩ := h
  refine B.iaload dX9_isPlace_7 t4 t6 ?_
  refine B.iconst 1 dX9_isPlace_8 (by decide) ?_
  refine B.isub dX9_isPlace_9 ?_
  refine B.callS (M' := MX9_isIn) (rc := 0) (rs := 0) (mc := 0) (ms := 0) (st := []) [.int x1, .int 0, .int ((I b2 j5) - 1)] dX9_isPlace_10 ms_X9_isIn lk_X9_103 ⟨Nat.le_of_ble_eq_true rfl, Nat.le_of_ble_eq_true rfl⟩ rfl rfl (Nat.le_of_ble_eq_true rfl) (t_isIn ?_)
  show B g MX9_isPlace 0 0 13 [(0, .ref r0), (1, .int x1), (2, .int x2)] [.int (wi x1 0 ((I b2 j5) - 1))] S P I _
  refine B.if_eq 29 dX9_isPlace_13 (by decide) (fun q7 => ?_) (fun q7 => ?_)
  · replace h := h.1 q7
    refine B.iconst 0 dX9_isPlace_29 (by decide) ?_
    refine B.ireturn dX9_isPlace_30 rfl rfl ?_
    exact h
  · replace h := h.2 q7
    refine B.iload_n 2 dX9_isPlace_16 rfl rfl ?_
    refine B.iconst 0 dX9_isPlace_17 (by decide) ?_
    refine B.iconst 3 dX9_isPlace_18 (by decide) ?_
    refine B.callS (M' := MX9_isIn) (rc := 0) (rs := 0) (mc := 0) (ms := 0) (st := []) [.int x2, .int 0, .int 3] dX9_isPlace_19 ms_X9_isIn lk_X9_103 ⟨Nat.le_of_ble_eq_true rfl, Nat.le_of_ble_eq_true rfl⟩ rfl rfl (Nat.le_of_ble_eq_true rfl) (t_isIn ?_)
    show B g MX9_isPlace 0 0 22 [(0, .ref r0), (1, .int x1), (2, .int x2)] [.int (wi x2 0 3)] S P I _
    refine B.if_eq 29 dX9_isPlace_22 (by decide) (fun q8 => ?_) (fun q8 => ?_)
    · replace h := h.1 q8
      refine B.iconst 0 dX9_isPlace_29 (by decide) ?_
      refine B.ireturn dX9_isPlace_30 rfl rfl ?_
      exact h
    · replace h := h.2 q8
      refine B.iconst 1 dX9_isPlace_25 (by decide) ?_
      refine B.goto_ 30 dX9_isPlace_26 (by decide) ?_
      refine B.ireturn dX9_isPlace_30 rfl rfl ?_
      exact h
theorem s_X9_value_0 {g : GT} {S : ST} {P : PT} {I : IT} {Q : QT} {r0 : Nat} {x1 : Int32} {x2 : Int32} {x3 : Int32} (h : sT S r0 = 10 ∧ ∃ b2, P r0 0 = b2 + 1 ∧ sT S b2 = 40 ∧ ∃ j5, ix 2 j5 (sL S b2) ∧ (((wi x1 0 ((I b2 j5) - 1)) = 0 → Q (some (.int 0)) S P I) ∧ (¬ (wi x1 0 ((I b2 j5) - 1)) = 0 → (((wi x2 0 3) = 0 → Q (some (.int 0)) S P I) ∧ (¬ (wi x2 0 3) = 0 → ((¬ (wi x3 1 99) = 0 → ∃ j10, ix ((16 + (4 * x1)) + x2) j10 (sL S b2) ∧ Q (some (.int 1)) S P (u2 I b2 j10 x3)) ∧ ((wi x3 1 99) = 0 → Q (some (.int 0)) S P I))))))) : B g MX9_value 0 0 0 [(0, .ref r0), (1, .int x1), (2, .int x2), (3, .int x3)] [] S P I Q := by
  refine B.aload_n 0 dX9_value_0 rfl rfl ?_
  refine B.iload_n 1 dX9_value_1 rfl rfl ?_
  refine B.iload_n 2 dX9_value_2 rfl rfl ?_
  obtain ⟨t1, h⟩ := h
  refine B.callV (M' := MX9_isPlace) (rc := 0) (rs := 0) (mc := 0) (ms := 0) (st := []) [.int x1, .int x2] dX9_value_3 mv_X9_isPlace lk_X9_140 ⟨Nat.le_of_ble_eq_true rfl, Nat.le_of_ble_eq_true rfl⟩ rfl rfl (Nat.le_of_ble_eq_true rfl) t1 ?_
  refine T_of rfl (Nat.le_of_ble_eq_true rfl) ?_
  show B g MX9_isPlace 0 0 0 [(0, .ref r0), (1, .int x1), (2, .int x2)] [] S P I _
  refine B.iload_n 1 dX9_isPlace_0 rfl rfl ?_
  refine B.iconst 0 dX9_isPlace_1 (by decide) ?_
  refine B.aload_n 0 dX9_isPlace_2 rfl rfl ?_
  obtain ⟨b2, h⟩ := h
  obtain ⟨t3, h⟩ := h
  refine B.getP dX9_isPlace_3 fl_9_7 t1 t3 ?_
  refine B.iconst 2 dX9_isPlace_6 (by decide) ?_
  obtain ⟨t4, h⟩ := h
  obtain ⟨j5, h⟩ := h
  obtain ⟨t6, h⟩ := h
  refine B.iaload dX9_isPlace_7 t4 t6 ?_
  refine B.iconst 1 dX9_isPlace_8 (by decide) ?_
  refine B.isub dX9_isPlace_9 ?_
  refine B.callS (M' := MX9_isIn) (rc := 0) (rs := 0) (mc := 0) (ms := 0) (st := []) [.int x1, .int 0, .int ((I b2 j5) - 1)] dX9_isPlace_10 ms_X9_isIn lk_X9_103 ⟨Nat.le_of_ble_eq_true rfl, Nat.le_of_ble_eq_true rfl⟩ rfl rfl (Nat.le_of_ble_eq_true rfl) (t_isIn ?_)
  show B g MX9_isPlace 0 0 13 [(0, .ref r0), (1, .int x1), (2, .int x2)] [.int (wi x1 0 ((I b2 j5) - 1))] S P I _
  refine B.if_eq 29 dX9_isPlace_13 (by decide) (fun q7 => ?_) (fun q7 => ?_)
  · replace h := h.1 q7
    refine B.iconst 0 dX9_isPlace_29 (by decide) ?_
    refine B.ireturn dX9_isPlace_30 rfl rfl ?_
    show B g MX9_value 0 0 6 [(0, .ref r0), (1, .int x1), (2, .int x2), (3, .int x3)] [.int 0] S P I _
    refine B.if_eq 19 dX9_value_6 (by decide) (fun _ => ?_) (fun q => absurd q (by decide))
    refine B.iconst 0 dX9_value_19 (by decide) ?_
    refine B.ireturn dX9_value_20 rfl rfl ?_
    exact h
  · replace h := h.2 q7
    refine B.iload_n 2 dX9_isPlace_16 rfl rfl ?_
    refine B.iconst 0 dX9_isPlace_17 (by decide) ?_
    refine B.iconst 3 dX9_isPlace_18 (by decide) ?_
    refine B.callS (M' := MX9_isIn) (rc := 0) (rs := 0) (mc := 0) (ms := 0) (st := []) [.int x2, .int 0, .int 3] dX9_isPlace_19 ms_X9_isIn lk_X9_103 ⟨Nat.le_of_ble_eq_true rfl, Nat.le_of_ble_eq_true rfl⟩ rfl rfl (Nat.le_of_ble_eq_true rfl) (t_isIn ?_)
    show B g MX9_isPlace 0 0 22 [(0, .ref r0), (1, .int x1), (2, .int x2)] [.int (wi x2 0 3)] S P I _
    refine B.if_eq 29 dX9_isPlace_22 (by decide) (fun q8 => ?_) (fun q8 => ?_)
    · replace h := h.1 q8
      refine B.iconst 0 dX9_isPlace_29 (by decide) ?_
      refine B.ireturn dX9_isPlace_30 rfl rfl ?_
      show B g MX9_value 0 0 6 [(0, .ref r0), (1, .int x1), (2, .int x2), (3, .int x3)] [.int 0] S P I _
      refine B.if_eq 19 dX9_value_6 (by decide) (fun _ => ?_) (fun q => absurd q (by decide))
      refine B.iconst 0 dX9_value_19 (by decide) ?_
      refine B.ireturn dX9_value_20 rfl rfl ?_
      exact h
    · replace h := h.2 q8
      refine B.iconst 1 dX9_isPlace_25 (by decide) ?_
      refine B.goto_ 30 dX9_isPlace_26 (by decide) ?_
      refine B.ireturn dX9_isPlace_30 rfl rfl ?_
      show B g MX9_value 0 0 6 [(0, .ref r0), (1, .int x1), (2, .int x2), (3, .int x3)] [.int 1] S P I _
      refine B.if_eq 19 dX9_value_6 (by decide) (fun q => absurd q (by decide)) (fun _ => ?_)
      refine B.iload_n 3 dX9_value_9 rfl rfl ?_
      refine B.iconst 1 dX9_value_10 (by decide) ?_
      refine B.bipush 99 dX9_value_11 (by decide) ?_
      refine B.callS (M' := MX9_isIn) (rc := 0) (rs := 0) (mc := 0) (ms := 0) (st := []) [.int x3, .int 1, .int 99] dX9_value_13 ms_X9_isIn lk_X9_103 ⟨Nat.le_of_ble_eq_true rfl, Nat.le_of_ble_eq_true rfl⟩ rfl rfl (Nat.le_of_ble_eq_true rfl) (t_isIn ?_)
      show B g MX9_value 0 0 16 [(0, .ref r0), (1, .int x1), (2, .int x2), (3, .int x3)] [.int (wi x3 1 99)] S P I _
      refine B.if_ne 21 dX9_value_16 (by decide) (fun q9 => ?_) (fun q9 => ?_)
      · replace h := h.1 q9
        refine B.aload_n 0 dX9_value_21 rfl rfl ?_
        refine B.getP dX9_value_22 fl_9_7 t1 t3 ?_
        refine B.bipush 16 dX9_value_25 (by decide) ?_
        refine B.iconst 4 dX9_value_27 (by decide) ?_
        refine B.iload_n 1 dX9_value_28 rfl rfl ?_
        refine B.imul dX9_value_29 ?_
        refine B.iadd dX9_value_30 ?_
        refine B.iload_n 2 dX9_value_31 rfl rfl ?_
        refine B.iadd dX9_value_32 ?_
        refine B.iload_n 3 dX9_value_33 rfl rfl ?_
        obtain ⟨j10, h⟩ := h
        obtain ⟨t11, h⟩ := h
        refine B.iastore dX9_value_34 t4 t11 ?_
        refine B.iconst 1 dX9_value_35 (by decide) ?_
        refine B.ireturn dX9_value_36 rfl rfl ?_
        exact h
      · replace h := h.2 q9
        refine B.iconst 0 dX9_value_19 (by decide) ?_
        refine B.ireturn dX9_value_20 rfl rfl ?_
        exact h
theorem s_X9_pot_0 {g : GT} {S : ST} {P : PT} {I : IT} {Q : QT} {r0 : Nat} {x1 : Int32} {x2 : Int32} {x3 : Int32} {x4 : Int32} (h : sT S r0 = 10 ∧ ∃ b2, P r0 0 = b2 + 1 ∧ sT S b2 = 40 ∧ ∃ j5, ix 1 j5 (sL S b2) ∧ (((I b2 j5) = 24 → Q (some (.int (-1))) S P I) ∧ (¬ (I b2 j5) = 24 → ∃ j8, ix 0 j8 (sL S b2) ∧ (((wi x1 0 ((I b2 j8) - 1)) = 0 → Q (some (.int (-1))) S P I) ∧ (¬ (wi x1 0 ((I b2 j8) - 1)) = 0 → (((wi x2 0 4) = 0 → Q (some (.int (-1))) S P I) ∧ (¬ (wi x2 0 4) = 0 → (((wi x3 0 3) = 0 → Q (some (.int (-1))) S P I) ∧ (¬ (wi x3 0 3) = 0 → ((¬ (wi x4 0 9) = 0 → B g MX9_pot 0 0 71 [(0, .ref r0), (1, .int x1), (2, .int x2), (3, .int x3), (4, .int x4), (5, .int (I b2 j5)), (6, .int 0)] [] S P (u2 I b2 j5 ((I b2 j5) + 1)) Q) ∧ ((wi x4 0 9) = 0 → Q (some (.int (-1))) S P I))))))))))) : B g MX9_pot 0 0 0 [(0, .ref r0), (1, .int x1), (2, .int x2), (3, .int x3), (4, .int x4)] [] S P I Q := by
  refine B.aload_n 0 dX9_pot_0 rfl rfl ?_
  obtain ⟨t1, h⟩ := h
  obtain ⟨b2, h⟩ := h
  obtain ⟨t3, h⟩ := h
  refine B.getP dX9_pot_1 fl_9_7 t1 t3 ?_
  refine B.iconst 1 dX9_pot_4 (by decide) ?_
  obtain ⟨t4, h⟩ := h
  obtain ⟨j5, h⟩ := h
  obtain ⟨t6, h⟩ := h
  refine B.iaload dX9_pot_5 t4 t6 ?_
  refine B.bipush 24 dX9_pot_6 (by decide) ?_
  refine B.icmp_eq 48 dX9_pot_8 (by decide) (fun q7 => ?_) (fun q7 => ?_)
  · replace h := h.1 q7
    refine B.iconst (-1) dX9_pot_48 (by decide) ?_
    refine B.ireturn dX9_pot_49 rfl rfl ?_
    exact h
  · replace h := h.2 q7
    refine B.aload_n 0 dX9_pot_11 rfl rfl ?_
    refine B.iload_n 1 dX9_pot_12 rfl rfl ?_
    refine B.callV (M' := MX9_isHouse) (rc := 0) (rs := 0) (mc := 0) (ms := 0) (st := []) [.int x1] dX9_pot_13 mv_X9_isHouse lk_X9_144 ⟨Nat.le_of_ble_eq_true rfl, Nat.le_of_ble_eq_true rfl⟩ rfl rfl (Nat.le_of_ble_eq_true rfl) t1 ?_
    refine T_of rfl (Nat.le_of_ble_eq_true rfl) ?_
    show B g MX9_isHouse 0 0 0 [(0, .ref r0), (1, .int x1)] [] S P I _
    refine B.iload_n 1 dX9_isHouse_0 rfl rfl ?_
    refine B.iconst 0 dX9_isHouse_1 (by decide) ?_
    refine B.aload_n 0 dX9_isHouse_2 rfl rfl ?_
    refine B.getP dX9_isHouse_3 fl_9_7 t1 t3 ?_
    refine B.iconst 0 dX9_isHouse_6 (by decide) ?_
    obtain ⟨j8, h⟩ := h
    obtain ⟨t9, h⟩ := h
    refine B.iaload dX9_isHouse_7 t4 t9 ?_
    refine B.iconst 1 dX9_isHouse_8 (by decide) ?_
    refine B.isub dX9_isHouse_9 ?_
    refine B.callS (M' := MX9_isIn) (rc := 0) (rs := 0) (mc := 0) (ms := 0) (st := []) [.int x1, .int 0, .int ((I b2 j8) - 1)] dX9_isHouse_10 ms_X9_isIn lk_X9_103 ⟨Nat.le_of_ble_eq_true rfl, Nat.le_of_ble_eq_true rfl⟩ rfl rfl (Nat.le_of_ble_eq_true rfl) (t_isIn ?_)
    show B g MX9_isHouse 0 0 13 [(0, .ref r0), (1, .int x1)] [.int (wi x1 0 ((I b2 j8) - 1))] S P I _
    refine B.ireturn dX9_isHouse_13 rfl (nar_z (wi_01 _ _ _)) ?_
    show B g MX9_pot 0 0 16 [(0, .ref r0), (1, .int x1), (2, .int x2), (3, .int x3), (4, .int x4)] [.int (wi x1 0 ((I b2 j8) - 1))] S P I _
    refine B.if_eq 48 dX9_pot_16 (by decide) (fun q10 => ?_) (fun q10 => ?_)
    · replace h := h.1 q10
      refine B.iconst (-1) dX9_pot_48 (by decide) ?_
      refine B.ireturn dX9_pot_49 rfl rfl ?_
      exact h
    · replace h := h.2 q10
      refine B.iload_n 2 dX9_pot_19 rfl rfl ?_
      refine B.iconst 0 dX9_pot_20 (by decide) ?_
      refine B.iconst 4 dX9_pot_21 (by decide) ?_
      refine B.callS (M' := MX9_isIn) (rc := 0) (rs := 0) (mc := 0) (ms := 0) (st := []) [.int x2, .int 0, .int 4] dX9_pot_22 ms_X9_isIn lk_X9_103 ⟨Nat.le_of_ble_eq_true rfl, Nat.le_of_ble_eq_true rfl⟩ rfl rfl (Nat.le_of_ble_eq_true rfl) (t_isIn ?_)
      show B g MX9_pot 0 0 25 [(0, .ref r0), (1, .int x1), (2, .int x2), (3, .int x3), (4, .int x4)] [.int (wi x2 0 4)] S P I _
      refine B.if_eq 48 dX9_pot_25 (by decide) (fun q11 => ?_) (fun q11 => ?_)
      · replace h := h.1 q11
        refine B.iconst (-1) dX9_pot_48 (by decide) ?_
        refine B.ireturn dX9_pot_49 rfl rfl ?_
        exact h
      · replace h := h.2 q11
        refine B.iload_n 3 dX9_pot_28 rfl rfl ?_
        refine B.iconst 0 dX9_pot_29 (by decide) ?_
        refine B.iconst 3 dX9_pot_30 (by decide) ?_
        refine B.callS (M' := MX9_isIn) (rc := 0) (rs := 0) (mc := 0) (ms := 0) (st := []) [.int x3, .int 0, .int 3] dX9_pot_31 ms_X9_isIn lk_X9_103 ⟨Nat.le_of_ble_eq_true rfl, Nat.le_of_ble_eq_true rfl⟩ rfl rfl (Nat.le_of_ble_eq_true rfl) (t_isIn ?_)
        show B g MX9_pot 0 0 34 [(0, .ref r0), (1, .int x1), (2, .int x2), (3, .int x3), (4, .int x4)] [.int (wi x3 0 3)] S P I _
        refine B.if_eq 48 dX9_pot_34 (by decide) (fun q12 => ?_) (fun q12 => ?_)
        · replace h := h.1 q12
          refine B.iconst (-1) dX9_pot_48 (by decide) ?_
          refine B.ireturn dX9_pot_49 rfl rfl ?_
          exact h
        · replace h := h.2 q12
          refine B.iload 4 dX9_pot_37 rfl ?_
          refine B.iconst 0 dX9_pot_39 (by decide) ?_
          refine B.bipush 9 dX9_pot_40 (by decide) ?_
          refine B.callS (M' := MX9_isIn) (rc := 0) (rs := 0) (mc := 0) (ms := 0) (st := []) [.int x4, .int 0, .int 9] dX9_pot_42 ms_X9_isIn lk_X9_103 ⟨Nat.le_of_ble_eq_true rfl, Nat.le_of_ble_eq_true rfl⟩ rfl rfl (Nat.le_of_ble_eq_true rfl) (t_isIn ?_)
          show B g MX9_pot 0 0 45 [(0, .ref r0), (1, .int x1), (2, .int x2), (3, .int x3), (4, .int x4)] [.int (wi x4 0 9)] S P I _
          refine B.if_ne 50 dX9_pot_45 (by decide) (fun q13 => ?_) (fun q13 => ?_)
          · replace h := h.1 q13
            refine B.aload_n 0 dX9_pot_50 rfl rfl ?_
            refine B.getP dX9_pot_51 fl_9_7 t1 t3 ?_
            refine B.iconst 1 dX9_pot_54 (by decide) ?_
            refine B.iaload dX9_pot_55 t4 t6 ?_
            refine B.istore (lv' := [(0, .ref r0), (1, .int x1), (2, .int x2), (3, .int x3), (4, .int x4), (5, .int (I b2 j5))]) dX9_pot_56 (by decide) rfl ?_
            refine B.aload_n 0 dX9_pot_58 rfl rfl ?_
            refine B.getP dX9_pot_59 fl_9_7 t1 t3 ?_
            refine B.iconst 1 dX9_pot_62 (by decide) ?_
            refine B.dup2 dX9_pot_63 rfl rfl ?_
            refine B.iaload dX9_pot_64 t4 t6 ?_
            refine B.iconst 1 dX9_pot_65 (by decide) ?_
            refine B.iadd dX9_pot_66 ?_
            refine B.iastore dX9_pot_67 t4 t6 ?_
            refine B.iconst 0 dX9_pot_68 (by decide) ?_
            refine B.istore (lv' := [(0, .ref r0), (1, .int x1), (2, .int x2), (3, .int x3), (4, .int x4), (5, .int (I b2 j5)), (6, .int 0)]) dX9_pot_69 (by decide) rfl ?_
            exact h
          · replace h := h.2 q13
            refine B.iconst (-1) dX9_pot_48 (by decide) ?_
            refine B.ireturn dX9_pot_49 rfl rfl ?_
            exact h
theorem s_X9_pot_71 {g : GT} {S : ST} {P : PT} {I : IT} {Q : QT} {r0 : Nat} {x1 : Int32} {x2 : Int32} {x3 : Int32} {x4 : Int32} {x5 : Int32} {x6 : Int32} (h : ((8 ≤ x6 → sT S r0 = 10 ∧ ∃ b3, P r0 0 = b3 + 1 ∧ sT S b3 = 40 ∧ ∃ j6, ix ((300 + (8 * x5)) + 0) j6 (sL S b3) ∧ ∃ j8, ix ((300 + (8 * x5)) + 1) j8 (sL S b3) ∧ ∃ j10, ix ((300 + (8 * x5)) + 2) j10 (sL S b3) ∧ ∃ j12, ix ((300 + (8 * x5)) + 3) j12 (sL S b3) ∧ ∃ j14, ix ((300 + (8 * x5)) + 4) j14 (sL S b3) ∧ ∃ j16, ix ((60 + (30 * x1)) + 2) j16 (sL S b3) ∧ Q (some (.int x5)) S P (u2 (u2 (u2 (u2 (u2 (u2 I b3 j6 x1) b3 j8 x2) b3 j10 x3) b3 j12 x4) b3 j14 (-1)) b3 j16 1)) ∧ (¬ 8 ≤ x6 → sT S r0 = 10 ∧ ∃ b19, P r0 0 = b19 + 1 ∧ sT S b19 = 40 ∧ ∃ j22, ix ((300 + (8 * x5)) + x6) j22 (sL S b19) ∧ B g MX9_pot 0 0 71 [(0, .ref r0), (1, .int x1), (2, .int x2), (3, .int x3), (4, .int x4), (5, .int x5), (6, .int (x6 + 1))] [] S P (u2 I b19 j22 0) Q))) : B g MX9_pot 0 0 71 [(0, .ref r0), (1, .int x1), (2, .int x2), (3, .int x3), (4, .int x4), (5, .int x5), (6, .int x6)] [] S P I Q := by
  refine B.iload 6 dX9_pot_71 rfl ?_
  refine B.bipush 8 dX9_pot_73 (by decide) ?_
  refine B.icmp_ge 93 dX9_pot_75 (by decide) (fun q1 => ?_) (fun q1 => ?_)
  · replace h := h.1 q1
    refine B.aload_n 0 dX9_pot_93 rfl rfl ?_
    refine B.iload 5 dX9_pot_94 rfl ?_
    refine B.iconst 0 dX9_pot_96 (by decide) ?_
    refine B.iload_n 1 dX9_pot_97 rfl rfl ?_
    obtain ⟨t2, h⟩ := h
    refine B.callV (M' := MX9_sets) (rc := 0) (rs := 0) (mc := 0) (ms := 0) (st := []) [.int x5, .int 0, .int x1] dX9_pot_98 mv_X9_sets lk_X9_147 ⟨Nat.le_of_ble_eq_true rfl, Nat.le_of_ble_eq_true rfl⟩ rfl rfl (Nat.le_of_ble_eq_true rfl) t2 ?_
    refine T_of rfl (Nat.le_of_ble_eq_true rfl) ?_
    show B g MX9_sets 0 0 0 [(0, .ref r0), (1, .int x5), (2, .int 0), (3, .int x1)] [] S P I _
    refine B.aload_n 0 dX9_sets_0 rfl rfl ?_
    obtain ⟨b3, h⟩ := h
    obtain ⟨t4, h⟩ := h
    refine B.getP dX9_sets_1 fl_9_7 t2 t4 ?_
    refine B.sipush 300 dX9_sets_4 (by decide) ?_
    refine B.bipush 8 dX9_sets_7 (by decide) ?_
    refine B.iload_n 1 dX9_sets_9 rfl rfl ?_
    refine B.imul dX9_sets_10 ?_
    refine B.iadd dX9_sets_11 ?_
    refine B.iload_n 2 dX9_sets_12 rfl rfl ?_
    refine B.iadd dX9_sets_13 ?_
    refine B.iload_n 3 dX9_sets_14 rfl rfl ?_
    obtain ⟨t5, h⟩ := h
    obtain ⟨j6, h⟩ := h
    obtain ⟨t7, h⟩ := h
    refine B.iastore dX9_sets_15 t5 t7 ?_
    refine B.return_ dX9_sets_16 rfl ?_
    show B g MX9_pot 0 0 101 [(0, .ref r0), (1, .int x1), (2, .int x2), (3, .int x3), (4, .int x4), (5, .int x5), (6, .int x6)] [] S P (u2 I b3 j6 x1) _
    refine B.aload_n 0 dX9_pot_101 rfl rfl ?_
    refine B.iload 5 dX9_pot_102 rfl ?_
    refine B.iconst 1 dX9_pot_104 (by decide) ?_
    refine B.iload_n 2 dX9_pot_105 rfl rfl ?_
    refine B.callV (M' := MX9_sets) (rc := 0) (rs := 0) (mc := 0) (ms := 0) (st := []) [.int x5, .int 1, .int x2] dX9_pot_106 mv_X9_sets lk_X9_147 ⟨Nat.le_of_ble_eq_true rfl, Nat.le_of_ble_eq_true rfl⟩ rfl rfl (Nat.le_of_ble_eq_true rfl) t2 ?_
    refine T_of rfl (Nat.le_of_ble_eq_true rfl) ?_
    show B g MX9_sets 0 0 0 [(0, .ref r0), (1, .int x5), (2, .int 1), (3, .int x2)] [] S P (u2 I b3 j6 x1) _
    refine B.aload_n 0 dX9_sets_0 rfl rfl ?_
    refine B.getP dX9_sets_1 fl_9_7 t2 t4 ?_
    refine B.sipush 300 dX9_sets_4 (by decide) ?_
    refine B.bipush 8 dX9_sets_7 (by decide) ?_
    refine B.iload_n 1 dX9_sets_9 rfl rfl ?_
    refine B.imul dX9_sets_10 ?_
    refine B.iadd dX9_sets_11 ?_
    refine B.iload_n 2 dX9_sets_12 rfl rfl ?_
    refine B.iadd dX9_sets_13 ?_
    refine B.iload_n 3 dX9_sets_14 rfl rfl ?_
    obtain ⟨j8, h⟩ := h
    obtain ⟨t9, h⟩ := h
    refine B.iastore dX9_sets_15 t5 t9 ?_
    refine B.return_ dX9_sets_16 rfl ?_
    show B g MX9_pot 0 0 109 [(0, .ref r0), (1, .int x1), (2, .int x2), (3, .int x3), (4, .int x4), (5, .int x5), (6, .int x6)] [] S P (u2 (u2 I b3 j6 x1) b3 j8 x2) _
    refine B.aload_n 0 dX9_pot_109 rfl rfl ?_
    refine B.iload 5 dX9_pot_110 rfl ?_
    refine B.iconst 2 dX9_pot_112 (by decide) ?_
    refine B.iload_n 3 dX9_pot_113 rfl rfl ?_
    refine B.callV (M' := MX9_sets) (rc := 0) (rs := 0) (mc := 0) (ms := 0) (st := []) [.int x5, .int 2, .int x3] dX9_pot_114 mv_X9_sets lk_X9_147 ⟨Nat.le_of_ble_eq_true rfl, Nat.le_of_ble_eq_true rfl⟩ rfl rfl (Nat.le_of_ble_eq_true rfl) t2 ?_
    refine T_of rfl (Nat.le_of_ble_eq_true rfl) ?_
    show B g MX9_sets 0 0 0 [(0, .ref r0), (1, .int x5), (2, .int 2), (3, .int x3)] [] S P (u2 (u2 I b3 j6 x1) b3 j8 x2) _
    refine B.aload_n 0 dX9_sets_0 rfl rfl ?_
    refine B.getP dX9_sets_1 fl_9_7 t2 t4 ?_
    refine B.sipush 300 dX9_sets_4 (by decide) ?_
    refine B.bipush 8 dX9_sets_7 (by decide) ?_
    refine B.iload_n 1 dX9_sets_9 rfl rfl ?_
    refine B.imul dX9_sets_10 ?_
    refine B.iadd dX9_sets_11 ?_
    refine B.iload_n 2 dX9_sets_12 rfl rfl ?_
    refine B.iadd dX9_sets_13 ?_
    refine B.iload_n 3 dX9_sets_14 rfl rfl ?_
    obtain ⟨j10, h⟩ := h
    obtain ⟨t11, h⟩ := h
    refine B.iastore dX9_sets_15 t5 t11 ?_
    refine B.return_ dX9_sets_16 rfl ?_
    show B g MX9_pot 0 0 117 [(0, .ref r0), (1, .int x1), (2, .int x2), (3, .int x3), (4, .int x4), (5, .int x5), (6, .int x6)] [] S P (u2 (u2 (u2 I b3 j6 x1) b3 j8 x2) b3 j10 x3) _
    refine B.aload_n 0 dX9_pot_117 rfl rfl ?_
    refine B.iload 5 dX9_pot_118 rfl ?_
    refine B.iconst 3 dX9_pot_120 (by decide) ?_
    refine B.iload 4 dX9_pot_121 rfl ?_
    refine B.callV (M' := MX9_sets) (rc := 0) (rs := 0) (mc := 0) (ms := 0) (st := []) [.int x5, .int 3, .int x4] dX9_pot_123 mv_X9_sets lk_X9_147 ⟨Nat.le_of_ble_eq_true rfl, Nat.le_of_ble_eq_true rfl⟩ rfl rfl (Nat.le_of_ble_eq_true rfl) t2 ?_
    refine T_of rfl (Nat.le_of_ble_eq_true rfl) ?_
    show B g MX9_sets 0 0 0 [(0, .ref r0), (1, .int x5), (2, .int 3), (3, .int x4)] [] S P (u2 (u2 (u2 I b3 j6 x1) b3 j8 x2) b3 j10 x3) _
    refine B.aload_n 0 dX9_sets_0 rfl rfl ?_
    refine B.getP dX9_sets_1 fl_9_7 t2 t4 ?_
    refine B.sipush 300 dX9_sets_4 (by decide) ?_
    refine B.bipush 8 dX9_sets_7 (by decide) ?_
    refine B.iload_n 1 dX9_sets_9 rfl rfl ?_
    refine B.imul dX9_sets_10 ?_
    refine B.iadd dX9_sets_11 ?_
    refine B.iload_n 2 dX9_sets_12 rfl rfl ?_
    refine B.iadd dX9_sets_13 ?_
    refine B.iload_n 3 dX9_sets_14 rfl rfl ?_
    obtain ⟨j12, h⟩ := h
    obtain ⟨t13, h⟩ := h
    refine B.iastore dX9_sets_15 t5 t13 ?_
    refine B.return_ dX9_sets_16 rfl ?_
    show B g MX9_pot 0 0 126 [(0, .ref r0), (1, .int x1), (2, .int x2), (3, .int x3), (4, .int x4), (5, .int x5), (6, .int x6)] [] S P (u2 (u2 (u2 (u2 I b3 j6 x1) b3 j8 x2) b3 j10 x3) b3 j12 x4) _
    refine B.aload_n 0 dX9_pot_126 rfl rfl ?_
    refine B.iload 5 dX9_pot_127 rfl ?_
    refine B.iconst 4 dX9_pot_129 (by decide) ?_
    refine B.iconst (-1) dX9_pot_130 (by decide) ?_
    refine B.callV (M' := MX9_sets) (rc := 0) (rs := 0) (mc := 0) (ms := 0) (st := []) [.int x5, .int 4, .int (-1)] dX9_pot_131 mv_X9_sets lk_X9_147 ⟨Nat.le_of_ble_eq_true rfl, Nat.le_of_ble_eq_true rfl⟩ rfl rfl (Nat.le_of_ble_eq_true rfl) t2 ?_
    refine T_of rfl (Nat.le_of_ble_eq_true rfl) ?_
    show B g MX9_sets 0 0 0 [(0, .ref r0), (1, .int x5), (2, .int 4), (3, .int (-1))] [] S P (u2 (u2 (u2 (u2 I b3 j6 x1) b3 j8 x2) b3 j10 x3) b3 j12 x4) _
    refine B.aload_n 0 dX9_sets_0 rfl rfl ?_
    refine B.getP dX9_sets_1 fl_9_7 t2 t4 ?_
    refine B.sipush 300 dX9_sets_4 (by decide) ?_
    refine B.bipush 8 dX9_sets_7 (by decide) ?_
    refine B.iload_n 1 dX9_sets_9 rfl rfl ?_
    refine B.imul dX9_sets_10 ?_
    refine B.iadd dX9_sets_11 ?_
    refine B.iload_n 2 dX9_sets_12 rfl rfl ?_
    refine B.iadd dX9_sets_13 ?_
    refine B.iload_n 3 dX9_sets_14 rfl rfl ?_
    obtain ⟨j14, h⟩ := h
    obtain ⟨t15, h⟩ := h
    refine B.iastore dX9_sets_15 t5 t15 ?_
    refine B.return_ dX9_sets_16 rfl ?_
    show B g MX9_pot 0 0 134 [(0, .ref r0), (1, .int x1), (2, .int x2), (3, .int x3), (4, .int x4), (5, .int x5), (6, .int x6)] [] S P (u2 (u2 (u2 (u2 (u2 I b3 j6 x1) b3 j8 x2) b3 j10 x3) b3 j12 x4) b3 j14 (-1)) _
    refine B.aload_n 0 dX9_pot_134 rfl rfl ?_
    refine B.getP dX9_pot_135 fl_9_7 t2 t4 ?_
    refine B.bipush 60 dX9_pot_138 (by decide) ?_
    refine B.bipush 30 dX9_pot_140 (by decide) ?_
    refine B.iload_n 1 dX9_pot_142 rfl rfl ?_
    refine B.imul dX9_pot_143 ?_
    refine B.iadd dX9_pot_144 ?_
    refine B.iconst 2 dX9_pot_145 (by decide) ?_
    refine B.iadd dX9_pot_146 ?_
    refine B.iconst 1 dX9_pot_147 (by decide) ?_
    obtain ⟨j16, h⟩ := h
    obtain ⟨t17, h⟩ := h
    refine B.iastore dX9_pot_148 t5 t17 ?_
    refine B.iload 5 dX9_pot_149 rfl ?_
    refine B.ireturn dX9_pot_151 rfl rfl ?_
    exact h
  · replace h := h.2 q1
    refine B.aload_n 0 dX9_pot_78 rfl rfl ?_
    refine B.iload 5 dX9_pot_79 rfl ?_
    refine B.iload 6 dX9_pot_81 rfl ?_
    refine B.iconst 0 dX9_pot_83 (by decide) ?_
    obtain ⟨t18, h⟩ := h
    refine B.callV (M' := MX9_sets) (rc := 0) (rs := 0) (mc := 0) (ms := 0) (st := []) [.int x5, .int x6, .int 0] dX9_pot_84 mv_X9_sets lk_X9_147 ⟨Nat.le_of_ble_eq_true rfl, Nat.le_of_ble_eq_true rfl⟩ rfl rfl (Nat.le_of_ble_eq_true rfl) t18 ?_
    refine T_of rfl (Nat.le_of_ble_eq_true rfl) ?_
    show B g MX9_sets 0 0 0 [(0, .ref r0), (1, .int x5), (2, .int x6), (3, .int 0)] [] S P I _
    refine B.aload_n 0 dX9_sets_0 rfl rfl ?_
    obtain ⟨b19, h⟩ := h
    obtain ⟨t20, h⟩ := h
    refine B.getP dX9_sets_1 fl_9_7 t18 t20 ?_
    refine B.sipush 300 dX9_sets_4 (by decide) ?_
    refine B.bipush 8 dX9_sets_7 (by decide) ?_
    refine B.iload_n 1 dX9_sets_9 rfl rfl ?_
    refine B.imul dX9_sets_10 ?_
    refine B.iadd dX9_sets_11 ?_
    refine B.iload_n 2 dX9_sets_12 rfl rfl ?_
    refine B.iadd dX9_sets_13 ?_
    refine B.iload_n 3 dX9_sets_14 rfl rfl ?_
    obtain ⟨t21, h⟩ := h
    obtain ⟨j22, h⟩ := h
    obtain ⟨t23, h⟩ := h
    refine B.iastore dX9_sets_15 t21 t23 ?_
    refine B.return_ dX9_sets_16 rfl ?_
    show B g MX9_pot 0 0 87 [(0, .ref r0), (1, .int x1), (2, .int x2), (3, .int x3), (4, .int x4), (5, .int x5), (6, .int x6)] [] S P (u2 I b19 j22 0) _
    refine B.iinc (lv' := [(0, .ref r0), (1, .int x1), (2, .int x2), (3, .int x3), (4, .int x4), (5, .int x5), (6, .int (x6 + 1))]) 6 (x6 + 1) dX9_pot_87 rfl rfl (by decide) rfl ?_
    refine B.goto_ 71 dX9_pot_90 (by decide) ?_
    exact h
theorem s_X9_dry_0 {g : GT} {S : ST} {P : PT} {I : IT} {Q : QT} {r0 : Nat} {x1 : Int32} (h : ((¬ (wi x1 1 9) = 0 → B g MX9_dry 0 0 14 [(0, .ref r0), (1, .int x1), (2, .int 0)] [] S P I Q) ∧ ((wi x1 1 9) = 0 → Q (some (.int 0)) S P I))) : B g MX9_dry 0 0 0 [(0, .ref r0), (1, .int x1)] [] S P I Q := by
  refine B.iload_n 1 dX9_dry_0 rfl rfl ?_
  refine B.iconst 1 dX9_dry_1 (by decide) ?_
  refine B.bipush 9 dX9_dry_2 (by decide) ?_
  refine B.callS (M' := MX9_isIn) (rc := 0) (rs := 0) (mc := 0) (ms := 0) (st := []) [.int x1, .int 1, .int 9] dX9_dry_4 ms_X9_isIn lk_X9_103 ⟨Nat.le_of_ble_eq_true rfl, Nat.le_of_ble_eq_true rfl⟩ rfl rfl (Nat.le_of_ble_eq_true rfl) (t_isIn ?_)
  show B g MX9_dry 0 0 7 [(0, .ref r0), (1, .int x1)] [.int (wi x1 1 9)] S P I _
  refine B.if_ne 12 dX9_dry_7 (by decide) (fun q1 => ?_) (fun q1 => ?_)
  · replace h := h.1 q1
    refine B.iconst 0 dX9_dry_12 (by decide) ?_
    refine B.istore_n (lv' := [(0, .ref r0), (1, .int x1), (2, .int 0)]) dX9_dry_13 rfl (by decide) rfl ?_
    exact h
  · replace h := h.2 q1
    refine B.iconst 0 dX9_dry_10 (by decide) ?_
    refine B.ireturn dX9_dry_11 rfl rfl ?_
    exact h
theorem s_X9_dry_14 {g : GT} {S : ST} {P : PT} {I : IT} {Q : QT} {r0 : Nat} {x1 : Int32} {x2 : Int32} (h : sT S r0 = 10 ∧ ∃ b2, P r0 0 = b2 + 1 ∧ sT S b2 = 40 ∧ ∃ j5, ix 1 j5 (sL S b2) ∧ (((I b2 j5) ≤ x2 → Q (some (.int 1)) S P I) ∧ (¬ (I b2 j5) ≤ x2 → ∃ j8, ix ((300 + (8 * x2)) + 4) j8 (sL S b2) ∧ (((I b2 j8) < 0 → ∃ j11, ix ((300 + (8 * x2)) + 3) j11 (sL S b2) ∧ (((I b2 j11) ≤ x1 → B g MX9_dry 0 0 14 [(0, .ref r0), (1, .int x1), (2, .int (x2 + 1))] [] S P (u2 I b2 j11 0) Q) ∧ (¬ (I b2 j11) ≤ x1 → B g MX9_dry 0 0 14 [(0, .ref r0), (1, .int x1), (2, .int (x2 + 1))] [] S P (u2 I b2 j11 ((I b2 j11) - x1)) Q))) ∧ (¬ (I b2 j8) < 0 → B g MX9_dry 0 0 14 [(0, .ref r0), (1, .int x1), (2, .int (x2 + 1))] [] S P I Q))))) : B g MX9_dry 0 0 14 [(0, .ref r0), (1, .int x1), (2, .int x2)] [] S P I Q := by
  refine B.iload_n 2 dX9_dry_14 rfl rfl ?_
  refine B.aload_n 0 dX9_dry_15 rfl rfl ?_
  obtain ⟨t1, h⟩ := h
  obtain ⟨b2, h⟩ := h
  obtain ⟨t3, h⟩ := h
  refine B.getP dX9_dry_16 fl_9_7 t1 t3 ?_
  refine B.iconst 1 dX9_dry_19 (by decide) ?_
  obtain ⟨t4, h⟩ := h
  obtain ⟨j5, h⟩ := h
  obtain ⟨t6, h⟩ := h
  refine B.iaload dX9_dry_20 t4 t6 ?_
  refine B.icmp_ge 66 dX9_dry_21 (by decide) (fun q7 => ?_) (fun q7 => ?_)
  · replace h := h.1 q7
    refine B.iconst 1 dX9_dry_66 (by decide) ?_
    refine B.ireturn dX9_dry_67 rfl rfl ?_
    exact h
  · replace h := h.2 q7
    refine B.aload_n 0 dX9_dry_24 rfl rfl ?_
    refine B.iload_n 2 dX9_dry_25 rfl rfl ?_
    refine B.callV (M' := MX9_stands) (rc := 0) (rs := 0) (mc := 0) (ms := 0) (st := []) [.int x2] dX9_dry_26 mv_X9_stands lk_X9_134 ⟨Nat.le_of_ble_eq_true rfl, Nat.le_of_ble_eq_true rfl⟩ rfl rfl (Nat.le_of_ble_eq_true rfl) t1 ?_
    refine T_of rfl (Nat.le_of_ble_eq_true rfl) ?_
    show B g MX9_stands 0 0 0 [(0, .ref r0), (1, .int x2)] [] S P I _
    refine B.aload_n 0 dX9_stands_0 rfl rfl ?_
    refine B.iload_n 1 dX9_stands_1 rfl rfl ?_
    refine B.iconst 4 dX9_stands_2 (by decide) ?_
    refine B.callV (M' := MX9_its) (rc := 0) (rs := 0) (mc := 0) (ms := 0) (st := []) [.int x2, .int 4] dX9_stands_3 mv_X9_its lk_X9_130 ⟨Nat.le_of_ble_eq_true rfl, Nat.le_of_ble_eq_true rfl⟩ rfl rfl (Nat.le_of_ble_eq_true rfl) t1 ?_
    refine T_of rfl (Nat.le_of_ble_eq_true rfl) ?_
    show B g MX9_its 0 0 0 [(0, .ref r0), (1, .int x2), (2, .int 4)] [] S P I _
    refine B.aload_n 0 dX9_its_0 rfl rfl ?_
    refine B.getP dX9_its_1 fl_9_7 t1 t3 ?_
    refine B.sipush 300 dX9_its_4 (by decide) ?_
    refine B.bipush 8 dX9_its_7 (by decide) ?_
    refine B.iload_n 1 dX9_its_9 rfl rfl ?_
    refine B.imul dX9_its_10 ?_
    refine B.iadd dX9_its_11 ?_
    refine B.iload_n 2 dX9_its_12 rfl rfl ?_
    refine B.iadd dX9_its_13 ?_
    obtain ⟨j8, h⟩ := h
    obtain ⟨t9, h⟩ := h
    refine B.iaload dX9_its_14 t4 t9 ?_
    refine B.ireturn dX9_its_15 rfl rfl ?_
    show B g MX9_stands 0 0 6 [(0, .ref r0), (1, .int x2)] [.int (I b2 j8)] S P I _
    refine B.if_lt 13 dX9_stands_6 (by decide) (fun q10 => ?_) (fun q10 => ?_)
    · replace h := h.1 q10
      refine B.iconst 0 dX9_stands_13 (by decide) ?_
      refine B.ireturn dX9_stands_14 rfl rfl ?_
      show B g MX9_dry 0 0 29 [(0, .ref r0), (1, .int x1), (2, .int x2)] [.int 0] S P I _
      refine B.if_ne 60 dX9_dry_29 (by decide) (fun q => absurd q (by decide)) (fun _ => ?_)
      refine B.aload_n 0 dX9_dry_32 rfl rfl ?_
      refine B.iload_n 2 dX9_dry_33 rfl rfl ?_
      refine B.iconst 3 dX9_dry_34 (by decide) ?_
      refine B.aload_n 0 dX9_dry_35 rfl rfl ?_
      refine B.iload_n 2 dX9_dry_36 rfl rfl ?_
      refine B.iconst 3 dX9_dry_37 (by decide) ?_
      refine B.callV (M' := MX9_its) (rc := 0) (rs := 0) (mc := 0) (ms := 0) (st := [.int 3, .int x2, .ref r0]) [.int x2, .int 3] dX9_dry_38 mv_X9_its lk_X9_130 ⟨Nat.le_of_ble_eq_true rfl, Nat.le_of_ble_eq_true rfl⟩ rfl rfl (Nat.le_of_ble_eq_true rfl) t1 ?_
      refine T_of rfl (Nat.le_of_ble_eq_true rfl) ?_
      show B g MX9_its 0 0 0 [(0, .ref r0), (1, .int x2), (2, .int 3)] [] S P I _
      refine B.aload_n 0 dX9_its_0 rfl rfl ?_
      refine B.getP dX9_its_1 fl_9_7 t1 t3 ?_
      refine B.sipush 300 dX9_its_4 (by decide) ?_
      refine B.bipush 8 dX9_its_7 (by decide) ?_
      refine B.iload_n 1 dX9_its_9 rfl rfl ?_
      refine B.imul dX9_its_10 ?_
      refine B.iadd dX9_its_11 ?_
      refine B.iload_n 2 dX9_its_12 rfl rfl ?_
      refine B.iadd dX9_its_13 ?_
      obtain ⟨j11, h⟩ := h
      obtain ⟨t12, h⟩ := h
      refine B.iaload dX9_its_14 t4 t12 ?_
      refine B.ireturn dX9_its_15 rfl rfl ?_
      show B g MX9_dry 0 0 41 [(0, .ref r0), (1, .int x1), (2, .int x2)] [.int (I b2 j11), .int 3, .int x2, .ref r0] S P I _
      refine B.iload_n 1 dX9_dry_41 rfl rfl ?_
      refine B.icmp_le 56 dX9_dry_42 (by decide) (fun q13 => ?_) (fun q13 => ?_)
      · replace h := h.1 q13
        refine B.iconst 0 dX9_dry_56 (by decide) ?_
        refine B.callV (M' := MX9_sets) (rc := 0) (rs := 0) (mc := 0) (ms := 0) (st := []) [.int x2, .int 3, .int 0] dX9_dry_57 mv_X9_sets lk_X9_147 ⟨Nat.le_of_ble_eq_true rfl, Nat.le_of_ble_eq_true rfl⟩ rfl rfl (Nat.le_of_ble_eq_true rfl) t1 ?_
        refine T_of rfl (Nat.le_of_ble_eq_true rfl) ?_
        show B g MX9_sets 0 0 0 [(0, .ref r0), (1, .int x2), (2, .int 3), (3, .int 0)] [] S P I _
        refine B.aload_n 0 dX9_sets_0 rfl rfl ?_
        refine B.getP dX9_sets_1 fl_9_7 t1 t3 ?_
        refine B.sipush 300 dX9_sets_4 (by decide) ?_
        refine B.bipush 8 dX9_sets_7 (by decide) ?_
        refine B.iload_n 1 dX9_sets_9 rfl rfl ?_
        refine B.imul dX9_sets_10 ?_
        refine B.iadd dX9_sets_11 ?_
        refine B.iload_n 2 dX9_sets_12 rfl rfl ?_
        refine B.iadd dX9_sets_13 ?_
        refine B.iload_n 3 dX9_sets_14 rfl rfl ?_
        refine B.iastore dX9_sets_15 t4 t12 ?_
        refine B.return_ dX9_sets_16 rfl ?_
        show B g MX9_dry 0 0 60 [(0, .ref r0), (1, .int x1), (2, .int x2)] [] S P (u2 I b2 j11 0) _
        refine B.iinc (lv' := [(0, .ref r0), (1, .int x1), (2, .int (x2 + 1))]) 2 (x2 + 1) dX9_dry_60 rfl rfl (by decide) rfl ?_
        refine B.goto_ 14 dX9_dry_63 (by decide) ?_
        exact h
      · replace h := h.2 q13
        refine B.aload_n 0 dX9_dry_45 rfl rfl ?_
        refine B.iload_n 2 dX9_dry_46 rfl rfl ?_
        refine B.iconst 3 dX9_dry_47 (by decide) ?_
        refine B.callV (M' := MX9_its) (rc := 0) (rs := 0) (mc := 0) (ms := 0) (st := [.int 3, .int x2, .ref r0]) [.int x2, .int 3] dX9_dry_48 mv_X9_its lk_X9_130 ⟨Nat.le_of_ble_eq_true rfl, Nat.le_of_ble_eq_true rfl⟩ rfl rfl (Nat.le_of_ble_eq_true rfl) t1 ?_
        refine T_of rfl (Nat.le_of_ble_eq_true rfl) ?_
        show B g MX9_its 0 0 0 [(0, .ref r0), (1, .int x2), (2, .int 3)] [] S P I _
        refine B.aload_n 0 dX9_its_0 rfl rfl ?_
        refine B.getP dX9_its_1 fl_9_7 t1 t3 ?_
        refine B.sipush 300 dX9_its_4 (by decide) ?_
        refine B.bipush 8 dX9_its_7 (by decide) ?_
        refine B.iload_n 1 dX9_its_9 rfl rfl ?_
        refine B.imul dX9_its_10 ?_
        refine B.iadd dX9_its_11 ?_
        refine B.iload_n 2 dX9_its_12 rfl rfl ?_
        refine B.iadd dX9_its_13 ?_
        refine B.iaload dX9_its_14 t4 t12 ?_
        refine B.ireturn dX9_its_15 rfl rfl ?_
        show B g MX9_dry 0 0 51 [(0, .ref r0), (1, .int x1), (2, .int x2)] [.int (I b2 j11), .int 3, .int x2, .ref r0] S P I _
        refine B.iload_n 1 dX9_dry_51 rfl rfl ?_
        refine B.isub dX9_dry_52 ?_
        refine B.goto_ 57 dX9_dry_53 (by decide) ?_
        refine B.callV (M' := MX9_sets) (rc := 0) (rs := 0) (mc := 0) (ms := 0) (st := []) [.int x2, .int 3, .int ((I b2 j11) - x1)] dX9_dry_57 mv_X9_sets lk_X9_147 ⟨Nat.le_of_ble_eq_true rfl, Nat.le_of_ble_eq_true rfl⟩ rfl rfl (Nat.le_of_ble_eq_true rfl) t1 ?_
        refine T_of rfl (Nat.le_of_ble_eq_true rfl) ?_
        show B g MX9_sets 0 0 0 [(0, .ref r0), (1, .int x2), (2, .int 3), (3, .int ((I b2 j11) - x1))] [] S P I _
        refine B.aload_n 0 dX9_sets_0 rfl rfl ?_
        refine B.getP dX9_sets_1 fl_9_7 t1 t3 ?_
        refine B.sipush 300 dX9_sets_4 (by decide) ?_
        refine B.bipush 8 dX9_sets_7 (by decide) ?_
        refine B.iload_n 1 dX9_sets_9 rfl rfl ?_
        refine B.imul dX9_sets_10 ?_
        refine B.iadd dX9_sets_11 ?_
        refine B.iload_n 2 dX9_sets_12 rfl rfl ?_
        refine B.iadd dX9_sets_13 ?_
        refine B.iload_n 3 dX9_sets_14 rfl rfl ?_
        refine B.iastore dX9_sets_15 t4 t12 ?_
        refine B.return_ dX9_sets_16 rfl ?_
        show B g MX9_dry 0 0 60 [(0, .ref r0), (1, .int x1), (2, .int x2)] [] S P (u2 I b2 j11 ((I b2 j11) - x1)) _
        refine B.iinc (lv' := [(0, .ref r0), (1, .int x1), (2, .int (x2 + 1))]) 2 (x2 + 1) dX9_dry_60 rfl rfl (by decide) rfl ?_
        refine B.goto_ 14 dX9_dry_63 (by decide) ?_
        exact h
    · replace h := h.2 q10
      refine B.iconst 1 dX9_stands_9 (by decide) ?_
      refine B.goto_ 14 dX9_stands_10 (by decide) ?_
      refine B.ireturn dX9_stands_14 rfl rfl ?_
      show B g MX9_dry 0 0 29 [(0, .ref r0), (1, .int x1), (2, .int x2)] [.int 1] S P I _
      refine B.if_ne 60 dX9_dry_29 (by decide) (fun _ => ?_) (fun q => absurd q (by decide))
      refine B.iinc (lv' := [(0, .ref r0), (1, .int x1), (2, .int (x2 + 1))]) 2 (x2 + 1) dX9_dry_60 rfl rfl (by decide) rfl ?_
      refine B.goto_ 14 dX9_dry_63 (by decide) ?_
      exact h
theorem s_X9_greatestHeat_0 {g : GT} {S : ST} {P : PT} {I : IT} {Q : QT} {r0 : Nat} (h : sT S r0 = 10 ∧ ∃ b2, P r0 0 = b2 + 1 ∧ sT S b2 = 40 ∧ ∃ j5, ix 10 j5 (sL S b2) ∧ B g MX9_greatestHeat 0 0 10 [(0, .ref r0), (1, .int (I b2 j5)), (2, .int 1)] [] S P I Q) : B g MX9_greatestHeat 0 0 0 [(0, .ref r0)] [] S P I Q := by
  refine B.aload_n 0 dX9_greatestHeat_0 rfl rfl ?_
  obtain ⟨t1, h⟩ := h
  obtain ⟨b2, h⟩ := h
  obtain ⟨t3, h⟩ := h
  refine B.getP dX9_greatestHeat_1 fl_9_7 t1 t3 ?_
  refine B.bipush 10 dX9_greatestHeat_4 (by decide) ?_
  obtain ⟨t4, h⟩ := h
  obtain ⟨j5, h⟩ := h
  obtain ⟨t6, h⟩ := h
  refine B.iaload dX9_greatestHeat_6 t4 t6 ?_
  refine B.istore_n (lv' := [(0, .ref r0), (1, .int (I b2 j5))]) dX9_greatestHeat_7 rfl (by decide) rfl ?_
  refine B.iconst 1 dX9_greatestHeat_8 (by decide) ?_
  refine B.istore_n (lv' := [(0, .ref r0), (1, .int (I b2 j5)), (2, .int 1)]) dX9_greatestHeat_9 rfl (by decide) rfl ?_
  exact h
theorem s_X9_greatestHeat_10 {g : GT} {S : ST} {P : PT} {I : IT} {Q : QT} {r0 : Nat} {x1 : Int32} {x2 : Int32} (h : sT S r0 = 10 ∧ ∃ b2, P r0 0 = b2 + 1 ∧ sT S b2 = 40 ∧ ∃ j5, ix 2 j5 (sL S b2) ∧ (((I b2 j5) ≤ x2 → Q (some (.int x1)) S P I) ∧ (¬ (I b2 j5) ≤ x2 → ∃ j8, ix (10 + x2) j8 (sL S b2) ∧ (((I b2 j8) ≤ x1 → B g MX9_greatestHeat 0 0 10 [(0, .ref r0), (1, .int x1), (2, .int (x2 + 1))] [] S P I Q) ∧ (¬ (I b2 j8) ≤ x1 → B g MX9_greatestHeat 0 0 10 [(0, .ref r0), (1, .int (I b2 j8)), (2, .int (x2 + 1))] [] S P I Q))))) : B g MX9_greatestHeat 0 0 10 [(0, .ref r0), (1, .int x1), (2, .int x2)] [] S P I Q := by
  refine B.iload_n 2 dX9_greatestHeat_10 rfl rfl ?_
  refine B.aload_n 0 dX9_greatestHeat_11 rfl rfl ?_
  obtain ⟨t1, h⟩ := h
  obtain ⟨b2, h⟩ := h
  obtain ⟨t3, h⟩ := h
  refine B.getP dX9_greatestHeat_12 fl_9_7 t1 t3 ?_
  refine B.iconst 2 dX9_greatestHeat_15 (by decide) ?_
  obtain ⟨t4, h⟩ := h
  obtain ⟨j5, h⟩ := h
  obtain ⟨t6, h⟩ := h
  refine B.iaload dX9_greatestHeat_16 t4 t6 ?_
  refine B.icmp_ge 49 dX9_greatestHeat_17 (by decide) (fun q7 => ?_) (fun q7 => ?_)
  · replace h := h.1 q7
    refine B.iload_n 1 dX9_greatestHeat_49 rfl rfl ?_
    refine B.ireturn dX9_greatestHeat_50 rfl rfl ?_
    exact h
  · replace h := h.2 q7
    refine B.aload_n 0 dX9_greatestHeat_20 rfl rfl ?_
    refine B.getP dX9_greatestHeat_21 fl_9_7 t1 t3 ?_
    refine B.bipush 10 dX9_greatestHeat_24 (by decide) ?_
    refine B.iload_n 2 dX9_greatestHeat_26 rfl rfl ?_
    refine B.iadd dX9_greatestHeat_27 ?_
    obtain ⟨j8, h⟩ := h
    obtain ⟨t9, h⟩ := h
    refine B.iaload dX9_greatestHeat_28 t4 t9 ?_
    refine B.iload_n 1 dX9_greatestHeat_29 rfl rfl ?_
    refine B.icmp_le 43 dX9_greatestHeat_30 (by decide) (fun q10 => ?_) (fun q10 => ?_)
    · replace h := h.1 q10
      refine B.iinc (lv' := [(0, .ref r0), (1, .int x1), (2, .int (x2 + 1))]) 2 (x2 + 1) dX9_greatestHeat_43 rfl rfl (by decide) rfl ?_
      refine B.goto_ 10 dX9_greatestHeat_46 (by decide) ?_
      exact h
    · replace h := h.2 q10
      refine B.aload_n 0 dX9_greatestHeat_33 rfl rfl ?_
      refine B.getP dX9_greatestHeat_34 fl_9_7 t1 t3 ?_
      refine B.bipush 10 dX9_greatestHeat_37 (by decide) ?_
      refine B.iload_n 2 dX9_greatestHeat_39 rfl rfl ?_
      refine B.iadd dX9_greatestHeat_40 ?_
      refine B.iaload dX9_greatestHeat_41 t4 t9 ?_
      refine B.istore_n (lv' := [(0, .ref r0), (1, .int (I b2 j8)), (2, .int x2)]) dX9_greatestHeat_42 rfl (by decide) rfl ?_
      refine B.iinc (lv' := [(0, .ref r0), (1, .int (I b2 j8)), (2, .int (x2 + 1))]) 2 (x2 + 1) dX9_greatestHeat_43 rfl rfl (by decide) rfl ?_
      refine B.goto_ 10 dX9_greatestHeat_46 (by decide) ?_
      exact h
theorem s_X9_at0_0 {g : GT} {S : ST} {P : PT} {I : IT} {Q : QT} {r0 : Nat} {x1 : Int32} (h : B g MX9_at0 0 0 2 [(0, .ref r0), (1, .int x1), (2, .int 0)] [] S P I Q) : B g MX9_at0 0 0 0 [(0, .ref r0), (1, .int x1)] [] S P I Q := by
  refine B.iconst 0 dX9_at0_0 (by decide) ?_
  refine B.istore_n (lv' := [(0, .ref r0), (1, .int x1), (2, .int 0)]) dX9_at0_1 rfl (by decide) rfl ?_
  exact h
theorem s_X9_at0_2 {g : GT} {S : ST} {P : PT} {I : IT} {Q : QT} {r0 : Nat} {x1 : Int32} {x2 : Int32} (h : sT S r0 = 10 ∧ ∃ b2, P r0 0 = b2 + 1 ∧ sT S b2 = 40 ∧ ∃ j5, ix 1 j5 (sL S b2) ∧ (((I b2 j5) ≤ x2 → Q (some (.int (-1))) S P I) ∧ (¬ (I b2 j5) ≤ x2 → ∃ j8, ix ((300 + (8 * x2)) + 4) j8 (sL S b2) ∧ ((¬ (I b2 j8) = x1 → B g MX9_at0 0 0 2 [(0, .ref r0), (1, .int x1), (2, .int (x2 + 1))] [] S P I Q) ∧ ((I b2 j8) = x1 → Q (some (.int x2)) S P I))))) : B g MX9_at0 0 0 2 [(0, .ref r0), (1, .int x1), (2, .int x2)] [] S P I Q := by
  refine B.iload_n 2 dX9_at0_2 rfl rfl ?_
  refine B.aload_n 0 dX9_at0_3 rfl rfl ?_
  obtain ⟨t1, h⟩ := h
  obtain ⟨b2, h⟩ := h
  obtain ⟨t3, h⟩ := h
  refine B.getP dX9_at0_4 fl_9_7 t1 t3 ?_
  refine B.iconst 1 dX9_at0_7 (by decide) ?_
  obtain ⟨t4, h⟩ := h
  obtain ⟨j5, h⟩ := h
  obtain ⟨t6, h⟩ := h
  refine B.iaload dX9_at0_8 t4 t6 ?_
  refine B.icmp_ge 30 dX9_at0_9 (by decide) (fun q7 => ?_) (fun q7 => ?_)
  · replace h := h.1 q7
    refine B.iconst (-1) dX9_at0_30 (by decide) ?_
    refine B.ireturn dX9_at0_31 rfl rfl ?_
    exact h
  · replace h := h.2 q7
    refine B.aload_n 0 dX9_at0_12 rfl rfl ?_
    refine B.iload_n 2 dX9_at0_13 rfl rfl ?_
    refine B.iconst 4 dX9_at0_14 (by decide) ?_
    refine B.callV (M' := MX9_its) (rc := 0) (rs := 0) (mc := 0) (ms := 0) (st := []) [.int x2, .int 4] dX9_at0_15 mv_X9_its lk_X9_130 ⟨Nat.le_of_ble_eq_true rfl, Nat.le_of_ble_eq_true rfl⟩ rfl rfl (Nat.le_of_ble_eq_true rfl) t1 ?_
    refine T_of rfl (Nat.le_of_ble_eq_true rfl) ?_
    show B g MX9_its 0 0 0 [(0, .ref r0), (1, .int x2), (2, .int 4)] [] S P I _
    refine B.aload_n 0 dX9_its_0 rfl rfl ?_
    refine B.getP dX9_its_1 fl_9_7 t1 t3 ?_
    refine B.sipush 300 dX9_its_4 (by decide) ?_
    refine B.bipush 8 dX9_its_7 (by decide) ?_
    refine B.iload_n 1 dX9_its_9 rfl rfl ?_
    refine B.imul dX9_its_10 ?_
    refine B.iadd dX9_its_11 ?_
    refine B.iload_n 2 dX9_its_12 rfl rfl ?_
    refine B.iadd dX9_its_13 ?_
    obtain ⟨j8, h⟩ := h
    obtain ⟨t9, h⟩ := h
    refine B.iaload dX9_its_14 t4 t9 ?_
    refine B.ireturn dX9_its_15 rfl rfl ?_
    show B g MX9_at0 0 0 18 [(0, .ref r0), (1, .int x1), (2, .int x2)] [.int (I b2 j8)] S P I _
    refine B.iload_n 1 dX9_at0_18 rfl rfl ?_
    refine B.icmp_ne 24 dX9_at0_19 (by decide) (fun q10 => ?_) (fun q10 => ?_)
    · replace h := h.1 q10
      refine B.iinc (lv' := [(0, .ref r0), (1, .int x1), (2, .int (x2 + 1))]) 2 (x2 + 1) dX9_at0_24 rfl rfl (by decide) rfl ?_
      refine B.goto_ 2 dX9_at0_27 (by decide) ?_
      exact h
    · replace h := h.2 q10
      refine B.iload_n 2 dX9_at0_22 rfl rfl ?_
      refine B.ireturn dX9_at0_23 rfl rfl ?_
      exact h
theorem s_X9_bestPlace_0 {g : GT} {S : ST} {P : PT} {I : IT} {Q : QT} {r0 : Nat} (h : B g MX9_bestPlace 0 0 4 [(0, .ref r0), (1, .int (-1)), (2, .int 0)] [] S P I Q) : B g MX9_bestPlace 0 0 0 [(0, .ref r0)] [] S P I Q := by
  refine B.iconst (-1) dX9_bestPlace_0 (by decide) ?_
  refine B.istore_n (lv' := [(0, .ref r0), (1, .int (-1))]) dX9_bestPlace_1 rfl (by decide) rfl ?_
  refine B.iconst 0 dX9_bestPlace_2 (by decide) ?_
  refine B.istore_n (lv' := [(0, .ref r0), (1, .int (-1)), (2, .int 0)]) dX9_bestPlace_3 rfl (by decide) rfl ?_
  exact h
theorem s_X9_bestPlace_4 {g : GT} {S : ST} {P : PT} {I : IT} {Q : QT} {r0 : Nat} {x1 : Int32} {x2 : Int32} (h : sT S r0 = 10 ∧ ∃ b2, P r0 0 = b2 + 1 ∧ sT S b2 = 40 ∧ ∃ j5, ix 2 j5 (sL S b2) ∧ (((4 * (I b2 j5)) ≤ x2 → Q (some (.int x1)) S P I) ∧ (¬ (4 * (I b2 j5)) ≤ x2 → T g MX9_at0 0 0 [.ref r0, .int x2] S P I (fun r S' P' I' => B g MX9_bestPlace 0 0 21 [(0, .ref r0), (1, .int x1), (2, .int x2)] (r.toList ++ []) S' P' I' Q)))) : B g MX9_bestPlace 0 0 4 [(0, .ref r0), (1, .int x1), (2, .int x2)] [] S P I Q := by
  refine B.iload_n 2 dX9_bestPlace_4 rfl rfl ?_
  refine B.iconst 4 dX9_bestPlace_5 (by decide) ?_
  refine B.aload_n 0 dX9_bestPlace_6 rfl rfl ?_
  obtain ⟨t1, h⟩ := h
  obtain ⟨b2, h⟩ := h
  obtain ⟨t3, h⟩ := h
  refine B.getP dX9_bestPlace_7 fl_9_7 t1 t3 ?_
  refine B.iconst 2 dX9_bestPlace_10 (by decide) ?_
  obtain ⟨t4, h⟩ := h
  obtain ⟨j5, h⟩ := h
  obtain ⟨t6, h⟩ := h
  refine B.iaload dX9_bestPlace_11 t4 t6 ?_
  refine B.imul dX9_bestPlace_12 ?_
  refine B.icmp_ge 57 dX9_bestPlace_13 (by decide) (fun q7 => ?_) (fun q7 => ?_)
  · replace h := h.1 q7
    refine B.iload_n 1 dX9_bestPlace_57 rfl rfl ?_
    refine B.ireturn dX9_bestPlace_58 rfl rfl ?_
    exact h
  · replace h := h.2 q7
    refine B.aload_n 0 dX9_bestPlace_16 rfl rfl ?_
    refine B.iload_n 2 dX9_bestPlace_17 rfl rfl ?_
    refine B.callV (M' := MX9_at0) (rc := 0) (rs := 0) (mc := 0) (ms := 0) (st := []) [.int x2] dX9_bestPlace_18 mv_X9_at0 lk_X9_151 ⟨Nat.le_of_ble_eq_true rfl, Nat.le_of_ble_eq_true rfl⟩ rfl rfl (Nat.le_of_ble_eq_true rfl) t1 ?_
    exact h
theorem s_X9_bestPlace_21 {g : GT} {S : ST} {P : PT} {I : IT} {Q : QT} {r0 : Nat} {x1 : Int32} {x2 : Int32} {w_s0 : Int32} (h : ((0 ≤ w_s0 → B g MX9_bestPlace 0 0 4 [(0, .ref r0), (1, .int x1), (2, .int (x2 + 1))] [] S P I Q) ∧ (¬ 0 ≤ w_s0 → ((x1 < 0 → B g MX9_bestPlace 0 0 4 [(0, .ref r0), (1, .int x2), (2, .int (x2 + 1))] [] S P I Q) ∧ (¬ x1 < 0 → sT S r0 = 10 ∧ ∃ b4, P r0 0 = b4 + 1 ∧ sT S b4 = 40 ∧ ∃ j7, ix (16 + x2) j7 (sL S b4) ∧ ∃ j9, ix (16 + x1) j9 (sL S b4) ∧ (((I b4 j7) ≤ (I b4 j9) → B g MX9_bestPlace 0 0 4 [(0, .ref r0), (1, .int x1), (2, .int (x2 + 1))] [] S P I Q) ∧ (¬ (I b4 j7) ≤ (I b4 j9) → B g MX9_bestPlace 0 0 4 [(0, .ref r0), (1, .int x2), (2, .int (x2 + 1))] [] S P I Q))))))) : B g MX9_bestPlace 0 0 21 [(0, .ref r0), (1, .int x1), (2, .int x2)] [.int w_s0] S P I Q := by
  refine B.if_ge 51 dX9_bestPlace_21 (by decide) (fun q1 => ?_) (fun q1 => ?_)
  · replace h := h.1 q1
    refine B.iinc (lv' := [(0, .ref r0), (1, .int x1), (2, .int (x2 + 1))]) 2 (x2 + 1) dX9_bestPlace_51 rfl rfl (by decide) rfl ?_
    refine B.goto_ 4 dX9_bestPlace_54 (by decide) ?_
    exact h
  · replace h := h.2 q1
    refine B.iload_n 1 dX9_bestPlace_24 rfl rfl ?_
    refine B.if_lt 49 dX9_bestPlace_25 (by decide) (fun q2 => ?_) (fun q2 => ?_)
    · replace h := h.1 q2
      refine B.iload_n 2 dX9_bestPlace_49 rfl rfl ?_
      refine B.istore_n (lv' := [(0, .ref r0), (1, .int x2), (2, .int x2)]) dX9_bestPlace_50 rfl (by decide) rfl ?_
      refine B.iinc (lv' := [(0, .ref r0), (1, .int x2), (2, .int (x2 + 1))]) 2 (x2 + 1) dX9_bestPlace_51 rfl rfl (by decide) rfl ?_
      refine B.goto_ 4 dX9_bestPlace_54 (by decide) ?_
      exact h
    · replace h := h.2 q2
      refine B.aload_n 0 dX9_bestPlace_28 rfl rfl ?_
      obtain ⟨t3, h⟩ := h
      obtain ⟨b4, h⟩ := h
      obtain ⟨t5, h⟩ := h
      refine B.getP dX9_bestPlace_29 fl_9_7 t3 t5 ?_
      refine B.bipush 16 dX9_bestPlace_32 (by decide) ?_
      refine B.iload_n 2 dX9_bestPlace_34 rfl rfl ?_
      refine B.iadd dX9_bestPlace_35 ?_
      obtain ⟨t6, h⟩ := h
      obtain ⟨j7, h⟩ := h
      obtain ⟨t8, h⟩ := h
      refine B.iaload dX9_bestPlace_36 t6 t8 ?_
      refine B.aload_n 0 dX9_bestPlace_37 rfl rfl ?_
      refine B.getP dX9_bestPlace_38 fl_9_7 t3 t5 ?_
      refine B.bipush 16 dX9_bestPlace_41 (by decide) ?_
      refine B.iload_n 1 dX9_bestPlace_43 rfl rfl ?_
      refine B.iadd dX9_bestPlace_44 ?_
      obtain ⟨j9, h⟩ := h
      obtain ⟨t10, h⟩ := h
      refine B.iaload dX9_bestPlace_45 t6 t10 ?_
      refine B.icmp_le 51 dX9_bestPlace_46 (by decide) (fun q11 => ?_) (fun q11 => ?_)
      · replace h := h.1 q11
        refine B.iinc (lv' := [(0, .ref r0), (1, .int x1), (2, .int (x2 + 1))]) 2 (x2 + 1) dX9_bestPlace_51 rfl rfl (by decide) rfl ?_
        refine B.goto_ 4 dX9_bestPlace_54 (by decide) ?_
        exact h
      · replace h := h.2 q11
        refine B.iload_n 2 dX9_bestPlace_49 rfl rfl ?_
        refine B.istore_n (lv' := [(0, .ref r0), (1, .int x2), (2, .int x2)]) dX9_bestPlace_50 rfl (by decide) rfl ?_
        refine B.iinc (lv' := [(0, .ref r0), (1, .int x2), (2, .int (x2 + 1))]) 2 (x2 + 1) dX9_bestPlace_51 rfl rfl (by decide) rfl ?_
        refine B.goto_ 4 dX9_bestPlace_54 (by decide) ?_
        exact h
theorem s_X9_waiting_0 {g : GT} {S : ST} {P : PT} {I : IT} {Q : QT} {r0 : Nat} {x1 : Int32} (h : B g MX9_waiting 0 0 2 [(0, .ref r0), (1, .int x1), (2, .int 0)] [] S P I Q) : B g MX9_waiting 0 0 0 [(0, .ref r0), (1, .int x1)] [] S P I Q := by
  refine B.iconst 0 dX9_waiting_0 (by decide) ?_
  refine B.istore_n (lv' := [(0, .ref r0), (1, .int x1), (2, .int 0)]) dX9_waiting_1 rfl (by decide) rfl ?_
  exact h
theorem s_X9_waiting_2 {g : GT} {S : ST} {P : PT} {I : IT} {Q : QT} {r0 : Nat} {x1 : Int32} {x2 : Int32} (h : sT S r0 = 10 ∧ ∃ b2, P r0 0 = b2 + 1 ∧ sT S b2 = 40 ∧ ∃ j5, ix 1 j5 (sL S b2) ∧ (((I b2 j5) ≤ x2 → Q (some (.int (-1))) S P I) ∧ (¬ (I b2 j5) ≤ x2 → ∃ j8, ix ((300 + (8 * x2)) + 4) j8 (sL S b2) ∧ (((I b2 j8) < 0 → ∃ j11, ix ((300 + (8 * x2)) + 0) j11 (sL S b2) ∧ ((¬ (I b2 j11) = x1 → B g MX9_waiting 0 0 2 [(0, .ref r0), (1, .int x1), (2, .int (x2 + 1))] [] S P I Q) ∧ ((I b2 j11) = x1 → Q (some (.int x2)) S P I))) ∧ (¬ (I b2 j8) < 0 → B g MX9_waiting 0 0 2 [(0, .ref r0), (1, .int x1), (2, .int (x2 + 1))] [] S P I Q))))) : B g MX9_waiting 0 0 2 [(0, .ref r0), (1, .int x1), (2, .int x2)] [] S P I Q := by
  refine B.iload_n 2 dX9_waiting_2 rfl rfl ?_
  refine B.aload_n 0 dX9_waiting_3 rfl rfl ?_
  obtain ⟨t1, h⟩ := h
  obtain ⟨b2, h⟩ := h
  obtain ⟨t3, h⟩ := h
  refine B.getP dX9_waiting_4 fl_9_7 t1 t3 ?_
  refine B.iconst 1 dX9_waiting_7 (by decide) ?_
  obtain ⟨t4, h⟩ := h
  obtain ⟨j5, h⟩ := h
  obtain ⟨t6, h⟩ := h
  refine B.iaload dX9_waiting_8 t4 t6 ?_
  refine B.icmp_ge 38 dX9_waiting_9 (by decide) (fun q7 => ?_) (fun q7 => ?_)
  · replace h := h.1 q7
    refine B.iconst (-1) dX9_waiting_38 (by decide) ?_
    refine B.ireturn dX9_waiting_39 rfl rfl ?_
    exact h
  · replace h := h.2 q7
    refine B.aload_n 0 dX9_waiting_12 rfl rfl ?_
    refine B.iload_n 2 dX9_waiting_13 rfl rfl ?_
    refine B.callV (M' := MX9_stands) (rc := 0) (rs := 0) (mc := 0) (ms := 0) (st := []) [.int x2] dX9_waiting_14 mv_X9_stands lk_X9_134 ⟨Nat.le_of_ble_eq_true rfl, Nat.le_of_ble_eq_true rfl⟩ rfl rfl (Nat.le_of_ble_eq_true rfl) t1 ?_
    refine T_of rfl (Nat.le_of_ble_eq_true rfl) ?_
    show B g MX9_stands 0 0 0 [(0, .ref r0), (1, .int x2)] [] S P I _
    refine B.aload_n 0 dX9_stands_0 rfl rfl ?_
    refine B.iload_n 1 dX9_stands_1 rfl rfl ?_
    refine B.iconst 4 dX9_stands_2 (by decide) ?_
    refine B.callV (M' := MX9_its) (rc := 0) (rs := 0) (mc := 0) (ms := 0) (st := []) [.int x2, .int 4] dX9_stands_3 mv_X9_its lk_X9_130 ⟨Nat.le_of_ble_eq_true rfl, Nat.le_of_ble_eq_true rfl⟩ rfl rfl (Nat.le_of_ble_eq_true rfl) t1 ?_
    refine T_of rfl (Nat.le_of_ble_eq_true rfl) ?_
    show B g MX9_its 0 0 0 [(0, .ref r0), (1, .int x2), (2, .int 4)] [] S P I _
    refine B.aload_n 0 dX9_its_0 rfl rfl ?_
    refine B.getP dX9_its_1 fl_9_7 t1 t3 ?_
    refine B.sipush 300 dX9_its_4 (by decide) ?_
    refine B.bipush 8 dX9_its_7 (by decide) ?_
    refine B.iload_n 1 dX9_its_9 rfl rfl ?_
    refine B.imul dX9_its_10 ?_
    refine B.iadd dX9_its_11 ?_
    refine B.iload_n 2 dX9_its_12 rfl rfl ?_
    refine B.iadd dX9_its_13 ?_
    obtain ⟨j8, h⟩ := h
    obtain ⟨t9, h⟩ := h
    refine B.iaload dX9_its_14 t4 t9 ?_
    refine B.ireturn dX9_its_15 rfl rfl ?_
    show B g MX9_stands 0 0 6 [(0, .ref r0), (1, .int x2)] [.int (I b2 j8)] S P I _
    refine B.if_lt 13 dX9_stands_6 (by decide) (fun q10 => ?_) (fun q10 => ?_)
    · replace h := h.1 q10
      refine B.iconst 0 dX9_stands_13 (by decide) ?_
      refine B.ireturn dX9_stands_14 rfl rfl ?_
      show B g MX9_waiting 0 0 17 [(0, .ref r0), (1, .int x1), (2, .int x2)] [.int 0] S P I _
      refine B.if_ne 32 dX9_waiting_17 (by decide) (fun q => absurd q (by decide)) (fun _ => ?_)
      refine B.aload_n 0 dX9_waiting_20 rfl rfl ?_
      refine B.iload_n 2 dX9_waiting_21 rfl rfl ?_
      refine B.iconst 0 dX9_waiting_22 (by decide) ?_
      refine B.callV (M' := MX9_its) (rc := 0) (rs := 0) (mc := 0) (ms := 0) (st := []) [.int x2, .int 0] dX9_waiting_23 mv_X9_its lk_X9_130 ⟨Nat.le_of_ble_eq_true rfl, Nat.le_of_ble_eq_true rfl⟩ rfl rfl (Nat.le_of_ble_eq_true rfl) t1 ?_
      refine T_of rfl (Nat.le_of_ble_eq_true rfl) ?_
      show B g MX9_its 0 0 0 [(0, .ref r0), (1, .int x2), (2, .int 0)] [] S P I _
      refine B.aload_n 0 dX9_its_0 rfl rfl ?_
      refine B.getP dX9_its_1 fl_9_7 t1 t3 ?_
      refine B.sipush 300 dX9_its_4 (by decide) ?_
      refine B.bipush 8 dX9_its_7 (by decide) ?_
      refine B.iload_n 1 dX9_its_9 rfl rfl ?_
      refine B.imul dX9_its_10 ?_
      refine B.iadd dX9_its_11 ?_
      refine B.iload_n 2 dX9_its_12 rfl rfl ?_
      refine B.iadd dX9_its_13 ?_
      obtain ⟨j11, h⟩ := h
      obtain ⟨t12, h⟩ := h
      refine B.iaload dX9_its_14 t4 t12 ?_
      refine B.ireturn dX9_its_15 rfl rfl ?_
      show B g MX9_waiting 0 0 26 [(0, .ref r0), (1, .int x1), (2, .int x2)] [.int (I b2 j11)] S P I _
      refine B.iload_n 1 dX9_waiting_26 rfl rfl ?_
      refine B.icmp_ne 32 dX9_waiting_27 (by decide) (fun q13 => ?_) (fun q13 => ?_)
      · replace h := h.1 q13
        refine B.iinc (lv' := [(0, .ref r0), (1, .int x1), (2, .int (x2 + 1))]) 2 (x2 + 1) dX9_waiting_32 rfl rfl (by decide) rfl ?_
        refine B.goto_ 2 dX9_waiting_35 (by decide) ?_
        exact h
      · replace h := h.2 q13
        refine B.iload_n 2 dX9_waiting_30 rfl rfl ?_
        refine B.ireturn dX9_waiting_31 rfl rfl ?_
        exact h
    · replace h := h.2 q10
      refine B.iconst 1 dX9_stands_9 (by decide) ?_
      refine B.goto_ 14 dX9_stands_10 (by decide) ?_
      refine B.ireturn dX9_stands_14 rfl rfl ?_
      show B g MX9_waiting 0 0 17 [(0, .ref r0), (1, .int x1), (2, .int x2)] [.int 1] S P I _
      refine B.if_ne 32 dX9_waiting_17 (by decide) (fun _ => ?_) (fun q => absurd q (by decide))
      refine B.iinc (lv' := [(0, .ref r0), (1, .int x1), (2, .int (x2 + 1))]) 2 (x2 + 1) dX9_waiting_32 rfl rfl (by decide) rfl ?_
      refine B.goto_ 2 dX9_waiting_35 (by decide) ?_
      exact h
theorem s_X9_nextHouse_0 {g : GT} {S : ST} {P : PT} {I : IT} {Q : QT} {r0 : Nat} (h : B g MX9_nextHouse 0 0 4 [(0, .ref r0), (1, .int (-1)), (2, .int 0)] [] S P I Q) : B g MX9_nextHouse 0 0 0 [(0, .ref r0)] [] S P I Q := by
  refine B.iconst (-1) dX9_nextHouse_0 (by decide) ?_
  refine B.istore_n (lv' := [(0, .ref r0), (1, .int (-1))]) dX9_nextHouse_1 rfl (by decide) rfl ?_
  refine B.iconst 0 dX9_nextHouse_2 (by decide) ?_
  refine B.istore_n (lv' := [(0, .ref r0), (1, .int (-1)), (2, .int 0)]) dX9_nextHouse_3 rfl (by decide) rfl ?_
  exact h
theorem s_X9_nextHouse_4 {g : GT} {S : ST} {P : PT} {I : IT} {Q : QT} {r0 : Nat} {x1 : Int32} {x2 : Int32} (h : sT S r0 = 10 ∧ ∃ b2, P r0 0 = b2 + 1 ∧ sT S b2 = 40 ∧ ∃ j5, ix 0 j5 (sL S b2) ∧ (((I b2 j5) ≤ x2 → Q (some (.int x1)) S P I) ∧ (¬ (I b2 j5) ≤ x2 → T g MX9_waiting 0 0 [.ref r0, .int x2] S P I (fun r S' P' I' => B g MX9_nextHouse 0 0 19 [(0, .ref r0), (1, .int x1), (2, .int x2)] (r.toList ++ []) S' P' I' Q)))) : B g MX9_nextHouse 0 0 4 [(0, .ref r0), (1, .int x1), (2, .int x2)] [] S P I Q := by
  refine B.iload_n 2 dX9_nextHouse_4 rfl rfl ?_
  refine B.aload_n 0 dX9_nextHouse_5 rfl rfl ?_
  obtain ⟨t1, h⟩ := h
  obtain ⟨b2, h⟩ := h
  obtain ⟨t3, h⟩ := h
  refine B.getP dX9_nextHouse_6 fl_9_7 t1 t3 ?_
  refine B.iconst 0 dX9_nextHouse_9 (by decide) ?_
  obtain ⟨t4, h⟩ := h
  obtain ⟨j5, h⟩ := h
  obtain ⟨t6, h⟩ := h
  refine B.iaload dX9_nextHouse_10 t4 t6 ?_
  refine B.icmp_ge 49 dX9_nextHouse_11 (by decide) (fun q7 => ?_) (fun q7 => ?_)
  · replace h := h.1 q7
    refine B.iload_n 1 dX9_nextHouse_49 rfl rfl ?_
    refine B.ireturn dX9_nextHouse_50 rfl rfl ?_
    exact h
  · replace h := h.2 q7
    refine B.aload_n 0 dX9_nextHouse_14 rfl rfl ?_
    refine B.iload_n 2 dX9_nextHouse_15 rfl rfl ?_
    refine B.callV (M' := MX9_waiting) (rc := 0) (rs := 0) (mc := 0) (ms := 0) (st := []) [.int x2] dX9_nextHouse_16 mv_X9_waiting lk_X9_154 ⟨Nat.le_of_ble_eq_true rfl, Nat.le_of_ble_eq_true rfl⟩ rfl rfl (Nat.le_of_ble_eq_true rfl) t1 ?_
    exact h
theorem s_X9_nextHouse_19 {g : GT} {S : ST} {P : PT} {I : IT} {Q : QT} {r0 : Nat} {x1 : Int32} {x2 : Int32} {w_s0 : Int32} (h : ((w_s0 < 0 → B g MX9_nextHouse 0 0 4 [(0, .ref r0), (1, .int x1), (2, .int (x2 + 1))] [] S P I Q) ∧ (¬ w_s0 < 0 → ((x1 < 0 → B g MX9_nextHouse 0 0 4 [(0, .ref r0), (1, .int x2), (2, .int (x2 + 1))] [] S P I Q) ∧ (¬ x1 < 0 → sT S r0 = 10 ∧ ∃ b4, P r0 0 = b4 + 1 ∧ sT S b4 = 40 ∧ ∃ j7, ix ((60 + (30 * x2)) + 1) j7 (sL S b4) ∧ ∃ j9, ix ((60 + (30 * x1)) + 1) j9 (sL S b4) ∧ (((I b4 j9) ≤ (I b4 j7) → B g MX9_nextHouse 0 0 4 [(0, .ref r0), (1, .int x1), (2, .int (x2 + 1))] [] S P I Q) ∧ (¬ (I b4 j9) ≤ (I b4 j7) → B g MX9_nextHouse 0 0 4 [(0, .ref r0), (1, .int x2), (2, .int (x2 + 1))] [] S P I Q))))))) : B g MX9_nextHouse 0 0 19 [(0, .ref r0), (1, .int x1), (2, .int x2)] [.int w_s0] S P I Q := by
  refine B.if_lt 43 dX9_nextHouse_19 (by decide) (fun q1 => ?_) (fun q1 => ?_)
  · replace h := h.1 q1
    refine B.iinc (lv' := [(0, .ref r0), (1, .int x1), (2, .int (x2 + 1))]) 2 (x2 + 1) dX9_nextHouse_43 rfl rfl (by decide) rfl ?_
    refine B.goto_ 4 dX9_nextHouse_46 (by decide) ?_
    exact h
  · replace h := h.2 q1
    refine B.iload_n 1 dX9_nextHouse_22 rfl rfl ?_
    refine B.if_lt 41 dX9_nextHouse_23 (by decide) (fun q2 => ?_) (fun q2 => ?_)
    · replace h := h.1 q2
      refine B.iload_n 2 dX9_nextHouse_41 rfl rfl ?_
      refine B.istore_n (lv' := [(0, .ref r0), (1, .int x2), (2, .int x2)]) dX9_nextHouse_42 rfl (by decide) rfl ?_
      refine B.iinc (lv' := [(0, .ref r0), (1, .int x2), (2, .int (x2 + 1))]) 2 (x2 + 1) dX9_nextHouse_43 rfl rfl (by decide) rfl ?_
      refine B.goto_ 4 dX9_nextHouse_46 (by decide) ?_
      exact h
    · replace h := h.2 q2
      refine B.aload_n 0 dX9_nextHouse_26 rfl rfl ?_
      refine B.iload_n 2 dX9_nextHouse_27 rfl rfl ?_
      refine B.iconst 1 dX9_nextHouse_28 (by decide) ?_
      obtain ⟨t3, h⟩ := h
      refine B.callV (M' := MX9_of) (rc := 0) (rs := 0) (mc := 0) (ms := 0) (st := []) [.int x2, .int 1] dX9_nextHouse_29 mv_X9_of lk_X9_157 ⟨Nat.le_of_ble_eq_true rfl, Nat.le_of_ble_eq_true rfl⟩ rfl rfl (Nat.le_of_ble_eq_true rfl) t3 ?_
      refine T_of rfl (Nat.le_of_ble_eq_true rfl) ?_
      show B g MX9_of 0 0 0 [(0, .ref r0), (1, .int x2), (2, .int 1)] [] S P I _
      refine B.aload_n 0 dX9_of_0 rfl rfl ?_
      obtain ⟨b4, h⟩ := h
      obtain ⟨t5, h⟩ := h
      refine B.getP dX9_of_1 fl_9_7 t3 t5 ?_
      refine B.bipush 60 dX9_of_4 (by decide) ?_
      refine B.bipush 30 dX9_of_6 (by decide) ?_
      refine B.iload_n 1 dX9_of_8 rfl rfl ?_
      refine B.imul dX9_of_9 ?_
      refine B.iadd dX9_of_10 ?_
      refine B.iload_n 2 dX9_of_11 rfl rfl ?_
      refine B.iadd dX9_of_12 ?_
      obtain ⟨t6, h⟩ := h
      obtain ⟨j7, h⟩ := h
      obtain ⟨t8, h⟩ := h
      refine B.iaload dX9_of_13 t6 t8 ?_
      refine B.ireturn dX9_of_14 rfl rfl ?_
      show B g MX9_nextHouse 0 0 32 [(0, .ref r0), (1, .int x1), (2, .int x2)] [.int (I b4 j7)] S P I _
      refine B.aload_n 0 dX9_nextHouse_32 rfl rfl ?_
      refine B.iload_n 1 dX9_nextHouse_33 rfl rfl ?_
      refine B.iconst 1 dX9_nextHouse_34 (by decide) ?_
      refine B.callV (M' := MX9_of) (rc := 0) (rs := 0) (mc := 0) (ms := 0) (st := [.int (I b4 j7)]) [.int x1, .int 1] dX9_nextHouse_35 mv_X9_of lk_X9_157 ⟨Nat.le_of_ble_eq_true rfl, Nat.le_of_ble_eq_true rfl⟩ rfl rfl (Nat.le_of_ble_eq_true rfl) t3 ?_
      refine T_of rfl (Nat.le_of_ble_eq_true rfl) ?_
      show B g MX9_of 0 0 0 [(0, .ref r0), (1, .int x1), (2, .int 1)] [] S P I _
      refine B.aload_n 0 dX9_of_0 rfl rfl ?_
      refine B.getP dX9_of_1 fl_9_7 t3 t5 ?_
      refine B.bipush 60 dX9_of_4 (by decide) ?_
      refine B.bipush 30 dX9_of_6 (by decide) ?_
      refine B.iload_n 1 dX9_of_8 rfl rfl ?_
      refine B.imul dX9_of_9 ?_
      refine B.iadd dX9_of_10 ?_
      refine B.iload_n 2 dX9_of_11 rfl rfl ?_
      refine B.iadd dX9_of_12 ?_
      obtain ⟨j9, h⟩ := h
      obtain ⟨t10, h⟩ := h
      refine B.iaload dX9_of_13 t6 t10 ?_
      refine B.ireturn dX9_of_14 rfl rfl ?_
      show B g MX9_nextHouse 0 0 38 [(0, .ref r0), (1, .int x1), (2, .int x2)] [.int (I b4 j9), .int (I b4 j7)] S P I _
      refine B.icmp_ge 43 dX9_nextHouse_38 (by decide) (fun q11 => ?_) (fun q11 => ?_)
      · replace h := h.1 q11
        refine B.iinc (lv' := [(0, .ref r0), (1, .int x1), (2, .int (x2 + 1))]) 2 (x2 + 1) dX9_nextHouse_43 rfl rfl (by decide) rfl ?_
        refine B.goto_ 4 dX9_nextHouse_46 (by decide) ?_
        exact h
      · replace h := h.2 q11
        refine B.iload_n 2 dX9_nextHouse_41 rfl rfl ?_
        refine B.istore_n (lv' := [(0, .ref r0), (1, .int x2), (2, .int x2)]) dX9_nextHouse_42 rfl (by decide) rfl ?_
        refine B.iinc (lv' := [(0, .ref r0), (1, .int x2), (2, .int (x2 + 1))]) 2 (x2 + 1) dX9_nextHouse_43 rfl rfl (by decide) rfl ?_
        refine B.goto_ 4 dX9_nextHouse_46 (by decide) ?_
        exact h
theorem s_X9_deal_0 {g : GT} {S : ST} {P : PT} {I : IT} {Q : QT} {r0 : Nat} (h : sT S r0 = 10 ∧ T g MX9_greatestHeat 0 0 [.ref r0] S P I (fun r S' P' I' => B g MX9_deal 0 0 4 [(0, .ref r0)] (r.toList ++ []) S' P' I' Q)) : B g MX9_deal 0 0 0 [(0, .ref r0)] [] S P I Q := by
  refine B.aload_n 0 dX9_deal_0 rfl rfl ?_
  obtain ⟨t1, h⟩ := h
  refine B.callV (M' := MX9_greatestHeat) (rc := 0) (rs := 0) (mc := 0) (ms := 0) (st := []) [] dX9_deal_1 mv_X9_greatestHeat lk_X9_160 ⟨Nat.le_of_ble_eq_true rfl, Nat.le_of_ble_eq_true rfl⟩ rfl rfl (Nat.le_of_ble_eq_true rfl) t1 ?_
  exact h
theorem s_X9_deal_4 {g : GT} {S : ST} {P : PT} {I : IT} {Q : QT} {r0 : Nat} {w_s0 : Int32} (h : ((w_s0 ≤ 50 → sT S r0 = 10 ∧ T g MX9_nextHouse 0 0 [.ref r0] S P I (fun r S' P' I' => B g MX9_deal 0 0 17 [(0, .ref r0), (1, .int 0)] (r.toList ++ []) S' P' I' Q)) ∧ (¬ w_s0 ≤ 50 → Q (some (.int (-1))) S P I))) : B g MX9_deal 0 0 4 [(0, .ref r0)] [.int w_s0] S P I Q := by
  refine B.bipush 50 dX9_deal_4 (by decide) ?_
  refine B.icmp_le 11 dX9_deal_6 (by decide) (fun q1 => ?_) (fun q1 => ?_)
  · replace h := h.1 q1
    refine B.iconst 0 dX9_deal_11 (by decide) ?_
    refine B.istore_n (lv' := [(0, .ref r0), (1, .int 0)]) dX9_deal_12 rfl (by decide) rfl ?_
    refine B.aload_n 0 dX9_deal_13 rfl rfl ?_
    obtain ⟨t2, h⟩ := h
    refine B.callV (M' := MX9_nextHouse) (rc := 0) (rs := 0) (mc := 0) (ms := 0) (st := []) [] dX9_deal_14 mv_X9_nextHouse lk_X9_163 ⟨Nat.le_of_ble_eq_true rfl, Nat.le_of_ble_eq_true rfl⟩ rfl rfl (Nat.le_of_ble_eq_true rfl) t2 ?_
    exact h
  · replace h := h.2 q1
    refine B.iconst (-1) dX9_deal_9 (by decide) ?_
    refine B.ireturn dX9_deal_10 rfl rfl ?_
    exact h
theorem s_X9_deal_17 {g : GT} {S : ST} {P : PT} {I : IT} {Q : QT} {r0 : Nat} {x1 : Int32} {w_s0 : Int32} (h : sT S r0 = 10 ∧ T g MX9_bestPlace 0 0 [.ref r0] S P I (fun r S' P' I' => B g MX9_deal 0 0 22 [(0, .ref r0), (1, .int x1), (2, .int w_s0)] (r.toList ++ []) S' P' I' Q)) : B g MX9_deal 0 0 17 [(0, .ref r0), (1, .int x1)] [.int w_s0] S P I Q := by
  refine B.istore_n (lv' := [(0, .ref r0), (1, .int x1), (2, .int w_s0)]) dX9_deal_17 rfl (by decide) rfl ?_
  refine B.aload_n 0 dX9_deal_18 rfl rfl ?_
  obtain ⟨t1, h⟩ := h
  refine B.callV (M' := MX9_bestPlace) (rc := 0) (rs := 0) (mc := 0) (ms := 0) (st := []) [] dX9_deal_19 mv_X9_bestPlace lk_X9_166 ⟨Nat.le_of_ble_eq_true rfl, Nat.le_of_ble_eq_true rfl⟩ rfl rfl (Nat.le_of_ble_eq_true rfl) t1 ?_
  exact h
theorem s_X9_deal_22 {g : GT} {S : ST} {P : PT} {I : IT} {Q : QT} {r0 : Nat} {x1 : Int32} {x2 : Int32} {w_s0 : Int32} (h : B g MX9_deal 0 0 23 [(0, .ref r0), (1, .int x1), (2, .int x2), (3, .int w_s0)] [] S P I Q) : B g MX9_deal 0 0 22 [(0, .ref r0), (1, .int x1), (2, .int x2)] [.int w_s0] S P I Q := by
  refine B.istore_n (lv' := [(0, .ref r0), (1, .int x1), (2, .int x2), (3, .int w_s0)]) dX9_deal_22 rfl (by decide) rfl ?_
  exact h
theorem s_X9_deal_23 {g : GT} {S : ST} {P : PT} {I : IT} {Q : QT} {r0 : Nat} {x1 : Int32} {x2 : Int32} {x3 : Int32} (h : ((x2 < 0 → Q (some (.int x1)) S P I) ∧ (¬ x2 < 0 → ((x3 < 0 → Q (some (.int x1)) S P I) ∧ (¬ x3 < 0 → sT S r0 = 10 ∧ T g MX9_waiting 0 0 [.ref r0, .int x2] S P I (fun r S' P' I' => B g MX9_deal 0 0 37 [(0, .ref r0), (1, .int x1), (2, .int x2), (3, .int x3)] (r.toList ++ [.ref r0]) S' P' I' Q)))))) : B g MX9_deal 0 0 23 [(0, .ref r0), (1, .int x1), (2, .int x2), (3, .int x3)] [] S P I Q := by
  refine B.iload_n 2 dX9_deal_23 rfl rfl ?_
  refine B.if_lt 73 dX9_deal_24 (by decide) (fun q1 => ?_) (fun q1 => ?_)
  · replace h := h.1 q1
    refine B.iload_n 1 dX9_deal_73 rfl rfl ?_
    refine B.ireturn dX9_deal_74 rfl rfl ?_
    exact h
  · replace h := h.2 q1
    refine B.iload_n 3 dX9_deal_27 rfl rfl ?_
    refine B.if_lt 73 dX9_deal_28 (by decide) (fun q2 => ?_) (fun q2 => ?_)
    · replace h := h.1 q2
      refine B.iload_n 1 dX9_deal_73 rfl rfl ?_
      refine B.ireturn dX9_deal_74 rfl rfl ?_
      exact h
    · replace h := h.2 q2
      refine B.aload_n 0 dX9_deal_31 rfl rfl ?_
      refine B.aload_n 0 dX9_deal_32 rfl rfl ?_
      refine B.iload_n 2 dX9_deal_33 rfl rfl ?_
      obtain ⟨t3, h⟩ := h
      refine B.callV (M' := MX9_waiting) (rc := 0) (rs := 0) (mc := 0) (ms := 0) (st := [.ref r0]) [.int x2] dX9_deal_34 mv_X9_waiting lk_X9_154 ⟨Nat.le_of_ble_eq_true rfl, Nat.le_of_ble_eq_true rfl⟩ rfl rfl (Nat.le_of_ble_eq_true rfl) t3 ?_
      exact h
theorem s_X9_deal_37 {g : GT} {S : ST} {P : PT} {I : IT} {Q : QT} {r0 : Nat} {x1 : Int32} {x2 : Int32} {x3 : Int32} {w_s0 : Int32} {a_s1 : Nat} (h : sT S a_s1 = 10 ∧ ∃ b2, P a_s1 0 = b2 + 1 ∧ sT S b2 = 40 ∧ ∃ j5, ix ((300 + (8 * w_s0)) + 4) j5 (sL S b2) ∧ sT S r0 = 10 ∧ ∃ b8, P r0 0 = b8 + 1 ∧ sT S b8 = 40 ∧ ∃ j11, ix (16 + x3) j11 (sL S b8) ∧ ∃ j13, ix ((60 + (30 * x2)) + 1) j13 (sL S b8) ∧ T g MX9_nextHouse 0 0 [.ref r0] S P (u2 (u2 I b2 j5 x3) b8 j13 (((u2 I b2 j5 x3) b8 j13) + ((u2 I b2 j5 x3) b8 j11))) (fun r S' P' I' => B g MX9_deal 0 0 64 [(0, .ref r0), (1, .int (x1 + 1)), (2, .int x2), (3, .int x3)] (r.toList ++ []) S' P' I' Q)) : B g MX9_deal 0 0 37 [(0, .ref r0), (1, .int x1), (2, .int x2), (3, .int x3)] [.int w_s0, .ref a_s1] S P I Q := by
  refine B.iconst 4 dX9_deal_37 (by decide) ?_
  refine B.iload_n 3 dX9_deal_38 rfl rfl ?_
  obtain ⟨t1, h⟩ := h
  refine B.callV (M' := MX9_sets) (rc := 0) (rs := 0) (mc := 0) (ms := 0) (st := []) [.int w_s0, .int 4, .int x3] dX9_deal_39 mv_X9_sets lk_X9_147 ⟨Nat.le_of_ble_eq_true rfl, Nat.le_of_ble_eq_true rfl⟩ rfl rfl (Nat.le_of_ble_eq_true rfl) t1 ?_
  refine T_of rfl (Nat.le_of_ble_eq_true rfl) ?_
  show B g MX9_sets 0 0 0 [(0, .ref a_s1), (1, .int w_s0), (2, .int 4), (3, .int x3)] [] S P I _
  refine B.aload_n 0 dX9_sets_0 rfl rfl ?_
  obtain ⟨b2, h⟩ := h
  obtain ⟨t3, h⟩ := h
  refine B.getP dX9_sets_1 fl_9_7 t1 t3 ?_
  refine B.sipush 300 dX9_sets_4 (by decide) ?_
  refine B.bipush 8 dX9_sets_7 (by decide) ?_
  refine B.iload_n 1 dX9_sets_9 rfl rfl ?_
  refine B.imul dX9_sets_10 ?_
  refine B.iadd dX9_sets_11 ?_
  refine B.iload_n 2 dX9_sets_12 rfl rfl ?_
  refine B.iadd dX9_sets_13 ?_
  refine B.iload_n 3 dX9_sets_14 rfl rfl ?_
  obtain ⟨t4, h⟩ := h
  obtain ⟨j5, h⟩ := h
  obtain ⟨t6, h⟩ := h
  refine B.iastore dX9_sets_15 t4 t6 ?_
  refine B.return_ dX9_sets_16 rfl ?_
  show B g MX9_deal 0 0 42 [(0, .ref r0), (1, .int x1), (2, .int x2), (3, .int x3)] [] S P (u2 I b2 j5 x3) _
  refine B.aload_n 0 dX9_deal_42 rfl rfl ?_
  refine B.iload_n 2 dX9_deal_43 rfl rfl ?_
  refine B.iconst 1 dX9_deal_44 (by decide) ?_
  refine B.aload_n 0 dX9_deal_45 rfl rfl ?_
  obtain ⟨t7, h⟩ := h
  obtain ⟨b8, h⟩ := h
  obtain ⟨t9, h⟩ := h
  refine B.getP dX9_deal_46 fl_9_7 t7 t9 ?_
  refine B.bipush 16 dX9_deal_49 (by decide) ?_
  refine B.iload_n 3 dX9_deal_51 rfl rfl ?_
  refine B.iadd dX9_deal_52 ?_
  obtain ⟨t10, h⟩ := h
  obtain ⟨j11, h⟩ := h
  obtain ⟨t12, h⟩ := h
  refine B.iaload dX9_deal_53 t10 t12 ?_
  refine B.callV (M' := MX9_adds) (rc := 0) (rs := 0) (mc := 0) (ms := 0) (st := []) [.int x2, .int 1, .int ((u2 I b2 j5 x3) b8 j11)] dX9_deal_54 mv_X9_adds lk_X9_169 ⟨Nat.le_of_ble_eq_true rfl, Nat.le_of_ble_eq_true rfl⟩ rfl rfl (Nat.le_of_ble_eq_true rfl) t7 ?_
  refine T_of rfl (Nat.le_of_ble_eq_true rfl) ?_
  show B g MX9_adds 0 0 0 [(0, .ref r0), (1, .int x2), (2, .int 1), (3, .int ((u2 I b2 j5 x3) b8 j11))] [] S P (u2 I b2 j5 x3) _
  refine B.aload_n 0 dX9_adds_0 rfl rfl ?_
  refine B.getP dX9_adds_1 fl_9_7 t7 t9 ?_
  refine B.bipush 60 dX9_adds_4 (by decide) ?_
  refine B.bipush 30 dX9_adds_6 (by decide) ?_
  refine B.iload_n 1 dX9_adds_8 rfl rfl ?_
  refine B.imul dX9_adds_9 ?_
  refine B.iadd dX9_adds_10 ?_
  refine B.iload_n 2 dX9_adds_11 rfl rfl ?_
  refine B.iadd dX9_adds_12 ?_
  refine B.dup2 dX9_adds_13 rfl rfl ?_
  obtain ⟨j13, h⟩ := h
  obtain ⟨t14, h⟩ := h
  refine B.iaload dX9_adds_14 t10 t14 ?_
  refine B.iload_n 3 dX9_adds_15 rfl rfl ?_
  refine B.iadd dX9_adds_16 ?_
  refine B.iastore dX9_adds_17 t10 t14 ?_
  refine B.return_ dX9_adds_18 rfl ?_
  show B g MX9_deal 0 0 57 [(0, .ref r0), (1, .int x1), (2, .int x2), (3, .int x3)] [] S P (u2 (u2 I b2 j5 x3) b8 j13 (((u2 I b2 j5 x3) b8 j13) + ((u2 I b2 j5 x3) b8 j11))) _
  refine B.iinc (lv' := [(0, .ref r0), (1, .int (x1 + 1)), (2, .int x2), (3, .int x3)]) 1 (x1 + 1) dX9_deal_57 rfl rfl (by decide) rfl ?_
  refine B.aload_n 0 dX9_deal_60 rfl rfl ?_
  refine B.callV (M' := MX9_nextHouse) (rc := 0) (rs := 0) (mc := 0) (ms := 0) (st := []) [] dX9_deal_61 mv_X9_nextHouse lk_X9_163 ⟨Nat.le_of_ble_eq_true rfl, Nat.le_of_ble_eq_true rfl⟩ rfl rfl (Nat.le_of_ble_eq_true rfl) t7 ?_
  exact h
theorem s_X9_deal_64 {g : GT} {S : ST} {P : PT} {I : IT} {Q : QT} {r0 : Nat} {x1 : Int32} {x2 : Int32} {x3 : Int32} {w_s0 : Int32} (h : sT S r0 = 10 ∧ T g MX9_bestPlace 0 0 [.ref r0] S P I (fun r S' P' I' => B g MX9_deal 0 0 69 [(0, .ref r0), (1, .int x1), (2, .int w_s0), (3, .int x3)] (r.toList ++ []) S' P' I' Q)) : B g MX9_deal 0 0 64 [(0, .ref r0), (1, .int x1), (2, .int x2), (3, .int x3)] [.int w_s0] S P I Q := by
  refine B.istore_n (lv' := [(0, .ref r0), (1, .int x1), (2, .int w_s0), (3, .int x3)]) dX9_deal_64 rfl (by decide) rfl ?_
  refine B.aload_n 0 dX9_deal_65 rfl rfl ?_
  obtain ⟨t1, h⟩ := h
  refine B.callV (M' := MX9_bestPlace) (rc := 0) (rs := 0) (mc := 0) (ms := 0) (st := []) [] dX9_deal_66 mv_X9_bestPlace lk_X9_166 ⟨Nat.le_of_ble_eq_true rfl, Nat.le_of_ble_eq_true rfl⟩ rfl rfl (Nat.le_of_ble_eq_true rfl) t1 ?_
  exact h
theorem s_X9_deal_69 {g : GT} {S : ST} {P : PT} {I : IT} {Q : QT} {r0 : Nat} {x1 : Int32} {x2 : Int32} {x3 : Int32} {w_s0 : Int32} (h : B g MX9_deal 0 0 23 [(0, .ref r0), (1, .int x1), (2, .int x2), (3, .int w_s0)] [] S P I Q) : B g MX9_deal 0 0 69 [(0, .ref r0), (1, .int x1), (2, .int x2), (3, .int x3)] [.int w_s0] S P I Q := by
  refine B.istore_n (lv' := [(0, .ref r0), (1, .int x1), (2, .int x2), (3, .int w_s0)]) dX9_deal_69 rfl (by decide) rfl ?_
  refine B.goto_ 23 dX9_deal_70 (by decide) ?_
  exact h
theorem s_X9_spread_0 {g : GT} {S : ST} {P : PT} {I : IT} {Q : QT} {r0 : Nat} (h : B g MX9_spread 0 0 6 [(0, .ref r0), (1, .int (-1)), (2, .int 0), (3, .int 0)] [] S P I Q) : B g MX9_spread 0 0 0 [(0, .ref r0)] [] S P I Q := by
  refine B.iconst (-1) dX9_spread_0 (by decide) ?_
  refine B.istore_n (lv' := [(0, .ref r0), (1, .int (-1))]) dX9_spread_1 rfl (by decide) rfl ?_
  refine B.iconst 0 dX9_spread_2 (by decide) ?_
  refine B.istore_n (lv' := [(0, .ref r0), (1, .int (-1)), (2, .int 0)]) dX9_spread_3 rfl (by decide) rfl ?_
  refine B.iconst 0 dX9_spread_4 (by decide) ?_
  refine B.istore_n (lv' := [(0, .ref r0), (1, .int (-1)), (2, .int 0), (3, .int 0)]) dX9_spread_5 rfl (by decide) rfl ?_
  exact h
theorem s_X9_spread_6 {g : GT} {S : ST} {P : PT} {I : IT} {Q : QT} {r0 : Nat} {x1 : Int32} {x2 : Int32} {x3 : Int32} (h : sT S r0 = 10 ∧ ∃ b2, P r0 0 = b2 + 1 ∧ sT S b2 = 40 ∧ ∃ j5, ix 0 j5 (sL S b2) ∧ (((I b2 j5) ≤ x3 → ((0 ≤ x1 → Q (some (.int (x2 - x1))) S P I) ∧ (¬ 0 ≤ x1 → Q (some (.int 0)) S P I))) ∧ (¬ (I b2 j5) ≤ x3 → ∃ j9, ix ((60 + (30 * x3)) + 2) j9 (sL S b2) ∧ ((¬ (I b2 j9) = 0 → ∃ j12, ix ((60 + (30 * x3)) + 1) j12 (sL S b2) ∧ ((x1 < 0 → (((I b2 j12) ≤ x2 → B g MX9_spread 0 0 6 [(0, .ref r0), (1, .int (I b2 j12)), (2, .int x2), (3, .int (x3 + 1))] [] S P I Q) ∧ (¬ (I b2 j12) ≤ x2 → B g MX9_spread 0 0 6 [(0, .ref r0), (1, .int (I b2 j12)), (2, .int (I b2 j12)), (3, .int (x3 + 1))] [] S P I Q))) ∧ (¬ x1 < 0 → ((x1 ≤ (I b2 j12) → (((I b2 j12) ≤ x2 → B g MX9_spread 0 0 6 [(0, .ref r0), (1, .int x1), (2, .int x2), (3, .int (x3 + 1))] [] S P I Q) ∧ (¬ (I b2 j12) ≤ x2 → B g MX9_spread 0 0 6 [(0, .ref r0), (1, .int x1), (2, .int (I b2 j12)), (3, .int (x3 + 1))] [] S P I Q))) ∧ (¬ x1 ≤ (I b2 j12) → (((I b2 j12) ≤ x2 → B g MX9_spread 0 0 6 [(0, .ref r0), (1, .int (I b2 j12)), (2, .int x2), (3, .int (x3 + 1))] [] S P I Q) ∧ (¬ (I b2 j12) ≤ x2 → B g MX9_spread 0 0 6 [(0, .ref r0), (1, .int (I b2 j12)), (2, .int (I b2 j12)), (3, .int (x3 + 1))] [] S P I Q))))))) ∧ ((I b2 j9) = 0 → B g MX9_spread 0 0 6 [(0, .ref r0), (1, .int x1), (2, .int x2), (3, .int (x3 + 1))] [] S P I Q))))) : B g MX9_spread 0 0 6 [(0, .ref r0), (1, .int x1), (2, .int x2), (3, .int x3)] [] S P I Q := by
  refine B.iload_n 3 dX9_spread_6 rfl rfl ?_
  refine B.aload_n 0 dX9_spread_7 rfl rfl ?_
  obtain ⟨t1, h⟩ := h
  obtain ⟨b2, h⟩ := h
  obtain ⟨t3, h⟩ := h
  refine B.getP dX9_spread_8 fl_9_7 t1 t3 ?_
  refine B.iconst 0 dX9_spread_11 (by decide) ?_
  obtain ⟨t4, h⟩ := h
  obtain ⟨j5, h⟩ := h
  obtain ⟨t6, h⟩ := h
  refine B.iaload dX9_spread_12 t4 t6 ?_
  refine B.icmp_ge 64 dX9_spread_13 (by decide) (fun q7 => ?_) (fun q7 => ?_)
  · replace h := h.1 q7
    refine B.iload_n 1 dX9_spread_64 rfl rfl ?_
    refine B.if_ge 72 dX9_spread_65 (by decide) (fun q8 => ?_) (fun q8 => ?_)
    · replace h := h.1 q8
      refine B.iload_n 2 dX9_spread_72 rfl rfl ?_
      refine B.iload_n 1 dX9_spread_73 rfl rfl ?_
      refine B.isub dX9_spread_74 ?_
      refine B.ireturn dX9_spread_75 rfl rfl ?_
      exact h
    · replace h := h.2 q8
      refine B.iconst 0 dX9_spread_68 (by decide) ?_
      refine B.goto_ 75 dX9_spread_69 (by decide) ?_
      refine B.ireturn dX9_spread_75 rfl rfl ?_
      exact h
  · replace h := h.2 q7
    refine B.aload_n 0 dX9_spread_16 rfl rfl ?_
    refine B.iload_n 3 dX9_spread_17 rfl rfl ?_
    refine B.iconst 2 dX9_spread_18 (by decide) ?_
    refine B.callV (M' := MX9_of) (rc := 0) (rs := 0) (mc := 0) (ms := 0) (st := []) [.int x3, .int 2] dX9_spread_19 mv_X9_of lk_X9_157 ⟨Nat.le_of_ble_eq_true rfl, Nat.le_of_ble_eq_true rfl⟩ rfl rfl (Nat.le_of_ble_eq_true rfl) t1 ?_
    refine T_of rfl (Nat.le_of_ble_eq_true rfl) ?_
    show B g MX9_of 0 0 0 [(0, .ref r0), (1, .int x3), (2, .int 2)] [] S P I _
    refine B.aload_n 0 dX9_of_0 rfl rfl ?_
    refine B.getP dX9_of_1 fl_9_7 t1 t3 ?_
    refine B.bipush 60 dX9_of_4 (by decide) ?_
    refine B.bipush 30 dX9_of_6 (by decide) ?_
    refine B.iload_n 1 dX9_of_8 rfl rfl ?_
    refine B.imul dX9_of_9 ?_
    refine B.iadd dX9_of_10 ?_
    refine B.iload_n 2 dX9_of_11 rfl rfl ?_
    refine B.iadd dX9_of_12 ?_
    obtain ⟨j9, h⟩ := h
    obtain ⟨t10, h⟩ := h
    refine B.iaload dX9_of_13 t4 t10 ?_
    refine B.ireturn dX9_of_14 rfl rfl ?_
    show B g MX9_spread 0 0 22 [(0, .ref r0), (1, .int x1), (2, .int x2), (3, .int x3)] [.int (I b2 j9)] S P I _
    refine B.if_ne 28 dX9_spread_22 (by decide) (fun q11 => ?_) (fun q11 => ?_)
    · replace h := h.1 q11
      refine B.aload_n 0 dX9_spread_28 rfl rfl ?_
      refine B.iload_n 3 dX9_spread_29 rfl rfl ?_
      refine B.iconst 1 dX9_spread_30 (by decide) ?_
      refine B.callV (M' := MX9_of) (rc := 0) (rs := 0) (mc := 0) (ms := 0) (st := []) [.int x3, .int 1] dX9_spread_31 mv_X9_of lk_X9_157 ⟨Nat.le_of_ble_eq_true rfl, Nat.le_of_ble_eq_true rfl⟩ rfl rfl (Nat.le_of_ble_eq_true rfl) t1 ?_
      refine T_of rfl (Nat.le_of_ble_eq_true rfl) ?_
      show B g MX9_of 0 0 0 [(0, .ref r0), (1, .int x3), (2, .int 1)] [] S P I _
      refine B.aload_n 0 dX9_of_0 rfl rfl ?_
      refine B.getP dX9_of_1 fl_9_7 t1 t3 ?_
      refine B.bipush 60 dX9_of_4 (by decide) ?_
      refine B.bipush 30 dX9_of_6 (by decide) ?_
      refine B.iload_n 1 dX9_of_8 rfl rfl ?_
      refine B.imul dX9_of_9 ?_
      refine B.iadd dX9_of_10 ?_
      refine B.iload_n 2 dX9_of_11 rfl rfl ?_
      refine B.iadd dX9_of_12 ?_
      obtain ⟨j12, h⟩ := h
      obtain ⟨t13, h⟩ := h
      refine B.iaload dX9_of_13 t4 t13 ?_
      refine B.ireturn dX9_of_14 rfl rfl ?_
      show B g MX9_spread 0 0 34 [(0, .ref r0), (1, .int x1), (2, .int x2), (3, .int x3)] [.int (I b2 j12)] S P I _
      refine B.istore (lv' := [(0, .ref r0), (1, .int x1), (2, .int x2), (3, .int x3), (4, .int (I b2 j12))]) dX9_spread_34 (by decide) rfl ?_
      refine B.iload_n 1 dX9_spread_36 rfl rfl ?_
      refine B.if_lt 46 dX9_spread_37 (by decide) (fun q14 => ?_) (fun q14 => ?_)
      · replace h := h.1 q14
        refine B.iload 4 dX9_spread_46 rfl ?_
        refine B.istore_n (lv' := [(0, .ref r0), (1, .int (I b2 j12)), (2, .int x2), (3, .int x3), (4, .int (I b2 j12))]) dX9_spread_48 rfl (by decide) rfl ?_
        refine B.iload 4 dX9_spread_49 rfl ?_
        refine B.iload_n 2 dX9_spread_51 rfl rfl ?_
        refine B.icmp_le 58 dX9_spread_52 (by decide) (fun q15 => ?_) (fun q15 => ?_)
        · replace h := h.1 q15
          refine B.iinc (lv' := [(0, .ref r0), (1, .int (I b2 j12)), (2, .int x2), (3, .int (x3 + 1)), (4, .int (I b2 j12))]) 3 (x3 + 1) dX9_spread_58 rfl rfl (by decide) rfl ?_
          refine B.goto_ 6 dX9_spread_61 (by decide) ?_
          refine B.lvs [(0, .ref r0), (1, .int (I b2 j12)), (2, .int x2), (3, .int (x3 + 1))] [0, 1, 2, 3] rfl ?_
          exact h
        · replace h := h.2 q15
          refine B.iload 4 dX9_spread_55 rfl ?_
          refine B.istore_n (lv' := [(0, .ref r0), (1, .int (I b2 j12)), (2, .int (I b2 j12)), (3, .int x3), (4, .int (I b2 j12))]) dX9_spread_57 rfl (by decide) rfl ?_
          refine B.iinc (lv' := [(0, .ref r0), (1, .int (I b2 j12)), (2, .int (I b2 j12)), (3, .int (x3 + 1)), (4, .int (I b2 j12))]) 3 (x3 + 1) dX9_spread_58 rfl rfl (by decide) rfl ?_
          refine B.goto_ 6 dX9_spread_61 (by decide) ?_
          refine B.lvs [(0, .ref r0), (1, .int (I b2 j12)), (2, .int (I b2 j12)), (3, .int (x3 + 1))] [0, 1, 2, 3] rfl ?_
          exact h
      · replace h := h.2 q14
        refine B.iload 4 dX9_spread_40 rfl ?_
        refine B.iload_n 1 dX9_spread_42 rfl rfl ?_
        refine B.icmp_ge 49 dX9_spread_43 (by decide) (fun q16 => ?_) (fun q16 => ?_)
        · replace h := h.1 q16
          refine B.iload 4 dX9_spread_49 rfl ?_
          refine B.iload_n 2 dX9_spread_51 rfl rfl ?_
          refine B.icmp_le 58 dX9_spread_52 (by decide) (fun q17 => ?_) (fun q17 => ?_)
          · replace h := h.1 q17
            refine B.iinc (lv' := [(0, .ref r0), (1, .int x1), (2, .int x2), (3, .int (x3 + 1)), (4, .int (I b2 j12))]) 3 (x3 + 1) dX9_spread_58 rfl rfl (by decide) rfl ?_
            refine B.goto_ 6 dX9_spread_61 (by decide) ?_
            refine B.lvs [(0, .ref r0), (1, .int x1), (2, .int x2), (3, .int (x3 + 1))] [0, 1, 2, 3] rfl ?_
            exact h
          · replace h := h.2 q17
            refine B.iload 4 dX9_spread_55 rfl ?_
            refine B.istore_n (lv' := [(0, .ref r0), (1, .int x1), (2, .int (I b2 j12)), (3, .int x3), (4, .int (I b2 j12))]) dX9_spread_57 rfl (by decide) rfl ?_
            refine B.iinc (lv' := [(0, .ref r0), (1, .int x1), (2, .int (I b2 j12)), (3, .int (x3 + 1)), (4, .int (I b2 j12))]) 3 (x3 + 1) dX9_spread_58 rfl rfl (by decide) rfl ?_
            refine B.goto_ 6 dX9_spread_61 (by decide) ?_
            refine B.lvs [(0, .ref r0), (1, .int x1), (2, .int (I b2 j12)), (3, .int (x3 + 1))] [0, 1, 2, 3] rfl ?_
            exact h
        · replace h := h.2 q16
          refine B.iload 4 dX9_spread_46 rfl ?_
          refine B.istore_n (lv' := [(0, .ref r0), (1, .int (I b2 j12)), (2, .int x2), (3, .int x3), (4, .int (I b2 j12))]) dX9_spread_48 rfl (by decide) rfl ?_
          refine B.iload 4 dX9_spread_49 rfl ?_
          refine B.iload_n 2 dX9_spread_51 rfl rfl ?_
          refine B.icmp_le 58 dX9_spread_52 (by decide) (fun q18 => ?_) (fun q18 => ?_)
          · replace h := h.1 q18
            refine B.iinc (lv' := [(0, .ref r0), (1, .int (I b2 j12)), (2, .int x2), (3, .int (x3 + 1)), (4, .int (I b2 j12))]) 3 (x3 + 1) dX9_spread_58 rfl rfl (by decide) rfl ?_
            refine B.goto_ 6 dX9_spread_61 (by decide) ?_
            refine B.lvs [(0, .ref r0), (1, .int (I b2 j12)), (2, .int x2), (3, .int (x3 + 1))] [0, 1, 2, 3] rfl ?_
            exact h
          · replace h := h.2 q18
            refine B.iload 4 dX9_spread_55 rfl ?_
            refine B.istore_n (lv' := [(0, .ref r0), (1, .int (I b2 j12)), (2, .int (I b2 j12)), (3, .int x3), (4, .int (I b2 j12))]) dX9_spread_57 rfl (by decide) rfl ?_
            refine B.iinc (lv' := [(0, .ref r0), (1, .int (I b2 j12)), (2, .int (I b2 j12)), (3, .int (x3 + 1)), (4, .int (I b2 j12))]) 3 (x3 + 1) dX9_spread_58 rfl rfl (by decide) rfl ?_
            refine B.goto_ 6 dX9_spread_61 (by decide) ?_
            refine B.lvs [(0, .ref r0), (1, .int (I b2 j12)), (2, .int (I b2 j12)), (3, .int (x3 + 1))] [0, 1, 2, 3] rfl ?_
            exact h
    · replace h := h.2 q11
      refine B.goto_ 58 dX9_spread_25 (by decide) ?_
      refine B.iinc (lv' := [(0, .ref r0), (1, .int x1), (2, .int x2), (3, .int (x3 + 1))]) 3 (x3 + 1) dX9_spread_58 rfl rfl (by decide) rfl ?_
      refine B.goto_ 6 dX9_spread_61 (by decide) ?_
      exact h
theorem s_X9_bakes_0 {g : GT} {S : ST} {P : PT} {I : IT} {Q : QT} {r0 : Nat} {x1 : Int32} {x2 : Int32} (h : sT S r0 = 10 ∧ ∃ b2, P r0 0 = b2 + 1 ∧ sT S b2 = 40 ∧ ∃ j5, ix (10 + x2) j5 (sL S b2) ∧ ∃ b7, P r0 13 = b7 + 1 ∧ sT S b7 = 40 ∧ ∃ j10, ix x2 j10 (sL S b7) ∧ (((I b2 j5) ≤ (I b7 j10) → B g MX9_bakes 0 0 39 [(0, .ref r0), (1, .int x1), (2, .int x2), (3, .int (I b2 j5))] [.int ((I b7 j10) - (I b2 j5))] S P I Q) ∧ (¬ (I b2 j5) ≤ (I b7 j10) → B g MX9_bakes 0 0 39 [(0, .ref r0), (1, .int x1), (2, .int x2), (3, .int (I b2 j5))] [.int ((I b2 j5) - (I b7 j10))] S P I Q))) : B g MX9_bakes 0 0 0 [(0, .ref r0), (1, .int x1), (2, .int x2)] [] S P I Q := by
  refine B.aload_n 0 dX9_bakes_0 rfl rfl ?_
  obtain ⟨t1, h⟩ := h
  obtain ⟨b2, h⟩ := h
  obtain ⟨t3, h⟩ := h
  refine B.getP dX9_bakes_1 fl_9_7 t1 t3 ?_
  refine B.bipush 10 dX9_bakes_4 (by decide) ?_
  refine B.iload_n 2 dX9_bakes_6 rfl rfl ?_
  refine B.iadd dX9_bakes_7 ?_
  obtain ⟨t4, h⟩ := h
  obtain ⟨j5, h⟩ := h
  obtain ⟨t6, h⟩ := h
  refine B.iaload dX9_bakes_8 t4 t6 ?_
  refine B.istore_n (lv' := [(0, .ref r0), (1, .int x1), (2, .int x2), (3, .int (I b2 j5))]) dX9_bakes_9 rfl (by decide) rfl ?_
  refine B.iload_n 3 dX9_bakes_10 rfl rfl ?_
  refine B.aload_n 0 dX9_bakes_11 rfl rfl ?_
  obtain ⟨b7, h⟩ := h
  obtain ⟨t8, h⟩ := h
  refine B.getP dX9_bakes_12 fl_9_23 t1 t8 ?_
  refine B.iload_n 2 dX9_bakes_15 rfl rfl ?_
  obtain ⟨t9, h⟩ := h
  obtain ⟨j10, h⟩ := h
  obtain ⟨t11, h⟩ := h
  refine B.iaload dX9_bakes_16 t9 t11 ?_
  refine B.icmp_le 31 dX9_bakes_17 (by decide) (fun q12 => ?_) (fun q12 => ?_)
  · replace h := h.1 q12
    refine B.aload_n 0 dX9_bakes_31 rfl rfl ?_
    refine B.getP dX9_bakes_32 fl_9_23 t1 t8 ?_
    refine B.iload_n 2 dX9_bakes_35 rfl rfl ?_
    refine B.iaload dX9_bakes_36 t9 t11 ?_
    refine B.iload_n 3 dX9_bakes_37 rfl rfl ?_
    refine B.isub dX9_bakes_38 ?_
    exact h
  · replace h := h.2 q12
    refine B.iload_n 3 dX9_bakes_20 rfl rfl ?_
    refine B.aload_n 0 dX9_bakes_21 rfl rfl ?_
    refine B.getP dX9_bakes_22 fl_9_23 t1 t8 ?_
    refine B.iload_n 2 dX9_bakes_25 rfl rfl ?_
    refine B.iaload dX9_bakes_26 t9 t11 ?_
    refine B.isub dX9_bakes_27 ?_
    refine B.goto_ 39 dX9_bakes_28 (by decide) ?_
    exact h
theorem s_X9_bakes_39 {g : GT} {S : ST} {P : PT} {I : IT} {Q : QT} {r0 : Nat} {x1 : Int32} {x2 : Int32} {x3 : Int32} {w_s0 : Int32} (h : sT S r0 = 10 ∧ ∃ b2, P r0 0 = b2 + 1 ∧ sT S b2 = 40 ∧ ∃ j5, ix ((300 + (8 * x1)) + 1) j5 (sL S b2) ∧ ∃ j7, ix ((40 + (2 * (I b2 j5))) + 1) j7 (sL S b2) ∧ ∃ j9, ix ((300 + (8 * x1)) + 3) j9 (sL S b2) ∧ ((w_s0 ≤ ((I b2 j7) - (10 * (I b2 j9))) → ((x3 < 600 → B g MX9_bakes 0 0 112 [(0, .ref r0), (1, .int x1), (2, .int x2), (3, .int x3), (4, .int w_s0)] [] S P I Q) ∧ (¬ x3 < 600 → ∃ j13, ix ((300 + (8 * x1)) + 6) j13 (sL S b2) ∧ B g MX9_bakes 0 0 112 [(0, .ref r0), (1, .int x1), (2, .int x2), (3, .int x3), (4, .int w_s0)] [] S P (u2 I b2 j13 ((I b2 j13) + ((x3 - 600) / 50))) Q))) ∧ (¬ w_s0 ≤ ((I b2 j7) - (10 * (I b2 j9))) → ∃ j15, ix ((300 + (8 * x1)) + 5) j15 (sL S b2) ∧ Q none S P (u2 I b2 j15 1)))) : B g MX9_bakes 0 0 39 [(0, .ref r0), (1, .int x1), (2, .int x2), (3, .int x3)] [.int w_s0] S P I Q := by
  refine B.istore (lv' := [(0, .ref r0), (1, .int x1), (2, .int x2), (3, .int x3), (4, .int w_s0)]) dX9_bakes_39 (by decide) rfl ?_
  refine B.iload 4 dX9_bakes_41 rfl ?_
  refine B.aload_n 0 dX9_bakes_43 rfl rfl ?_
  obtain ⟨t1, h⟩ := h
  obtain ⟨b2, h⟩ := h
  obtain ⟨t3, h⟩ := h
  refine B.getP dX9_bakes_44 fl_9_7 t1 t3 ?_
  refine B.bipush 40 dX9_bakes_47 (by decide) ?_
  refine B.iconst 2 dX9_bakes_49 (by decide) ?_
  refine B.aload_n 0 dX9_bakes_50 rfl rfl ?_
  refine B.iload_n 1 dX9_bakes_51 rfl rfl ?_
  refine B.iconst 1 dX9_bakes_52 (by decide) ?_
  refine B.callV (M' := MX9_its) (rc := 0) (rs := 0) (mc := 0) (ms := 0) (st := [.int 2, .int 40, .ref b2, .int w_s0]) [.int x1, .int 1] dX9_bakes_53 mv_X9_its lk_X9_130 ⟨Nat.le_of_ble_eq_true rfl, Nat.le_of_ble_eq_true rfl⟩ rfl rfl (Nat.le_of_ble_eq_true rfl) t1 ?_
  refine T_of rfl (Nat.le_of_ble_eq_true rfl) ?_
  show B g MX9_its 0 0 0 [(0, .ref r0), (1, .int x1), (2, .int 1)] [] S P I _
  refine B.aload_n 0 dX9_its_0 rfl rfl ?_
  refine B.getP dX9_its_1 fl_9_7 t1 t3 ?_
  refine B.sipush 300 dX9_its_4 (by decide) ?_
  refine B.bipush 8 dX9_its_7 (by decide) ?_
  refine B.iload_n 1 dX9_its_9 rfl rfl ?_
  refine B.imul dX9_its_10 ?_
  refine B.iadd dX9_its_11 ?_
  refine B.iload_n 2 dX9_its_12 rfl rfl ?_
  refine B.iadd dX9_its_13 ?_
  obtain ⟨t4, h⟩ := h
  obtain ⟨j5, h⟩ := h
  obtain ⟨t6, h⟩ := h
  refine B.iaload dX9_its_14 t4 t6 ?_
  refine B.ireturn dX9_its_15 rfl rfl ?_
  show B g MX9_bakes 0 0 56 [(0, .ref r0), (1, .int x1), (2, .int x2), (3, .int x3), (4, .int w_s0)] [.int (I b2 j5), .int 2, .int 40, .ref b2, .int w_s0] S P I _
  refine B.imul dX9_bakes_56 ?_
  refine B.iadd dX9_bakes_57 ?_
  refine B.iconst 1 dX9_bakes_58 (by decide) ?_
  refine B.iadd dX9_bakes_59 ?_
  obtain ⟨j7, h⟩ := h
  obtain ⟨t8, h⟩ := h
  refine B.iaload dX9_bakes_60 t4 t8 ?_
  refine B.bipush 10 dX9_bakes_61 (by decide) ?_
  refine B.aload_n 0 dX9_bakes_63 rfl rfl ?_
  refine B.iload_n 1 dX9_bakes_64 rfl rfl ?_
  refine B.iconst 3 dX9_bakes_65 (by decide) ?_
  refine B.callV (M' := MX9_its) (rc := 0) (rs := 0) (mc := 0) (ms := 0) (st := [.int 10, .int (I b2 j7), .int w_s0]) [.int x1, .int 3] dX9_bakes_66 mv_X9_its lk_X9_130 ⟨Nat.le_of_ble_eq_true rfl, Nat.le_of_ble_eq_true rfl⟩ rfl rfl (Nat.le_of_ble_eq_true rfl) t1 ?_
  refine T_of rfl (Nat.le_of_ble_eq_true rfl) ?_
  show B g MX9_its 0 0 0 [(0, .ref r0), (1, .int x1), (2, .int 3)] [] S P I _
  refine B.aload_n 0 dX9_its_0 rfl rfl ?_
  refine B.getP dX9_its_1 fl_9_7 t1 t3 ?_
  refine B.sipush 300 dX9_its_4 (by decide) ?_
  refine B.bipush 8 dX9_its_7 (by decide) ?_
  refine B.iload_n 1 dX9_its_9 rfl rfl ?_
  refine B.imul dX9_its_10 ?_
  refine B.iadd dX9_its_11 ?_
  refine B.iload_n 2 dX9_its_12 rfl rfl ?_
  refine B.iadd dX9_its_13 ?_
  obtain ⟨j9, h⟩ := h
  obtain ⟨t10, h⟩ := h
  refine B.iaload dX9_its_14 t4 t10 ?_
  refine B.ireturn dX9_its_15 rfl rfl ?_
  show B g MX9_bakes 0 0 69 [(0, .ref r0), (1, .int x1), (2, .int x2), (3, .int x3), (4, .int w_s0)] [.int (I b2 j9), .int 10, .int (I b2 j7), .int w_s0] S P I _
  refine B.imul dX9_bakes_69 ?_
  refine B.isub dX9_bakes_70 ?_
  refine B.icmp_le 82 dX9_bakes_71 (by decide) (fun q11 => ?_) (fun q11 => ?_)
  · replace h := h.1 q11
    refine B.iload_n 3 dX9_bakes_82 rfl rfl ?_
    refine B.sipush 600 dX9_bakes_83 (by decide) ?_
    refine B.icmp_lt 112 dX9_bakes_86 (by decide) (fun q12 => ?_) (fun q12 => ?_)
    · replace h := h.1 q12
      exact h
    · replace h := h.2 q12
      refine B.aload_n 0 dX9_bakes_89 rfl rfl ?_
      refine B.iload_n 1 dX9_bakes_90 rfl rfl ?_
      refine B.bipush 6 dX9_bakes_91 (by decide) ?_
      refine B.aload_n 0 dX9_bakes_93 rfl rfl ?_
      refine B.iload_n 1 dX9_bakes_94 rfl rfl ?_
      refine B.bipush 6 dX9_bakes_95 (by decide) ?_
      refine B.callV (M' := MX9_its) (rc := 0) (rs := 0) (mc := 0) (ms := 0) (st := [.int 6, .int x1, .ref r0]) [.int x1, .int 6] dX9_bakes_97 mv_X9_its lk_X9_130 ⟨Nat.le_of_ble_eq_true rfl, Nat.le_of_ble_eq_true rfl⟩ rfl rfl (Nat.le_of_ble_eq_true rfl) t1 ?_
      refine T_of rfl (Nat.le_of_ble_eq_true rfl) ?_
      show B g MX9_its 0 0 0 [(0, .ref r0), (1, .int x1), (2, .int 6)] [] S P I _
      refine B.aload_n 0 dX9_its_0 rfl rfl ?_
      refine B.getP dX9_its_1 fl_9_7 t1 t3 ?_
      refine B.sipush 300 dX9_its_4 (by decide) ?_
      refine B.bipush 8 dX9_its_7 (by decide) ?_
      refine B.iload_n 1 dX9_its_9 rfl rfl ?_
      refine B.imul dX9_its_10 ?_
      refine B.iadd dX9_its_11 ?_
      refine B.iload_n 2 dX9_its_12 rfl rfl ?_
      refine B.iadd dX9_its_13 ?_
      obtain ⟨j13, h⟩ := h
      obtain ⟨t14, h⟩ := h
      refine B.iaload dX9_its_14 t4 t14 ?_
      refine B.ireturn dX9_its_15 rfl rfl ?_
      show B g MX9_bakes 0 0 100 [(0, .ref r0), (1, .int x1), (2, .int x2), (3, .int x3), (4, .int w_s0)] [.int (I b2 j13), .int 6, .int x1, .ref r0] S P I _
      refine B.iload_n 3 dX9_bakes_100 rfl rfl ?_
      refine B.sipush 600 dX9_bakes_101 (by decide) ?_
      refine B.isub dX9_bakes_104 ?_
      refine B.bipush 50 dX9_bakes_105 (by decide) ?_
      refine B.idiv dX9_bakes_107 (by decide) ?_
      refine B.iadd dX9_bakes_108 ?_
      refine B.callV (M' := MX9_sets) (rc := 0) (rs := 0) (mc := 0) (ms := 0) (st := []) [.int x1, .int 6, .int ((I b2 j13) + ((x3 - 600) / 50))] dX9_bakes_109 mv_X9_sets lk_X9_147 ⟨Nat.le_of_ble_eq_true rfl, Nat.le_of_ble_eq_true rfl⟩ rfl rfl (Nat.le_of_ble_eq_true rfl) t1 ?_
      refine T_of rfl (Nat.le_of_ble_eq_true rfl) ?_
      show B g MX9_sets 0 0 0 [(0, .ref r0), (1, .int x1), (2, .int 6), (3, .int ((I b2 j13) + ((x3 - 600) / 50)))] [] S P I _
      refine B.aload_n 0 dX9_sets_0 rfl rfl ?_
      refine B.getP dX9_sets_1 fl_9_7 t1 t3 ?_
      refine B.sipush 300 dX9_sets_4 (by decide) ?_
      refine B.bipush 8 dX9_sets_7 (by decide) ?_
      refine B.iload_n 1 dX9_sets_9 rfl rfl ?_
      refine B.imul dX9_sets_10 ?_
      refine B.iadd dX9_sets_11 ?_
      refine B.iload_n 2 dX9_sets_12 rfl rfl ?_
      refine B.iadd dX9_sets_13 ?_
      refine B.iload_n 3 dX9_sets_14 rfl rfl ?_
      refine B.iastore dX9_sets_15 t4 t14 ?_
      refine B.return_ dX9_sets_16 rfl ?_
      show B g MX9_bakes 0 0 112 [(0, .ref r0), (1, .int x1), (2, .int x2), (3, .int x3), (4, .int w_s0)] [] S P (u2 I b2 j13 ((I b2 j13) + ((x3 - 600) / 50))) _
      exact h
  · replace h := h.2 q11
    refine B.aload_n 0 dX9_bakes_74 rfl rfl ?_
    refine B.iload_n 1 dX9_bakes_75 rfl rfl ?_
    refine B.iconst 5 dX9_bakes_76 (by decide) ?_
    refine B.iconst 1 dX9_bakes_77 (by decide) ?_
    refine B.callV (M' := MX9_sets) (rc := 0) (rs := 0) (mc := 0) (ms := 0) (st := []) [.int x1, .int 5, .int 1] dX9_bakes_78 mv_X9_sets lk_X9_147 ⟨Nat.le_of_ble_eq_true rfl, Nat.le_of_ble_eq_true rfl⟩ rfl rfl (Nat.le_of_ble_eq_true rfl) t1 ?_
    refine T_of rfl (Nat.le_of_ble_eq_true rfl) ?_
    show B g MX9_sets 0 0 0 [(0, .ref r0), (1, .int x1), (2, .int 5), (3, .int 1)] [] S P I _
    refine B.aload_n 0 dX9_sets_0 rfl rfl ?_
    refine B.getP dX9_sets_1 fl_9_7 t1 t3 ?_
    refine B.sipush 300 dX9_sets_4 (by decide) ?_
    refine B.bipush 8 dX9_sets_7 (by decide) ?_
    refine B.iload_n 1 dX9_sets_9 rfl rfl ?_
    refine B.imul dX9_sets_10 ?_
    refine B.iadd dX9_sets_11 ?_
    refine B.iload_n 2 dX9_sets_12 rfl rfl ?_
    refine B.iadd dX9_sets_13 ?_
    refine B.iload_n 3 dX9_sets_14 rfl rfl ?_
    obtain ⟨j15, h⟩ := h
    obtain ⟨t16, h⟩ := h
    refine B.iastore dX9_sets_15 t4 t16 ?_
    refine B.return_ dX9_sets_16 rfl ?_
    show B g MX9_bakes 0 0 81 [(0, .ref r0), (1, .int x1), (2, .int x2), (3, .int x3), (4, .int w_s0)] [] S P (u2 I b2 j15 1) _
    refine B.return_ dX9_bakes_81 rfl ?_
    exact h
theorem s_X9_bakes_112 {g : GT} {S : ST} {P : PT} {I : IT} {Q : QT} {r0 : Nat} {x1 : Int32} {x2 : Int32} {x3 : Int32} {x4 : Int32} (h : ((x3 < 100 → Q none S P I) ∧ (¬ x3 < 100 → sT S r0 = 10 ∧ ∃ b3, P r0 0 = b3 + 1 ∧ sT S b3 = 40 ∧ ∃ j6, ix ((300 + (8 * x1)) + 3) j6 (sL S b3) ∧ (((I b3 j6) ≤ 0 → Q none S P I) ∧ (¬ (I b3 j6) ≤ 0 → Q none S P (u2 I b3 j6 ((I b3 j6) - 1))))))) : B g MX9_bakes 0 0 112 [(0, .ref r0), (1, .int x1), (2, .int x2), (3, .int x3), (4, .int x4)] [] S P I Q := by
  refine B.iload_n 3 dX9_bakes_112 rfl rfl ?_
  refine B.bipush 100 dX9_bakes_113 (by decide) ?_
  refine B.icmp_lt 141 dX9_bakes_115 (by decide) (fun q1 => ?_) (fun q1 => ?_)
  · replace h := h.1 q1
    refine B.return_ dX9_bakes_141 rfl ?_
    exact h
  · replace h := h.2 q1
    refine B.aload_n 0 dX9_bakes_118 rfl rfl ?_
    refine B.iload_n 1 dX9_bakes_119 rfl rfl ?_
    refine B.iconst 3 dX9_bakes_120 (by decide) ?_
    obtain ⟨t2, h⟩ := h
    refine B.callV (M' := MX9_its) (rc := 0) (rs := 0) (mc := 0) (ms := 0) (st := []) [.int x1, .int 3] dX9_bakes_121 mv_X9_its lk_X9_130 ⟨Nat.le_of_ble_eq_true rfl, Nat.le_of_ble_eq_true rfl⟩ rfl rfl (Nat.le_of_ble_eq_true rfl) t2 ?_
    refine T_of rfl (Nat.le_of_ble_eq_true rfl) ?_
    show B g MX9_its 0 0 0 [(0, .ref r0), (1, .int x1), (2, .int 3)] [] S P I _
    refine B.aload_n 0 dX9_its_0 rfl rfl ?_
    obtain ⟨b3, h⟩ := h
    obtain ⟨t4, h⟩ := h
    refine B.getP dX9_its_1 fl_9_7 t2 t4 ?_
    refine B.sipush 300 dX9_its_4 (by decide) ?_
    refine B.bipush 8 dX9_its_7 (by decide) ?_
    refine B.iload_n 1 dX9_its_9 rfl rfl ?_
    refine B.imul dX9_its_10 ?_
    refine B.iadd dX9_its_11 ?_
    refine B.iload_n 2 dX9_its_12 rfl rfl ?_
    refine B.iadd dX9_its_13 ?_
    obtain ⟨t5, h⟩ := h
    obtain ⟨j6, h⟩ := h
    obtain ⟨t7, h⟩ := h
    refine B.iaload dX9_its_14 t5 t7 ?_
    refine B.ireturn dX9_its_15 rfl rfl ?_
    show B g MX9_bakes 0 0 124 [(0, .ref r0), (1, .int x1), (2, .int x2), (3, .int x3), (4, .int x4)] [.int (I b3 j6)] S P I _
    refine B.if_le 141 dX9_bakes_124 (by decide) (fun q8 => ?_) (fun q8 => ?_)
    · replace h := h.1 q8
      refine B.return_ dX9_bakes_141 rfl ?_
      exact h
    · replace h := h.2 q8
      refine B.aload_n 0 dX9_bakes_127 rfl rfl ?_
      refine B.iload_n 1 dX9_bakes_128 rfl rfl ?_
      refine B.iconst 3 dX9_bakes_129 (by decide) ?_
      refine B.aload_n 0 dX9_bakes_130 rfl rfl ?_
      refine B.iload_n 1 dX9_bakes_131 rfl rfl ?_
      refine B.iconst 3 dX9_bakes_132 (by decide) ?_
      refine B.callV (M' := MX9_its) (rc := 0) (rs := 0) (mc := 0) (ms := 0) (st := [.int 3, .int x1, .ref r0]) [.int x1, .int 3] dX9_bakes_133 mv_X9_its lk_X9_130 ⟨Nat.le_of_ble_eq_true rfl, Nat.le_of_ble_eq_true rfl⟩ rfl rfl (Nat.le_of_ble_eq_true rfl) t2 ?_
      refine T_of rfl (Nat.le_of_ble_eq_true rfl) ?_
      show B g MX9_its 0 0 0 [(0, .ref r0), (1, .int x1), (2, .int 3)] [] S P I _
      refine B.aload_n 0 dX9_its_0 rfl rfl ?_
      refine B.getP dX9_its_1 fl_9_7 t2 t4 ?_
      refine B.sipush 300 dX9_its_4 (by decide) ?_
      refine B.bipush 8 dX9_its_7 (by decide) ?_
      refine B.iload_n 1 dX9_its_9 rfl rfl ?_
      refine B.imul dX9_its_10 ?_
      refine B.iadd dX9_its_11 ?_
      refine B.iload_n 2 dX9_its_12 rfl rfl ?_
      refine B.iadd dX9_its_13 ?_
      refine B.iaload dX9_its_14 t5 t7 ?_
      refine B.ireturn dX9_its_15 rfl rfl ?_
      show B g MX9_bakes 0 0 136 [(0, .ref r0), (1, .int x1), (2, .int x2), (3, .int x3), (4, .int x4)] [.int (I b3 j6), .int 3, .int x1, .ref r0] S P I _
      refine B.iconst 1 dX9_bakes_136 (by decide) ?_
      refine B.isub dX9_bakes_137 ?_
      refine B.callV (M' := MX9_sets) (rc := 0) (rs := 0) (mc := 0) (ms := 0) (st := []) [.int x1, .int 3, .int ((I b3 j6) - 1)] dX9_bakes_138 mv_X9_sets lk_X9_147 ⟨Nat.le_of_ble_eq_true rfl, Nat.le_of_ble_eq_true rfl⟩ rfl rfl (Nat.le_of_ble_eq_true rfl) t2 ?_
      refine T_of rfl (Nat.le_of_ble_eq_true rfl) ?_
      show B g MX9_sets 0 0 0 [(0, .ref r0), (1, .int x1), (2, .int 3), (3, .int ((I b3 j6) - 1))] [] S P I _
      refine B.aload_n 0 dX9_sets_0 rfl rfl ?_
      refine B.getP dX9_sets_1 fl_9_7 t2 t4 ?_
      refine B.sipush 300 dX9_sets_4 (by decide) ?_
      refine B.bipush 8 dX9_sets_7 (by decide) ?_
      refine B.iload_n 1 dX9_sets_9 rfl rfl ?_
      refine B.imul dX9_sets_10 ?_
      refine B.iadd dX9_sets_11 ?_
      refine B.iload_n 2 dX9_sets_12 rfl rfl ?_
      refine B.iadd dX9_sets_13 ?_
      refine B.iload_n 3 dX9_sets_14 rfl rfl ?_
      refine B.iastore dX9_sets_15 t5 t7 ?_
      refine B.return_ dX9_sets_16 rfl ?_
      show B g MX9_bakes 0 0 141 [(0, .ref r0), (1, .int x1), (2, .int x2), (3, .int x3), (4, .int x4)] [] S P (u2 I b3 j6 ((I b3 j6) - 1)) _
      refine B.return_ dX9_bakes_141 rfl ?_
      exact h
theorem s_X9_fire_0 {g : GT} {S : ST} {P : PT} {I : IT} {Q : QT} {r0 : Nat} {x1 : Int32} {x2 : Int32} (h : sT S r0 = 10 ∧ ∃ b2, P r0 0 = b2 + 1 ∧ sT S b2 = 40 ∧ ∃ j5, ix 2 j5 (sL S b2) ∧ (((wi x1 0 ((I b2 j5) - 1)) = 0 → Q (some (.int (-1))) S P I) ∧ (¬ (wi x1 0 ((I b2 j5) - 1)) = 0 → ((¬ (wi x2 0 9) = 0 → T g MX9_hour 0 0 [.ref r0, .int x1, .int x2] S P I (fun r S' P' I' => B g MX9_fire 0 0 34 [(0, .ref r0), (1, .int x1), (2, .int x2)] (r.toList ++ []) S' P' I' Q)) ∧ ((wi x2 0 9) = 0 → Q (some (.int (-1))) S P I))))) : B g MX9_fire 0 0 0 [(0, .ref r0), (1, .int x1), (2, .int x2)] [] S P I Q := by
  refine B.iload_n 1 dX9_fire_0 rfl rfl ?_
  refine B.iconst 0 dX9_fire_1 (by decide) ?_
  refine B.aload_n 0 dX9_fire_2 rfl rfl ?_
  obtain ⟨t1, h⟩ := h
  obtain ⟨b2, h⟩ := h
  obtain ⟨t3, h⟩ := h
  refine B.getP dX9_fire_3 fl_9_7 t1 t3 ?_
  refine B.iconst 2 dX9_fire_6 (by decide) ?_
  obtain ⟨t4, h⟩ := h
  obtain ⟨j5, h⟩ := h
  obtain ⟨t6, h⟩ := h
  refine B.iaload dX9_fire_7 t4 t6 ?_
  refine B.iconst 1 dX9_fire_8 (by decide) ?_
  refine B.isub dX9_fire_9 ?_
  refine B.callS (M' := MX9_isIn) (rc := 0) (rs := 0) (mc := 0) (ms := 0) (st := []) [.int x1, .int 0, .int ((I b2 j5) - 1)] dX9_fire_10 ms_X9_isIn lk_X9_103 ⟨Nat.le_of_ble_eq_true rfl, Nat.le_of_ble_eq_true rfl⟩ rfl rfl (Nat.le_of_ble_eq_true rfl) (t_isIn ?_)
  show B g MX9_fire 0 0 13 [(0, .ref r0), (1, .int x1), (2, .int x2)] [.int (wi x1 0 ((I b2 j5) - 1))] S P I _
  refine B.if_eq 26 dX9_fire_13 (by decide) (fun q7 => ?_) (fun q7 => ?_)
  · replace h := h.1 q7
    refine B.iconst (-1) dX9_fire_26 (by decide) ?_
    refine B.ireturn dX9_fire_27 rfl rfl ?_
    exact h
  · replace h := h.2 q7
    refine B.iload_n 2 dX9_fire_16 rfl rfl ?_
    refine B.iconst 0 dX9_fire_17 (by decide) ?_
    refine B.bipush 9 dX9_fire_18 (by decide) ?_
    refine B.callS (M' := MX9_isIn) (rc := 0) (rs := 0) (mc := 0) (ms := 0) (st := []) [.int x2, .int 0, .int 9] dX9_fire_20 ms_X9_isIn lk_X9_103 ⟨Nat.le_of_ble_eq_true rfl, Nat.le_of_ble_eq_true rfl⟩ rfl rfl (Nat.le_of_ble_eq_true rfl) (t_isIn ?_)
    show B g MX9_fire 0 0 23 [(0, .ref r0), (1, .int x1), (2, .int x2)] [.int (wi x2 0 9)] S P I _
    refine B.if_ne 28 dX9_fire_23 (by decide) (fun q8 => ?_) (fun q8 => ?_)
    · replace h := h.1 q8
      refine B.aload_n 0 dX9_fire_28 rfl rfl ?_
      refine B.iload_n 1 dX9_fire_29 rfl rfl ?_
      refine B.iload_n 2 dX9_fire_30 rfl rfl ?_
      refine B.callV (M' := MX9_hour) (rc := 0) (rs := 0) (mc := 0) (ms := 0) (st := []) [.int x1, .int x2] dX9_fire_31 mv_X9_hour lk_X9_175 ⟨Nat.le_of_ble_eq_true rfl, Nat.le_of_ble_eq_true rfl⟩ rfl rfl (Nat.le_of_ble_eq_true rfl) t1 ?_
      exact h
    · replace h := h.2 q8
      refine B.iconst (-1) dX9_fire_26 (by decide) ?_
      refine B.ireturn dX9_fire_27 rfl rfl ?_
      exact h
theorem s_X9_fire_34 {g : GT} {S : ST} {P : PT} {I : IT} {Q : QT} {r0 : Nat} {x1 : Int32} {x2 : Int32} (h : sT S r0 = 10 ∧ ∃ b2, P r0 0 = b2 + 1 ∧ sT S b2 = 40 ∧ ∃ j5, ix (10 + x1) j5 (sL S b2) ∧ Q (some (.int (I b2 j5))) S P I) : B g MX9_fire 0 0 34 [(0, .ref r0), (1, .int x1), (2, .int x2)] [] S P I Q := by
  refine B.aload_n 0 dX9_fire_34 rfl rfl ?_
  obtain ⟨t1, h⟩ := h
  obtain ⟨b2, h⟩ := h
  obtain ⟨t3, h⟩ := h
  refine B.getP dX9_fire_35 fl_9_7 t1 t3 ?_
  refine B.bipush 10 dX9_fire_38 (by decide) ?_
  refine B.iload_n 1 dX9_fire_40 rfl rfl ?_
  refine B.iadd dX9_fire_41 ?_
  obtain ⟨t4, h⟩ := h
  obtain ⟨j5, h⟩ := h
  obtain ⟨t6, h⟩ := h
  refine B.iaload dX9_fire_42 t4 t6 ?_
  refine B.ireturn dX9_fire_43 rfl rfl ?_
  exact h
theorem s_X9_rest_0 {g : GT} {S : ST} {P : PT} {I : IT} {Q : QT} {r0 : Nat} {x1 : Int32} (h : ((¬ (wi x1 1 60) = 0 → B g MX9_rest 0 0 14 [(0, .ref r0), (1, .int x1), (2, .int 0)] [] S P I Q) ∧ ((wi x1 1 60) = 0 → Q (some (.int (-1))) S P I))) : B g MX9_rest 0 0 0 [(0, .ref r0), (1, .int x1)] [] S P I Q := by
  refine B.iload_n 1 dX9_rest_0 rfl rfl ?_
  refine B.iconst 1 dX9_rest_1 (by decide) ?_
  refine B.bipush 60 dX9_rest_2 (by decide) ?_
  refine B.callS (M' := MX9_isIn) (rc := 0) (rs := 0) (mc := 0) (ms := 0) (st := []) [.int x1, .int 1, .int 60] dX9_rest_4 ms_X9_isIn lk_X9_103 ⟨Nat.le_of_ble_eq_true rfl, Nat.le_of_ble_eq_true rfl⟩ rfl rfl (Nat.le_of_ble_eq_true rfl) (t_isIn ?_)
  show B g MX9_rest 0 0 7 [(0, .ref r0), (1, .int x1)] [.int (wi x1 1 60)] S P I _
  refine B.if_ne 12 dX9_rest_7 (by decide) (fun q1 => ?_) (fun q1 => ?_)
  · replace h := h.1 q1
    refine B.iconst 0 dX9_rest_12 (by decide) ?_
    refine B.istore_n (lv' := [(0, .ref r0), (1, .int x1), (2, .int 0)]) dX9_rest_13 rfl (by decide) rfl ?_
    exact h
  · replace h := h.2 q1
    refine B.iconst (-1) dX9_rest_10 (by decide) ?_
    refine B.ireturn dX9_rest_11 rfl rfl ?_
    exact h
theorem s_X9_rest_14 {g : GT} {S : ST} {P : PT} {I : IT} {Q : QT} {r0 : Nat} {x1 : Int32} {x2 : Int32} (h : ((x1 ≤ x2 → sT S r0 = 10 ∧ T g MX9_greatestHeat 0 0 [.ref r0] S P I (fun r S' P' I' => B g MX9_rest 0 0 35 [(0, .ref r0), (1, .int x1), (2, .int x2)] (r.toList ++ []) S' P' I' Q)) ∧ (¬ x1 ≤ x2 → sT S r0 = 10 ∧ T g MX9_hour 0 0 [.ref r0, .int 0, .int 0] S P I (fun r S' P' I' => B g MX9_rest 0 0 25 [(0, .ref r0), (1, .int x1), (2, .int x2)] (r.toList ++ []) S' P' I' Q)))) : B g MX9_rest 0 0 14 [(0, .ref r0), (1, .int x1), (2, .int x2)] [] S P I Q := by
  refine B.iload_n 2 dX9_rest_14 rfl rfl ?_
  refine B.iload_n 1 dX9_rest_15 rfl rfl ?_
  refine B.icmp_ge 31 dX9_rest_16 (by decide) (fun q1 => ?_) (fun q1 => ?_)
  · replace h := h.1 q1
    refine B.aload_n 0 dX9_rest_31 rfl rfl ?_
    obtain ⟨t2, h⟩ := h
    refine B.callV (M' := MX9_greatestHeat) (rc := 0) (rs := 0) (mc := 0) (ms := 0) (st := []) [] dX9_rest_32 mv_X9_greatestHeat lk_X9_160 ⟨Nat.le_of_ble_eq_true rfl, Nat.le_of_ble_eq_true rfl⟩ rfl rfl (Nat.le_of_ble_eq_true rfl) t2 ?_
    exact h
  · replace h := h.2 q1
    refine B.aload_n 0 dX9_rest_19 rfl rfl ?_
    refine B.iconst 0 dX9_rest_20 (by decide) ?_
    refine B.iconst 0 dX9_rest_21 (by decide) ?_
    obtain ⟨t3, h⟩ := h
    refine B.callV (M' := MX9_hour) (rc := 0) (rs := 0) (mc := 0) (ms := 0) (st := []) [.int 0, .int 0] dX9_rest_22 mv_X9_hour lk_X9_175 ⟨Nat.le_of_ble_eq_true rfl, Nat.le_of_ble_eq_true rfl⟩ rfl rfl (Nat.le_of_ble_eq_true rfl) t3 ?_
    exact h
theorem s_X9_rest_25 {g : GT} {S : ST} {P : PT} {I : IT} {Q : QT} {r0 : Nat} {x1 : Int32} {x2 : Int32} (h : B g MX9_rest 0 0 14 [(0, .ref r0), (1, .int x1), (2, .int (x2 + 1))] [] S P I Q) : B g MX9_rest 0 0 25 [(0, .ref r0), (1, .int x1), (2, .int x2)] [] S P I Q := by
  refine B.iinc (lv' := [(0, .ref r0), (1, .int x1), (2, .int (x2 + 1))]) 2 (x2 + 1) dX9_rest_25 rfl rfl (by decide) rfl ?_
  refine B.goto_ 14 dX9_rest_28 (by decide) ?_
  exact h
theorem s_X9_rest_35 {g : GT} {S : ST} {P : PT} {I : IT} {Q : QT} {r0 : Nat} {x1 : Int32} {x2 : Int32} {w_s0 : Int32} (h : Q (some (.int w_s0)) S P I) : B g MX9_rest 0 0 35 [(0, .ref r0), (1, .int x1), (2, .int x2)] [.int w_s0] S P I Q := by
  refine B.ireturn dX9_rest_35 rfl rfl ?_
  exact h
theorem s_X9_heat_0 {g : GT} {S : ST} {P : PT} {I : IT} {Q : QT} {r0 : Nat} {x1 : Int32} (h : sT S r0 = 10 ∧ ∃ b2, P r0 0 = b2 + 1 ∧ sT S b2 = 40 ∧ ∃ j5, ix 2 j5 (sL S b2) ∧ (((wi x1 0 ((I b2 j5) - 1)) = 0 → Q (some (.int (-1))) S P I) ∧ (¬ (wi x1 0 ((I b2 j5) - 1)) = 0 → ∃ j8, ix (10 + x1) j8 (sL S b2) ∧ Q (some (.int (I b2 j8))) S P I))) : B g MX9_heat 0 0 0 [(0, .ref r0), (1, .int x1)] [] S P I Q := by
  refine B.iload_n 1 dX9_heat_0 rfl rfl ?_
  refine B.iconst 0 dX9_heat_1 (by decide) ?_
  refine B.aload_n 0 dX9_heat_2 rfl rfl ?_
  obtain ⟨t1, h⟩ := h
  obtain ⟨b2, h⟩ := h
  obtain ⟨t3, h⟩ := h
  refine B.getP dX9_heat_3 fl_9_7 t1 t3 ?_
  refine B.iconst 2 dX9_heat_6 (by decide) ?_
  obtain ⟨t4, h⟩ := h
  obtain ⟨j5, h⟩ := h
  obtain ⟨t6, h⟩ := h
  refine B.iaload dX9_heat_7 t4 t6 ?_
  refine B.iconst 1 dX9_heat_8 (by decide) ?_
  refine B.isub dX9_heat_9 ?_
  refine B.callS (M' := MX9_isIn) (rc := 0) (rs := 0) (mc := 0) (ms := 0) (st := []) [.int x1, .int 0, .int ((I b2 j5) - 1)] dX9_heat_10 ms_X9_isIn lk_X9_103 ⟨Nat.le_of_ble_eq_true rfl, Nat.le_of_ble_eq_true rfl⟩ rfl rfl (Nat.le_of_ble_eq_true rfl) (t_isIn ?_)
  show B g MX9_heat 0 0 13 [(0, .ref r0), (1, .int x1)] [.int (wi x1 0 ((I b2 j5) - 1))] S P I _
  refine B.if_eq 28 dX9_heat_13 (by decide) (fun q7 => ?_) (fun q7 => ?_)
  · replace h := h.1 q7
    refine B.iconst (-1) dX9_heat_28 (by decide) ?_
    refine B.ireturn dX9_heat_29 rfl rfl ?_
    exact h
  · replace h := h.2 q7
    refine B.aload_n 0 dX9_heat_16 rfl rfl ?_
    refine B.getP dX9_heat_17 fl_9_7 t1 t3 ?_
    refine B.bipush 10 dX9_heat_20 (by decide) ?_
    refine B.iload_n 1 dX9_heat_22 rfl rfl ?_
    refine B.iadd dX9_heat_23 ?_
    obtain ⟨j8, h⟩ := h
    obtain ⟨t9, h⟩ := h
    refine B.iaload dX9_heat_24 t4 t9 ?_
    refine B.goto_ 29 dX9_heat_25 (by decide) ?_
    refine B.ireturn dX9_heat_29 rfl rfl ?_
    exact h
theorem s_X9_asked_0 {g : GT} {S : ST} {P : PT} {I : IT} {Q : QT} {r0 : Nat} {x1 : Int32} {x2 : Int32} (h : sT S r0 = 10 ∧ ∃ b2, P r0 0 = b2 + 1 ∧ sT S b2 = 40 ∧ ∃ j5, ix ((300 + (8 * x1)) + 4) j5 (sL S b2) ∧ (((I b2 j5) < 0 → B g MX9_asked 0 0 18 [(0, .ref r0), (1, .int x1), (2, .int x2)] [.int 0] S P I Q) ∧ (¬ (I b2 j5) < 0 → B g MX9_asked 0 0 18 [(0, .ref r0), (1, .int x1), (2, .int x2)] [.int (I b2 j5)] S P I Q))) : B g MX9_asked 0 0 0 [(0, .ref r0), (1, .int x1), (2, .int x2)] [] S P I Q := by
  refine B.aload_n 0 dX9_asked_0 rfl rfl ?_
  refine B.iload_n 1 dX9_asked_1 rfl rfl ?_
  obtain ⟨t1, h⟩ := h
  refine B.callV (M' := MX9_stands) (rc := 0) (rs := 0) (mc := 0) (ms := 0) (st := []) [.int x1] dX9_asked_2 mv_X9_stands lk_X9_134 ⟨Nat.le_of_ble_eq_true rfl, Nat.le_of_ble_eq_true rfl⟩ rfl rfl (Nat.le_of_ble_eq_true rfl) t1 ?_
  refine T_of rfl (Nat.le_of_ble_eq_true rfl) ?_
  show B g MX9_stands 0 0 0 [(0, .ref r0), (1, .int x1)] [] S P I _
  refine B.aload_n 0 dX9_stands_0 rfl rfl ?_
  refine B.iload_n 1 dX9_stands_1 rfl rfl ?_
  refine B.iconst 4 dX9_stands_2 (by decide) ?_
  refine B.callV (M' := MX9_its) (rc := 0) (rs := 0) (mc := 0) (ms := 0) (st := []) [.int x1, .int 4] dX9_stands_3 mv_X9_its lk_X9_130 ⟨Nat.le_of_ble_eq_true rfl, Nat.le_of_ble_eq_true rfl⟩ rfl rfl (Nat.le_of_ble_eq_true rfl) t1 ?_
  refine T_of rfl (Nat.le_of_ble_eq_true rfl) ?_
  show B g MX9_its 0 0 0 [(0, .ref r0), (1, .int x1), (2, .int 4)] [] S P I _
  refine B.aload_n 0 dX9_its_0 rfl rfl ?_
  obtain ⟨b2, h⟩ := h
  obtain ⟨t3, h⟩ := h
  refine B.getP dX9_its_1 fl_9_7 t1 t3 ?_
  refine B.sipush 300 dX9_its_4 (by decide) ?_
  refine B.bipush 8 dX9_its_7 (by decide) ?_
  refine B.iload_n 1 dX9_its_9 rfl rfl ?_
  refine B.imul dX9_its_10 ?_
  refine B.iadd dX9_its_11 ?_
  refine B.iload_n 2 dX9_its_12 rfl rfl ?_
  refine B.iadd dX9_its_13 ?_
  obtain ⟨t4, h⟩ := h
  obtain ⟨j5, h⟩ := h
  obtain ⟨t6, h⟩ := h
  refine B.iaload dX9_its_14 t4 t6 ?_
  refine B.ireturn dX9_its_15 rfl rfl ?_
  show B g MX9_stands 0 0 6 [(0, .ref r0), (1, .int x1)] [.int (I b2 j5)] S P I _
  refine B.if_lt 13 dX9_stands_6 (by decide) (fun q7 => ?_) (fun q7 => ?_)
  · replace h := h.1 q7
    refine B.iconst 0 dX9_stands_13 (by decide) ?_
    refine B.ireturn dX9_stands_14 rfl rfl ?_
    show B g MX9_asked 0 0 5 [(0, .ref r0), (1, .int x1), (2, .int x2)] [.int 0] S P I _
    refine B.if_eq 17 dX9_asked_5 (by decide) (fun _ => ?_) (fun q => absurd q (by decide))
    refine B.iconst 0 dX9_asked_17 (by decide) ?_
    exact h
  · replace h := h.2 q7
    refine B.iconst 1 dX9_stands_9 (by decide) ?_
    refine B.goto_ 14 dX9_stands_10 (by decide) ?_
    refine B.ireturn dX9_stands_14 rfl rfl ?_
    show B g MX9_asked 0 0 5 [(0, .ref r0), (1, .int x1), (2, .int x2)] [.int 1] S P I _
    refine B.if_eq 17 dX9_asked_5 (by decide) (fun q => absurd q (by decide)) (fun _ => ?_)
    refine B.aload_n 0 dX9_asked_8 rfl rfl ?_
    refine B.iload_n 1 dX9_asked_9 rfl rfl ?_
    refine B.iconst 4 dX9_asked_10 (by decide) ?_
    refine B.callV (M' := MX9_its) (rc := 0) (rs := 0) (mc := 0) (ms := 0) (st := []) [.int x1, .int 4] dX9_asked_11 mv_X9_its lk_X9_130 ⟨Nat.le_of_ble_eq_true rfl, Nat.le_of_ble_eq_true rfl⟩ rfl rfl (Nat.le_of_ble_eq_true rfl) t1 ?_
    refine T_of rfl (Nat.le_of_ble_eq_true rfl) ?_
    show B g MX9_its 0 0 0 [(0, .ref r0), (1, .int x1), (2, .int 4)] [] S P I _
    refine B.aload_n 0 dX9_its_0 rfl rfl ?_
    refine B.getP dX9_its_1 fl_9_7 t1 t3 ?_
    refine B.sipush 300 dX9_its_4 (by decide) ?_
    refine B.bipush 8 dX9_its_7 (by decide) ?_
    refine B.iload_n 1 dX9_its_9 rfl rfl ?_
    refine B.imul dX9_its_10 ?_
    refine B.iadd dX9_its_11 ?_
    refine B.iload_n 2 dX9_its_12 rfl rfl ?_
    refine B.iadd dX9_its_13 ?_
    refine B.iaload dX9_its_14 t4 t6 ?_
    refine B.ireturn dX9_its_15 rfl rfl ?_
    show B g MX9_asked 0 0 14 [(0, .ref r0), (1, .int x1), (2, .int x2)] [.int (I b2 j5)] S P I _
    refine B.goto_ 18 dX9_asked_14 (by decide) ?_
    exact h
theorem s_X9_asked_18 {g : GT} {S : ST} {P : PT} {I : IT} {Q : QT} {r0 : Nat} {x1 : Int32} {x2 : Int32} {w_s0 : Int32} (h : ((x2 = 1 → Q (some (.int (w_s0 / 4))) S P I) ∧ (x2 = 2 → Q (some (.int (w_s0 - (w_s0 / 4) * 4))) S P I) ∧ (x2 = 3 → sT S r0 = 10 ∧ ∃ b3, P r0 0 = b3 + 1 ∧ sT S b3 = 40 ∧ ∃ j6, ix ((300 + (8 * x1)) + 1) j6 (sL S b3) ∧ Q (some (.int (I b3 j6))) S P I) ∧ (x2 = 4 → sT S r0 = 10 ∧ ∃ b9, P r0 0 = b9 + 1 ∧ sT S b9 = 40 ∧ ∃ j12, ix ((300 + (8 * x1)) + 2) j12 (sL S b9) ∧ Q (some (.int (I b9 j12))) S P I) ∧ (x2 = 5 → sT S r0 = 10 ∧ ∃ b15, P r0 0 = b15 + 1 ∧ sT S b15 = 40 ∧ ∃ j18, ix ((300 + (8 * x1)) + 0) j18 (sL S b15) ∧ Q (some (.int (I b15 j18))) S P I) ∧ (x2 = 6 → sT S r0 = 10 ∧ ∃ b21, P r0 0 = b21 + 1 ∧ sT S b21 = 40 ∧ ∃ j24, ix ((300 + (8 * x1)) + 3) j24 (sL S b21) ∧ Q (some (.int (I b21 j24))) S P I) ∧ (¬ x2 = 1 → ¬ x2 = 2 → ¬ x2 = 3 → ¬ x2 = 4 → ¬ x2 = 5 → ¬ x2 = 6 → sT S r0 = 10 ∧ ∃ b27, P r0 0 = b27 + 1 ∧ sT S b27 = 40 ∧ ∃ j30, ix ((300 + (8 * x1)) + 6) j30 (sL S b27) ∧ Q (some (.int (I b27 j30))) S P I))) : B g MX9_asked 0 0 18 [(0, .ref r0), (1, .int x1), (2, .int x2)] [.int w_s0] S P I Q := by
  refine B.istore_n (lv' := [(0, .ref r0), (1, .int x1), (2, .int x2), (3, .int w_s0)]) dX9_asked_18 rfl (by decide) rfl ?_
  refine B.iload_n 2 dX9_asked_19 rfl rfl ?_
  rcases Decidable.em (x2 = 1) with q1 | q1_0
  · replace h := h.1 q1
    refine B.tableIn 60 dX9_asked_20 (by rw [q1]; decide) (by rw [q1]; decide) (by rw [q1]; rfl) (by decide) ?_
    refine B.iload_n 3 dX9_asked_60 rfl rfl ?_
    refine B.iconst 4 dX9_asked_61 (by decide) ?_
    refine B.idiv dX9_asked_62 (by decide) ?_
    refine B.ireturn dX9_asked_63 rfl rfl ?_
    exact h
  replace h := h.2
  rcases Decidable.em (x2 = 2) with q1 | q1_1
  · replace h := h.1 q1
    refine B.tableIn 64 dX9_asked_20 (by rw [q1]; decide) (by rw [q1]; decide) (by rw [q1]; rfl) (by decide) ?_
    refine B.iload_n 3 dX9_asked_64 rfl rfl ?_
    refine B.iconst 4 dX9_asked_65 (by decide) ?_
    refine B.irem dX9_asked_66 (by decide) ?_
    refine B.ireturn dX9_asked_67 rfl rfl ?_
    exact h
  replace h := h.2
  rcases Decidable.em (x2 = 3) with q1 | q1_2
  · replace h := h.1 q1
    refine B.tableIn 68 dX9_asked_20 (by rw [q1]; decide) (by rw [q1]; decide) (by rw [q1]; rfl) (by decide) ?_
    refine B.aload_n 0 dX9_asked_68 rfl rfl ?_
    refine B.iload_n 1 dX9_asked_69 rfl rfl ?_
    refine B.iconst 1 dX9_asked_70 (by decide) ?_
    obtain ⟨t2, h⟩ := h
    refine B.callV (M' := MX9_its) (rc := 0) (rs := 0) (mc := 0) (ms := 0) (st := []) [.int x1, .int 1] dX9_asked_71 mv_X9_its lk_X9_130 ⟨Nat.le_of_ble_eq_true rfl, Nat.le_of_ble_eq_true rfl⟩ rfl rfl (Nat.le_of_ble_eq_true rfl) t2 ?_
    refine T_of rfl (Nat.le_of_ble_eq_true rfl) ?_
    show B g MX9_its 0 0 0 [(0, .ref r0), (1, .int x1), (2, .int 1)] [] S P I _
    refine B.aload_n 0 dX9_its_0 rfl rfl ?_
    obtain ⟨b3, h⟩ := h
    obtain ⟨t4, h⟩ := h
    refine B.getP dX9_its_1 fl_9_7 t2 t4 ?_
    refine B.sipush 300 dX9_its_4 (by decide) ?_
    refine B.bipush 8 dX9_its_7 (by decide) ?_
    refine B.iload_n 1 dX9_its_9 rfl rfl ?_
    refine B.imul dX9_its_10 ?_
    refine B.iadd dX9_its_11 ?_
    refine B.iload_n 2 dX9_its_12 rfl rfl ?_
    refine B.iadd dX9_its_13 ?_
    obtain ⟨t5, h⟩ := h
    obtain ⟨j6, h⟩ := h
    obtain ⟨t7, h⟩ := h
    refine B.iaload dX9_its_14 t5 t7 ?_
    refine B.ireturn dX9_its_15 rfl rfl ?_
    show B g MX9_asked 0 0 74 [(0, .ref r0), (1, .int x1), (2, .int x2), (3, .int w_s0)] [.int (I b3 j6)] S P I _
    refine B.ireturn dX9_asked_74 rfl rfl ?_
    exact h
  replace h := h.2
  rcases Decidable.em (x2 = 4) with q1 | q1_3
  · replace h := h.1 q1
    refine B.tableIn 75 dX9_asked_20 (by rw [q1]; decide) (by rw [q1]; decide) (by rw [q1]; rfl) (by decide) ?_
    refine B.aload_n 0 dX9_asked_75 rfl rfl ?_
    refine B.iload_n 1 dX9_asked_76 rfl rfl ?_
    refine B.iconst 2 dX9_asked_77 (by decide) ?_
    obtain ⟨t8, h⟩ := h
    refine B.callV (M' := MX9_its) (rc := 0) (rs := 0) (mc := 0) (ms := 0) (st := []) [.int x1, .int 2] dX9_asked_78 mv_X9_its lk_X9_130 ⟨Nat.le_of_ble_eq_true rfl, Nat.le_of_ble_eq_true rfl⟩ rfl rfl (Nat.le_of_ble_eq_true rfl) t8 ?_
    refine T_of rfl (Nat.le_of_ble_eq_true rfl) ?_
    show B g MX9_its 0 0 0 [(0, .ref r0), (1, .int x1), (2, .int 2)] [] S P I _
    refine B.aload_n 0 dX9_its_0 rfl rfl ?_
    obtain ⟨b9, h⟩ := h
    obtain ⟨t10, h⟩ := h
    refine B.getP dX9_its_1 fl_9_7 t8 t10 ?_
    refine B.sipush 300 dX9_its_4 (by decide) ?_
    refine B.bipush 8 dX9_its_7 (by decide) ?_
    refine B.iload_n 1 dX9_its_9 rfl rfl ?_
    refine B.imul dX9_its_10 ?_
    refine B.iadd dX9_its_11 ?_
    refine B.iload_n 2 dX9_its_12 rfl rfl ?_
    refine B.iadd dX9_its_13 ?_
    obtain ⟨t11, h⟩ := h
    obtain ⟨j12, h⟩ := h
    obtain ⟨t13, h⟩ := h
    refine B.iaload dX9_its_14 t11 t13 ?_
    refine B.ireturn dX9_its_15 rfl rfl ?_
    show B g MX9_asked 0 0 81 [(0, .ref r0), (1, .int x1), (2, .int x2), (3, .int w_s0)] [.int (I b9 j12)] S P I _
    refine B.ireturn dX9_asked_81 rfl rfl ?_
    exact h
  replace h := h.2
  rcases Decidable.em (x2 = 5) with q1 | q1_4
  · replace h := h.1 q1
    refine B.tableIn 82 dX9_asked_20 (by rw [q1]; decide) (by rw [q1]; decide) (by rw [q1]; rfl) (by decide) ?_
    refine B.aload_n 0 dX9_asked_82 rfl rfl ?_
    refine B.iload_n 1 dX9_asked_83 rfl rfl ?_
    refine B.iconst 0 dX9_asked_84 (by decide) ?_
    obtain ⟨t14, h⟩ := h
    refine B.callV (M' := MX9_its) (rc := 0) (rs := 0) (mc := 0) (ms := 0) (st := []) [.int x1, .int 0] dX9_asked_85 mv_X9_its lk_X9_130 ⟨Nat.le_of_ble_eq_true rfl, Nat.le_of_ble_eq_true rfl⟩ rfl rfl (Nat.le_of_ble_eq_true rfl) t14 ?_
    refine T_of rfl (Nat.le_of_ble_eq_true rfl) ?_
    show B g MX9_its 0 0 0 [(0, .ref r0), (1, .int x1), (2, .int 0)] [] S P I _
    refine B.aload_n 0 dX9_its_0 rfl rfl ?_
    obtain ⟨b15, h⟩ := h
    obtain ⟨t16, h⟩ := h
    refine B.getP dX9_its_1 fl_9_7 t14 t16 ?_
    refine B.sipush 300 dX9_its_4 (by decide) ?_
    refine B.bipush 8 dX9_its_7 (by decide) ?_
    refine B.iload_n 1 dX9_its_9 rfl rfl ?_
    refine B.imul dX9_its_10 ?_
    refine B.iadd dX9_its_11 ?_
    refine B.iload_n 2 dX9_its_12 rfl rfl ?_
    refine B.iadd dX9_its_13 ?_
    obtain ⟨t17, h⟩ := h
    obtain ⟨j18, h⟩ := h
    obtain ⟨t19, h⟩ := h
    refine B.iaload dX9_its_14 t17 t19 ?_
    refine B.ireturn dX9_its_15 rfl rfl ?_
    show B g MX9_asked 0 0 88 [(0, .ref r0), (1, .int x1), (2, .int x2), (3, .int w_s0)] [.int (I b15 j18)] S P I _
    refine B.ireturn dX9_asked_88 rfl rfl ?_
    exact h
  replace h := h.2
  rcases Decidable.em (x2 = 6) with q1 | q1_5
  · replace h := h.1 q1
    refine B.tableIn 89 dX9_asked_20 (by rw [q1]; decide) (by rw [q1]; decide) (by rw [q1]; rfl) (by decide) ?_
    refine B.aload_n 0 dX9_asked_89 rfl rfl ?_
    refine B.iload_n 1 dX9_asked_90 rfl rfl ?_
    refine B.iconst 3 dX9_asked_91 (by decide) ?_
    obtain ⟨t20, h⟩ := h
    refine B.callV (M' := MX9_its) (rc := 0) (rs := 0) (mc := 0) (ms := 0) (st := []) [.int x1, .int 3] dX9_asked_92 mv_X9_its lk_X9_130 ⟨Nat.le_of_ble_eq_true rfl, Nat.le_of_ble_eq_true rfl⟩ rfl rfl (Nat.le_of_ble_eq_true rfl) t20 ?_
    refine T_of rfl (Nat.le_of_ble_eq_true rfl) ?_
    show B g MX9_its 0 0 0 [(0, .ref r0), (1, .int x1), (2, .int 3)] [] S P I _
    refine B.aload_n 0 dX9_its_0 rfl rfl ?_
    obtain ⟨b21, h⟩ := h
    obtain ⟨t22, h⟩ := h
    refine B.getP dX9_its_1 fl_9_7 t20 t22 ?_
    refine B.sipush 300 dX9_its_4 (by decide) ?_
    refine B.bipush 8 dX9_its_7 (by decide) ?_
    refine B.iload_n 1 dX9_its_9 rfl rfl ?_
    refine B.imul dX9_its_10 ?_
    refine B.iadd dX9_its_11 ?_
    refine B.iload_n 2 dX9_its_12 rfl rfl ?_
    refine B.iadd dX9_its_13 ?_
    obtain ⟨t23, h⟩ := h
    obtain ⟨j24, h⟩ := h
    obtain ⟨t25, h⟩ := h
    refine B.iaload dX9_its_14 t23 t25 ?_
    refine B.ireturn dX9_its_15 rfl rfl ?_
    show B g MX9_asked 0 0 95 [(0, .ref r0), (1, .int x1), (2, .int x2), (3, .int w_s0)] [.int (I b21 j24)] S P I _
    refine B.ireturn dX9_asked_95 rfl rfl ?_
    exact h
  replace h := h.2
  replace h := h q1_0 q1_1 q1_2 q1_3 q1_4 q1_5
  have qo : (x2).toInt < 1 ∨ 6 < (x2).toInt := by
    refine tsw_out (lo := 1) (hi := 6) (by decide) (by decide) (fun c h1 h2 => ?_)
    obtain rfl | rfl | rfl | rfl | rfl | rfl : c = 1 ∨ c = 2 ∨ c = 3 ∨ c = 4 ∨ c = 5 ∨ c = 6 := by omega
    · exact q1_0
    · exact q1_1
    · exact q1_2
    · exact q1_3
    · exact q1_4
    · exact q1_5
  refine B.tableOut 96 dX9_asked_20 qo (by decide) ?_
  refine B.aload_n 0 dX9_asked_96 rfl rfl ?_
  refine B.iload_n 1 dX9_asked_97 rfl rfl ?_
  refine B.bipush 6 dX9_asked_98 (by decide) ?_
  obtain ⟨t26, h⟩ := h
  refine B.callV (M' := MX9_its) (rc := 0) (rs := 0) (mc := 0) (ms := 0) (st := []) [.int x1, .int 6] dX9_asked_100 mv_X9_its lk_X9_130 ⟨Nat.le_of_ble_eq_true rfl, Nat.le_of_ble_eq_true rfl⟩ rfl rfl (Nat.le_of_ble_eq_true rfl) t26 ?_
  refine T_of rfl (Nat.le_of_ble_eq_true rfl) ?_
  show B g MX9_its 0 0 0 [(0, .ref r0), (1, .int x1), (2, .int 6)] [] S P I _
  refine B.aload_n 0 dX9_its_0 rfl rfl ?_
  obtain ⟨b27, h⟩ := h
  obtain ⟨t28, h⟩ := h
  refine B.getP dX9_its_1 fl_9_7 t26 t28 ?_
  refine B.sipush 300 dX9_its_4 (by decide) ?_
  refine B.bipush 8 dX9_its_7 (by decide) ?_
  refine B.iload_n 1 dX9_its_9 rfl rfl ?_
  refine B.imul dX9_its_10 ?_
  refine B.iadd dX9_its_11 ?_
  refine B.iload_n 2 dX9_its_12 rfl rfl ?_
  refine B.iadd dX9_its_13 ?_
  obtain ⟨t29, h⟩ := h
  obtain ⟨j30, h⟩ := h
  obtain ⟨t31, h⟩ := h
  refine B.iaload dX9_its_14 t29 t31 ?_
  refine B.ireturn dX9_its_15 rfl rfl ?_
  show B g MX9_asked 0 0 103 [(0, .ref r0), (1, .int x1), (2, .int x2), (3, .int w_s0)] [.int (I b27 j30)] S P I _
  refine B.ireturn dX9_asked_103 rfl rfl ?_
  exact h
theorem s_X9_holds_0 {g : GT} {S : ST} {P : PT} {I : IT} {Q : QT} {r0 : Nat} {x1 : Int32} {x2 : Int32} (h : B g MX9_holds 0 0 5 [(0, .ref r0), (1, .int x1), (2, .int x2), (3, .int 1), (4, .int 0)] [] S P I Q) : B g MX9_holds 0 0 0 [(0, .ref r0), (1, .int x1), (2, .int x2)] [] S P I Q := by
  refine B.iconst 1 dX9_holds_0 (by decide) ?_
  refine B.istore_n (lv' := [(0, .ref r0), (1, .int x1), (2, .int x2), (3, .int 1)]) dX9_holds_1 rfl (by decide) rfl ?_
  refine B.iconst 0 dX9_holds_2 (by decide) ?_
  refine B.istore (lv' := [(0, .ref r0), (1, .int x1), (2, .int x2), (3, .int 1), (4, .int 0)]) dX9_holds_3 (by decide) rfl ?_
  exact h
theorem s_X9_holds_5 {g : GT} {S : ST} {P : PT} {I : IT} {Q : QT} {r0 : Nat} {x1 : Int32} {x2 : Int32} {x3 : Int32} {x4 : Int32} (h : sT S r0 = 10 ∧ ∃ b2, P r0 0 = b2 + 1 ∧ sT S b2 = 40 ∧ ∃ j5, ix x2 j5 (sL S b2) ∧ (((I b2 j5) ≤ x4 → (x3 = 0 ∨ x3 = 1) ∧ Q (some (.int x3)) S P I) ∧ (¬ (I b2 j5) ≤ x4 → ((x3 = 0 → (x3 = 0 ∨ x3 = 1) ∧ Q (some (.int x3)) S P I) ∧ (¬ x3 = 0 → ∃ j11, ix (((x2 + 1) + (4 * x4)) + 1) j11 (sL S b2) ∧ T g MX9_asked 0 0 [.ref r0, .int x1, .int (I b2 j11)] S P I (fun r S' P' I' => B g MX9_holds 0 0 44 [(0, .ref r0), (1, .int x1), (2, .int x2), (3, .int x3), (4, .int x4), (5, .int ((x2 + 1) + (4 * x4)))] (r.toList ++ []) S' P' I' Q)))))) : B g MX9_holds 0 0 5 [(0, .ref r0), (1, .int x1), (2, .int x2), (3, .int x3), (4, .int x4)] [] S P I Q := by
  refine B.iload 4 dX9_holds_5 rfl ?_
  refine B.aload_n 0 dX9_holds_7 rfl rfl ?_
  obtain ⟨t1, h⟩ := h
  obtain ⟨b2, h⟩ := h
  obtain ⟨t3, h⟩ := h
  refine B.getP dX9_holds_8 fl_9_7 t1 t3 ?_
  refine B.iload_n 2 dX9_holds_11 rfl rfl ?_
  obtain ⟨t4, h⟩ := h
  obtain ⟨j5, h⟩ := h
  obtain ⟨t6, h⟩ := h
  refine B.iaload dX9_holds_12 t4 t6 ?_
  refine B.icmp_ge 162 dX9_holds_13 (by decide) (fun q7 => ?_) (fun q7 => ?_)
  · replace h := h.1 q7
    refine B.iload_n 3 dX9_holds_162 rfl rfl ?_
    obtain ⟨t8, h⟩ := h
    refine B.ireturn dX9_holds_163 rfl (nar_z t8) ?_
    exact h
  · replace h := h.2 q7
    refine B.iload_n 3 dX9_holds_16 rfl rfl ?_
    refine B.if_eq 162 dX9_holds_17 (by decide) (fun q9 => ?_) (fun q9 => ?_)
    · replace h := h.1 q9
      refine B.iload_n 3 dX9_holds_162 rfl rfl ?_
      obtain ⟨t10, h⟩ := h
      refine B.ireturn dX9_holds_163 rfl (nar_z t10) ?_
      exact h
    · replace h := h.2 q9
      refine B.iload_n 2 dX9_holds_20 rfl rfl ?_
      refine B.iconst 1 dX9_holds_21 (by decide) ?_
      refine B.iadd dX9_holds_22 ?_
      refine B.iconst 4 dX9_holds_23 (by decide) ?_
      refine B.iload 4 dX9_holds_24 rfl ?_
      refine B.imul dX9_holds_26 ?_
      refine B.iadd dX9_holds_27 ?_
      refine B.istore (lv' := [(0, .ref r0), (1, .int x1), (2, .int x2), (3, .int x3), (4, .int x4), (5, .int ((x2 + 1) + (4 * x4)))]) dX9_holds_28 (by decide) rfl ?_
      refine B.aload_n 0 dX9_holds_30 rfl rfl ?_
      refine B.iload_n 1 dX9_holds_31 rfl rfl ?_
      refine B.aload_n 0 dX9_holds_32 rfl rfl ?_
      refine B.getP dX9_holds_33 fl_9_7 t1 t3 ?_
      refine B.iload 5 dX9_holds_36 rfl ?_
      refine B.iconst 1 dX9_holds_38 (by decide) ?_
      refine B.iadd dX9_holds_39 ?_
      obtain ⟨j11, h⟩ := h
      obtain ⟨t12, h⟩ := h
      refine B.iaload dX9_holds_40 t4 t12 ?_
      refine B.callV (M' := MX9_asked) (rc := 0) (rs := 0) (mc := 0) (ms := 0) (st := []) [.int x1, .int (I b2 j11)] dX9_holds_41 mv_X9_asked lk_X9_178 ⟨Nat.le_of_ble_eq_true rfl, Nat.le_of_ble_eq_true rfl⟩ rfl rfl (Nat.le_of_ble_eq_true rfl) t1 ?_
      exact h
theorem s_X9_holds_44 {g : GT} {S : ST} {P : PT} {I : IT} {Q : QT} {r0 : Nat} {x1 : Int32} {x2 : Int32} {x3 : Int32} {x4 : Int32} {x5 : Int32} {w_s0 : Int32} (h : sT S r0 = 10 ∧ ∃ b2, P r0 0 = b2 + 1 ∧ sT S b2 = 40 ∧ ∃ j5, ix (x5 + 3) j5 (sL S b2) ∧ ∃ j7, ix (x5 + 2) j7 (sL S b2) ∧ ((¬ (I b2 j7) = 60 → ((¬ (I b2 j7) = 62 → ((¬ w_s0 = (I b2 j5) → B g MX9_holds 0 0 127 [(0, .ref r0), (1, .int x1), (2, .int x2), (3, .int x3), (4, .int x4), (5, .int x5), (6, .int w_s0), (7, .int (I b2 j5))] [.int 0] S P I Q) ∧ (w_s0 = (I b2 j5) → B g MX9_holds 0 0 127 [(0, .ref r0), (1, .int x1), (2, .int x2), (3, .int x3), (4, .int x4), (5, .int x5), (6, .int w_s0), (7, .int (I b2 j5))] [.int 1] S P I Q))) ∧ ((I b2 j7) = 62 → ((w_s0 ≤ (I b2 j5) → B g MX9_holds 0 0 127 [(0, .ref r0), (1, .int x1), (2, .int x2), (3, .int x3), (4, .int x4), (5, .int x5), (6, .int w_s0), (7, .int (I b2 j5))] [.int 0] S P I Q) ∧ (¬ w_s0 ≤ (I b2 j5) → B g MX9_holds 0 0 127 [(0, .ref r0), (1, .int x1), (2, .int x2), (3, .int x3), (4, .int x4), (5, .int x5), (6, .int w_s0), (7, .int (I b2 j5))] [.int 1] S P I Q))))) ∧ ((I b2 j7) = 60 → (((I b2 j5) ≤ w_s0 → B g MX9_holds 0 0 127 [(0, .ref r0), (1, .int x1), (2, .int x2), (3, .int x3), (4, .int x4), (5, .int x5), (6, .int w_s0), (7, .int (I b2 j5))] [.int 0] S P I Q) ∧ (¬ (I b2 j5) ≤ w_s0 → B g MX9_holds 0 0 127 [(0, .ref r0), (1, .int x1), (2, .int x2), (3, .int x3), (4, .int x4), (5, .int x5), (6, .int w_s0), (7, .int (I b2 j5))] [.int 1] S P I Q))))) : B g MX9_holds 0 0 44 [(0, .ref r0), (1, .int x1), (2, .int x2), (3, .int x3), (4, .int x4), (5, .int x5)] [.int w_s0] S P I Q := by
  refine B.istore (lv' := [(0, .ref r0), (1, .int x1), (2, .int x2), (3, .int x3), (4, .int x4), (5, .int x5), (6, .int w_s0)]) dX9_holds_44 (by decide) rfl ?_
  refine B.aload_n 0 dX9_holds_46 rfl rfl ?_
  obtain ⟨t1, h⟩ := h
  obtain ⟨b2, h⟩ := h
  obtain ⟨t3, h⟩ := h
  refine B.getP dX9_holds_47 fl_9_7 t1 t3 ?_
  refine B.iload 5 dX9_holds_50 rfl ?_
  refine B.iconst 3 dX9_holds_52 (by decide) ?_
  refine B.iadd dX9_holds_53 ?_
  obtain ⟨t4, h⟩ := h
  obtain ⟨j5, h⟩ := h
  obtain ⟨t6, h⟩ := h
  refine B.iaload dX9_holds_54 t4 t6 ?_
  refine B.istore (lv' := [(0, .ref r0), (1, .int x1), (2, .int x2), (3, .int x3), (4, .int x4), (5, .int x5), (6, .int w_s0), (7, .int (I b2 j5))]) dX9_holds_55 (by decide) rfl ?_
  refine B.aload_n 0 dX9_holds_57 rfl rfl ?_
  refine B.getP dX9_holds_58 fl_9_7 t1 t3 ?_
  refine B.iload 5 dX9_holds_61 rfl ?_
  refine B.iconst 2 dX9_holds_63 (by decide) ?_
  refine B.iadd dX9_holds_64 ?_
  obtain ⟨j7, h⟩ := h
  obtain ⟨t8, h⟩ := h
  refine B.iaload dX9_holds_65 t4 t8 ?_
  refine B.bipush 60 dX9_holds_66 (by decide) ?_
  refine B.icmp_ne 86 dX9_holds_68 (by decide) (fun q9 => ?_) (fun q9 => ?_)
  · replace h := h.1 q9
    refine B.aload_n 0 dX9_holds_86 rfl rfl ?_
    refine B.getP dX9_holds_87 fl_9_7 t1 t3 ?_
    refine B.iload 5 dX9_holds_90 rfl ?_
    refine B.iconst 2 dX9_holds_92 (by decide) ?_
    refine B.iadd dX9_holds_93 ?_
    refine B.iaload dX9_holds_94 t4 t8 ?_
    refine B.bipush 62 dX9_holds_95 (by decide) ?_
    refine B.icmp_ne 115 dX9_holds_97 (by decide) (fun q10 => ?_) (fun q10 => ?_)
    · replace h := h.1 q10
      refine B.iload 6 dX9_holds_115 rfl ?_
      refine B.iload 7 dX9_holds_117 rfl ?_
      refine B.icmp_ne 126 dX9_holds_119 (by decide) (fun q11 => ?_) (fun q11 => ?_)
      · replace h := h.1 q11
        refine B.iconst 0 dX9_holds_126 (by decide) ?_
        exact h
      · replace h := h.2 q11
        refine B.iconst 1 dX9_holds_122 (by decide) ?_
        refine B.goto_ 127 dX9_holds_123 (by decide) ?_
        exact h
    · replace h := h.2 q10
      refine B.iload 6 dX9_holds_100 rfl ?_
      refine B.iload 7 dX9_holds_102 rfl ?_
      refine B.icmp_le 111 dX9_holds_104 (by decide) (fun q12 => ?_) (fun q12 => ?_)
      · replace h := h.1 q12
        refine B.iconst 0 dX9_holds_111 (by decide) ?_
        refine B.goto_ 127 dX9_holds_112 (by decide) ?_
        exact h
      · replace h := h.2 q12
        refine B.iconst 1 dX9_holds_107 (by decide) ?_
        refine B.goto_ 127 dX9_holds_108 (by decide) ?_
        exact h
  · replace h := h.2 q9
    refine B.iload 6 dX9_holds_71 rfl ?_
    refine B.iload 7 dX9_holds_73 rfl ?_
    refine B.icmp_ge 82 dX9_holds_75 (by decide) (fun q13 => ?_) (fun q13 => ?_)
    · replace h := h.1 q13
      refine B.iconst 0 dX9_holds_82 (by decide) ?_
      refine B.goto_ 127 dX9_holds_83 (by decide) ?_
      exact h
    · replace h := h.2 q13
      refine B.iconst 1 dX9_holds_78 (by decide) ?_
      refine B.goto_ 127 dX9_holds_79 (by decide) ?_
      exact h
theorem s_X9_holds_127 {g : GT} {S : ST} {P : PT} {I : IT} {Q : QT} {r0 : Nat} {x1 : Int32} {x2 : Int32} {x3 : Int32} {x4 : Int32} {x5 : Int32} {x6 : Int32} {x7 : Int32} {w_s0 : Int32} (h : sT S r0 = 10 ∧ ∃ b2, P r0 0 = b2 + 1 ∧ sT S b2 = 40 ∧ ∃ j5, ix x5 j5 (sL S b2) ∧ ((¬ (I b2 j5) = 1 → ((w_s0 = 0 → B g MX9_holds 0 0 5 [(0, .ref r0), (1, .int x1), (2, .int x2), (3, .int 0), (4, .int (x4 + 1))] [] S P I Q) ∧ (¬ w_s0 = 0 → B g MX9_holds 0 0 5 [(0, .ref r0), (1, .int x1), (2, .int x2), (3, .int 1), (4, .int (x4 + 1))] [] S P I Q))) ∧ ((I b2 j5) = 1 → ((w_s0 = 1 → B g MX9_holds 0 0 5 [(0, .ref r0), (1, .int x1), (2, .int x2), (3, .int 0), (4, .int (x4 + 1))] [] S P I Q) ∧ (¬ w_s0 = 1 → B g MX9_holds 0 0 5 [(0, .ref r0), (1, .int x1), (2, .int x2), (3, .int 1), (4, .int (x4 + 1))] [] S P I Q))))) : B g MX9_holds 0 0 127 [(0, .ref r0), (1, .int x1), (2, .int x2), (3, .int x3), (4, .int x4), (5, .int x5), (6, .int x6), (7, .int x7)] [.int w_s0] S P I Q := by
  refine B.istore (lv' := [(0, .ref r0), (1, .int x1), (2, .int x2), (3, .int x3), (4, .int x4), (5, .int x5), (6, .int x6), (7, .int x7), (8, .int w_s0)]) dX9_holds_127 (by decide) rfl ?_
  refine B.iload 8 dX9_holds_129 rfl ?_
  refine B.aload_n 0 dX9_holds_131 rfl rfl ?_
  obtain ⟨t1, h⟩ := h
  obtain ⟨b2, h⟩ := h
  obtain ⟨t3, h⟩ := h
  refine B.getP dX9_holds_132 fl_9_7 t1 t3 ?_
  refine B.iload 5 dX9_holds_135 rfl ?_
  obtain ⟨t4, h⟩ := h
  obtain ⟨j5, h⟩ := h
  obtain ⟨t6, h⟩ := h
  refine B.iaload dX9_holds_137 t4 t6 ?_
  refine B.iconst 1 dX9_holds_138 (by decide) ?_
  refine B.icmp_ne 146 dX9_holds_139 (by decide) (fun q7 => ?_) (fun q7 => ?_)
  · replace h := h.1 q7
    refine B.iconst 0 dX9_holds_146 (by decide) ?_
    refine B.icmp_eq 154 dX9_holds_147 (by decide) (fun q8 => ?_) (fun q8 => ?_)
    · replace h := h.1 q8
      refine B.iconst 0 dX9_holds_154 (by decide) ?_
      refine B.istore_n (lv' := [(0, .ref r0), (1, .int x1), (2, .int x2), (3, .int 0), (4, .int x4), (5, .int x5), (6, .int x6), (7, .int x7), (8, .int w_s0)]) dX9_holds_155 rfl (by decide) rfl ?_
      refine B.iinc (lv' := [(0, .ref r0), (1, .int x1), (2, .int x2), (3, .int 0), (4, .int (x4 + 1)), (5, .int x5), (6, .int x6), (7, .int x7), (8, .int w_s0)]) 4 (x4 + 1) dX9_holds_156 rfl rfl (by decide) rfl ?_
      refine B.goto_ 5 dX9_holds_159 (by decide) ?_
      refine B.lvs [(0, .ref r0), (1, .int x1), (2, .int x2), (3, .int 0), (4, .int (x4 + 1))] [0, 1, 2, 3, 4] rfl ?_
      exact h
    · replace h := h.2 q8
      refine B.iconst 1 dX9_holds_150 (by decide) ?_
      refine B.goto_ 155 dX9_holds_151 (by decide) ?_
      refine B.istore_n (lv' := [(0, .ref r0), (1, .int x1), (2, .int x2), (3, .int 1), (4, .int x4), (5, .int x5), (6, .int x6), (7, .int x7), (8, .int w_s0)]) dX9_holds_155 rfl (by decide) rfl ?_
      refine B.iinc (lv' := [(0, .ref r0), (1, .int x1), (2, .int x2), (3, .int 1), (4, .int (x4 + 1)), (5, .int x5), (6, .int x6), (7, .int x7), (8, .int w_s0)]) 4 (x4 + 1) dX9_holds_156 rfl rfl (by decide) rfl ?_
      refine B.goto_ 5 dX9_holds_159 (by decide) ?_
      refine B.lvs [(0, .ref r0), (1, .int x1), (2, .int x2), (3, .int 1), (4, .int (x4 + 1))] [0, 1, 2, 3, 4] rfl ?_
      exact h
  · replace h := h.2 q7
    refine B.iconst 1 dX9_holds_142 (by decide) ?_
    refine B.goto_ 147 dX9_holds_143 (by decide) ?_
    refine B.icmp_eq 154 dX9_holds_147 (by decide) (fun q9 => ?_) (fun q9 => ?_)
    · replace h := h.1 q9
      refine B.iconst 0 dX9_holds_154 (by decide) ?_
      refine B.istore_n (lv' := [(0, .ref r0), (1, .int x1), (2, .int x2), (3, .int 0), (4, .int x4), (5, .int x5), (6, .int x6), (7, .int x7), (8, .int w_s0)]) dX9_holds_155 rfl (by decide) rfl ?_
      refine B.iinc (lv' := [(0, .ref r0), (1, .int x1), (2, .int x2), (3, .int 0), (4, .int (x4 + 1)), (5, .int x5), (6, .int x6), (7, .int x7), (8, .int w_s0)]) 4 (x4 + 1) dX9_holds_156 rfl rfl (by decide) rfl ?_
      refine B.goto_ 5 dX9_holds_159 (by decide) ?_
      refine B.lvs [(0, .ref r0), (1, .int x1), (2, .int x2), (3, .int 0), (4, .int (x4 + 1))] [0, 1, 2, 3, 4] rfl ?_
      exact h
    · replace h := h.2 q9
      refine B.iconst 1 dX9_holds_150 (by decide) ?_
      refine B.goto_ 155 dX9_holds_151 (by decide) ?_
      refine B.istore_n (lv' := [(0, .ref r0), (1, .int x1), (2, .int x2), (3, .int 1), (4, .int x4), (5, .int x5), (6, .int x6), (7, .int x7), (8, .int w_s0)]) dX9_holds_155 rfl (by decide) rfl ?_
      refine B.iinc (lv' := [(0, .ref r0), (1, .int x1), (2, .int x2), (3, .int 1), (4, .int (x4 + 1)), (5, .int x5), (6, .int x6), (7, .int x7), (8, .int w_s0)]) 4 (x4 + 1) dX9_holds_156 rfl rfl (by decide) rfl ?_
      refine B.goto_ 5 dX9_holds_159 (by decide) ?_
      refine B.lvs [(0, .ref r0), (1, .int x1), (2, .int x2), (3, .int 1), (4, .int (x4 + 1))] [0, 1, 2, 3, 4] rfl ?_
      exact h
theorem s_X9_customOf_0 {g : GT} {S : ST} {P : PT} {I : IT} {Q : QT} {r0 : Nat} {x1 : Int32} (h : B g MX9_customOf 0 0 2 [(0, .ref r0), (1, .int x1), (2, .int 0)] [] S P I Q) : B g MX9_customOf 0 0 0 [(0, .ref r0), (1, .int x1)] [] S P I Q := by
  refine B.iconst 0 dX9_customOf_0 (by decide) ?_
  refine B.istore_n (lv' := [(0, .ref r0), (1, .int x1), (2, .int 0)]) dX9_customOf_1 rfl (by decide) rfl ?_
  exact h
theorem s_X9_customOf_2 {g : GT} {S : ST} {P : PT} {I : IT} {Q : QT} {r0 : Nat} {x1 : Int32} {x2 : Int32} (h : sT S r0 = 10 ∧ ∃ b2, P r0 0 = b2 + 1 ∧ sT S b2 = 40 ∧ ∃ j5, ix 6 j5 (sL S b2) ∧ (((I b2 j5) ≤ x2 → Q (some (.int 0)) S P I) ∧ (¬ (I b2 j5) ≤ x2 → T g MX9_holds 0 0 [.ref r0, .int x1, .int (500 + (18 * x2))] S P I (fun r S' P' I' => B g MX9_customOf 0 0 26 [(0, .ref r0), (1, .int x1), (2, .int x2)] (r.toList ++ []) S' P' I' Q)))) : B g MX9_customOf 0 0 2 [(0, .ref r0), (1, .int x1), (2, .int x2)] [] S P I Q := by
  refine B.iload_n 2 dX9_customOf_2 rfl rfl ?_
  refine B.aload_n 0 dX9_customOf_3 rfl rfl ?_
  obtain ⟨t1, h⟩ := h
  obtain ⟨b2, h⟩ := h
  obtain ⟨t3, h⟩ := h
  refine B.getP dX9_customOf_4 fl_9_7 t1 t3 ?_
  refine B.bipush 6 dX9_customOf_7 (by decide) ?_
  obtain ⟨t4, h⟩ := h
  obtain ⟨j5, h⟩ := h
  obtain ⟨t6, h⟩ := h
  refine B.iaload dX9_customOf_9 t4 t6 ?_
  refine B.icmp_ge 52 dX9_customOf_10 (by decide) (fun q7 => ?_) (fun q7 => ?_)
  · replace h := h.1 q7
    refine B.iconst 0 dX9_customOf_52 (by decide) ?_
    refine B.ireturn dX9_customOf_53 rfl rfl ?_
    exact h
  · replace h := h.2 q7
    refine B.aload_n 0 dX9_customOf_13 rfl rfl ?_
    refine B.iload_n 1 dX9_customOf_14 rfl rfl ?_
    refine B.sipush 500 dX9_customOf_15 (by decide) ?_
    refine B.bipush 18 dX9_customOf_18 (by decide) ?_
    refine B.iload_n 2 dX9_customOf_20 rfl rfl ?_
    refine B.imul dX9_customOf_21 ?_
    refine B.iadd dX9_customOf_22 ?_
    refine B.callV (M' := MX9_holds) (rc := 0) (rs := 0) (mc := 0) (ms := 0) (st := []) [.int x1, .int (500 + (18 * x2))] dX9_customOf_23 mv_X9_holds lk_X9_181 ⟨Nat.le_of_ble_eq_true rfl, Nat.le_of_ble_eq_true rfl⟩ rfl rfl (Nat.le_of_ble_eq_true rfl) t1 ?_
    exact h
theorem s_X9_customOf_26 {g : GT} {S : ST} {P : PT} {I : IT} {Q : QT} {r0 : Nat} {x1 : Int32} {x2 : Int32} {w_s0 : Int32} (h : ((w_s0 = 0 → B g MX9_customOf 0 0 2 [(0, .ref r0), (1, .int x1), (2, .int (x2 + 1))] [] S P I Q) ∧ (¬ w_s0 = 0 → sT S r0 = 10 ∧ ∃ b3, P r0 0 = b3 + 1 ∧ sT S b3 = 40 ∧ ∃ j6, ix ((500 + (18 * x2)) + 17) j6 (sL S b3) ∧ Q (some (.int (I b3 j6))) S P I))) : B g MX9_customOf 0 0 26 [(0, .ref r0), (1, .int x1), (2, .int x2)] [.int w_s0] S P I Q := by
  refine B.if_eq 46 dX9_customOf_26 (by decide) (fun q1 => ?_) (fun q1 => ?_)
  · replace h := h.1 q1
    refine B.iinc (lv' := [(0, .ref r0), (1, .int x1), (2, .int (x2 + 1))]) 2 (x2 + 1) dX9_customOf_46 rfl rfl (by decide) rfl ?_
    refine B.goto_ 2 dX9_customOf_49 (by decide) ?_
    exact h
  · replace h := h.2 q1
    refine B.aload_n 0 dX9_customOf_29 rfl rfl ?_
    obtain ⟨t2, h⟩ := h
    obtain ⟨b3, h⟩ := h
    obtain ⟨t4, h⟩ := h
    refine B.getP dX9_customOf_30 fl_9_7 t2 t4 ?_
    refine B.sipush 500 dX9_customOf_33 (by decide) ?_
    refine B.bipush 18 dX9_customOf_36 (by decide) ?_
    refine B.iload_n 2 dX9_customOf_38 rfl rfl ?_
    refine B.imul dX9_customOf_39 ?_
    refine B.iadd dX9_customOf_40 ?_
    refine B.bipush 17 dX9_customOf_41 (by decide) ?_
    refine B.iadd dX9_customOf_43 ?_
    obtain ⟨t5, h⟩ := h
    obtain ⟨j6, h⟩ := h
    obtain ⟨t7, h⟩ := h
    refine B.iaload dX9_customOf_44 t5 t7 ?_
    refine B.ireturn dX9_customOf_45 rfl rfl ?_
    exact h
theorem s_X9_isRipe_0 {g : GT} {S : ST} {P : PT} {I : IT} {Q : QT} {r0 : Nat} {x1 : Int32} (h : sT S r0 = 10 ∧ ∃ b2, P r0 0 = b2 + 1 ∧ sT S b2 = 40 ∧ ∃ j5, ix ((300 + (8 * x1)) + 2) j5 (sL S b2) ∧ ∃ j7, ix (50 + (I b2 j5)) j7 (sL S b2) ∧ ∃ j9, ix ((300 + (8 * x1)) + 6) j9 (sL S b2) ∧ Q (some (.int (wi (I b2 j9) ((8 * (10 - (I b2 j7))) + 20) (((8 * (10 - (I b2 j7))) + 20) + (6 * (I b2 j7)))))) S P I) : B g MX9_isRipe 0 0 0 [(0, .ref r0), (1, .int x1)] [] S P I Q := by
  refine B.aload_n 0 dX9_isRipe_0 rfl rfl ?_
  obtain ⟨t1, h⟩ := h
  obtain ⟨b2, h⟩ := h
  obtain ⟨t3, h⟩ := h
  refine B.getP dX9_isRipe_1 fl_9_7 t1 t3 ?_
  refine B.bipush 50 dX9_isRipe_4 (by decide) ?_
  refine B.aload_n 0 dX9_isRipe_6 rfl rfl ?_
  refine B.iload_n 1 dX9_isRipe_7 rfl rfl ?_
  refine B.iconst 2 dX9_isRipe_8 (by decide) ?_
  refine B.callV (M' := MX9_its) (rc := 0) (rs := 0) (mc := 0) (ms := 0) (st := [.int 50, .ref b2]) [.int x1, .int 2] dX9_isRipe_9 mv_X9_its lk_X9_130 ⟨Nat.le_of_ble_eq_true rfl, Nat.le_of_ble_eq_true rfl⟩ rfl rfl (Nat.le_of_ble_eq_true rfl) t1 ?_
  refine T_of rfl (Nat.le_of_ble_eq_true rfl) ?_
  show B g MX9_its 0 0 0 [(0, .ref r0), (1, .int x1), (2, .int 2)] [] S P I _
  refine B.aload_n 0 dX9_its_0 rfl rfl ?_
  refine B.getP dX9_its_1 fl_9_7 t1 t3 ?_
  refine B.sipush 300 dX9_its_4 (by decide) ?_
  refine B.bipush 8 dX9_its_7 (by decide) ?_
  refine B.iload_n 1 dX9_its_9 rfl rfl ?_
  refine B.imul dX9_its_10 ?_
  refine B.iadd dX9_its_11 ?_
  refine B.iload_n 2 dX9_its_12 rfl rfl ?_
  refine B.iadd dX9_its_13 ?_
  obtain ⟨t4, h⟩ := h
  obtain ⟨j5, h⟩ := h
  obtain ⟨t6, h⟩ := h
  refine B.iaload dX9_its_14 t4 t6 ?_
  refine B.ireturn dX9_its_15 rfl rfl ?_
  show B g MX9_isRipe 0 0 12 [(0, .ref r0), (1, .int x1)] [.int (I b2 j5), .int 50, .ref b2] S P I _
  refine B.iadd dX9_isRipe_12 ?_
  obtain ⟨j7, h⟩ := h
  obtain ⟨t8, h⟩ := h
  refine B.iaload dX9_isRipe_13 t4 t8 ?_
  refine B.istore_n (lv' := [(0, .ref r0), (1, .int x1), (2, .int (I b2 j7))]) dX9_isRipe_14 rfl (by decide) rfl ?_
  refine B.bipush 8 dX9_isRipe_15 (by decide) ?_
  refine B.bipush 10 dX9_isRipe_17 (by decide) ?_
  refine B.iload_n 2 dX9_isRipe_19 rfl rfl ?_
  refine B.isub dX9_isRipe_20 ?_
  refine B.imul dX9_isRipe_21 ?_
  refine B.bipush 20 dX9_isRipe_22 (by decide) ?_
  refine B.iadd dX9_isRipe_24 ?_
  refine B.istore_n (lv' := [(0, .ref r0), (1, .int x1), (2, .int (I b2 j7)), (3, .int ((8 * (10 - (I b2 j7))) + 20))]) dX9_isRipe_25 rfl (by decide) rfl ?_
  refine B.aload_n 0 dX9_isRipe_26 rfl rfl ?_
  refine B.iload_n 1 dX9_isRipe_27 rfl rfl ?_
  refine B.bipush 6 dX9_isRipe_28 (by decide) ?_
  refine B.callV (M' := MX9_its) (rc := 0) (rs := 0) (mc := 0) (ms := 0) (st := []) [.int x1, .int 6] dX9_isRipe_30 mv_X9_its lk_X9_130 ⟨Nat.le_of_ble_eq_true rfl, Nat.le_of_ble_eq_true rfl⟩ rfl rfl (Nat.le_of_ble_eq_true rfl) t1 ?_
  refine T_of rfl (Nat.le_of_ble_eq_true rfl) ?_
  show B g MX9_its 0 0 0 [(0, .ref r0), (1, .int x1), (2, .int 6)] [] S P I _
  refine B.aload_n 0 dX9_its_0 rfl rfl ?_
  refine B.getP dX9_its_1 fl_9_7 t1 t3 ?_
  refine B.sipush 300 dX9_its_4 (by decide) ?_
  refine B.bipush 8 dX9_its_7 (by decide) ?_
  refine B.iload_n 1 dX9_its_9 rfl rfl ?_
  refine B.imul dX9_its_10 ?_
  refine B.iadd dX9_its_11 ?_
  refine B.iload_n 2 dX9_its_12 rfl rfl ?_
  refine B.iadd dX9_its_13 ?_
  obtain ⟨j9, h⟩ := h
  obtain ⟨t10, h⟩ := h
  refine B.iaload dX9_its_14 t4 t10 ?_
  refine B.ireturn dX9_its_15 rfl rfl ?_
  show B g MX9_isRipe 0 0 33 [(0, .ref r0), (1, .int x1), (2, .int (I b2 j7)), (3, .int ((8 * (10 - (I b2 j7))) + 20))] [.int (I b2 j9)] S P I _
  refine B.iload_n 3 dX9_isRipe_33 rfl rfl ?_
  refine B.iload_n 3 dX9_isRipe_34 rfl rfl ?_
  refine B.bipush 6 dX9_isRipe_35 (by decide) ?_
  refine B.iload_n 2 dX9_isRipe_37 rfl rfl ?_
  refine B.imul dX9_isRipe_38 ?_
  refine B.iadd dX9_isRipe_39 ?_
  refine B.callS (M' := MX9_isIn) (rc := 0) (rs := 0) (mc := 0) (ms := 0) (st := []) [.int (I b2 j9), .int ((8 * (10 - (I b2 j7))) + 20), .int (((8 * (10 - (I b2 j7))) + 20) + (6 * (I b2 j7)))] dX9_isRipe_40 ms_X9_isIn lk_X9_103 ⟨Nat.le_of_ble_eq_true rfl, Nat.le_of_ble_eq_true rfl⟩ rfl rfl (Nat.le_of_ble_eq_true rfl) (t_isIn ?_)
  show B g MX9_isRipe 0 0 43 [(0, .ref r0), (1, .int x1), (2, .int (I b2 j7)), (3, .int ((8 * (10 - (I b2 j7))) + 20))] [.int (wi (I b2 j9) ((8 * (10 - (I b2 j7))) + 20) (((8 * (10 - (I b2 j7))) + 20) + (6 * (I b2 j7))))] S P I _
  refine B.ireturn dX9_isRipe_43 rfl (nar_z (wi_01 _ _ _)) ?_
  exact h
theorem s_X9_open_0 {g : GT} {S : ST} {P : PT} {I : IT} {Q : QT} {r0 : Nat} (h : sT S r0 = 10 ∧ T g MX9_greatestHeat 0 0 [.ref r0] S P I (fun r S' P' I' => B g MX9_open 0 0 4 [(0, .ref r0)] (r.toList ++ []) S' P' I' Q)) : B g MX9_open 0 0 0 [(0, .ref r0)] [] S P I Q := by
  refine B.aload_n 0 dX9_open_0 rfl rfl ?_
  obtain ⟨t1, h⟩ := h
  refine B.callV (M' := MX9_greatestHeat) (rc := 0) (rs := 0) (mc := 0) (ms := 0) (st := []) [] dX9_open_1 mv_X9_greatestHeat lk_X9_160 ⟨Nat.le_of_ble_eq_true rfl, Nat.le_of_ble_eq_true rfl⟩ rfl rfl (Nat.le_of_ble_eq_true rfl) t1 ?_
  exact h
theorem s_X9_open_4 {g : GT} {S : ST} {P : PT} {I : IT} {Q : QT} {r0 : Nat} {w_s0 : Int32} (h : ((200 < w_s0 → Q (some (.int (-1))) S P I) ∧ (¬ 200 < w_s0 → sT S r0 = 10 ∧ T g MX9_standing 0 0 [.ref r0] S P I (fun r S' P' I' => B g MX9_open 0 0 14 [(0, .ref r0)] (r.toList ++ []) S' P' I' Q)))) : B g MX9_open 0 0 4 [(0, .ref r0)] [.int w_s0] S P I Q := by
  refine B.sipush 200 dX9_open_4 (by decide) ?_
  refine B.icmp_gt 17 dX9_open_7 (by decide) (fun q1 => ?_) (fun q1 => ?_)
  · replace h := h.1 q1
    refine B.iconst (-1) dX9_open_17 (by decide) ?_
    refine B.ireturn dX9_open_18 rfl rfl ?_
    exact h
  · replace h := h.2 q1
    refine B.aload_n 0 dX9_open_10 rfl rfl ?_
    obtain ⟨t2, h⟩ := h
    refine B.callV (M' := MX9_standing) (rc := 0) (rs := 0) (mc := 0) (ms := 0) (st := []) [] dX9_open_11 mv_X9_standing lk_X9_137 ⟨Nat.le_of_ble_eq_true rfl, Nat.le_of_ble_eq_true rfl⟩ rfl rfl (Nat.le_of_ble_eq_true rfl) t2 ?_
    exact h
theorem s_X9_open_14 {g : GT} {S : ST} {P : PT} {I : IT} {Q : QT} {r0 : Nat} {w_s0 : Int32} (h : ((¬ w_s0 = 0 → B g MX9_open 0 0 23 [(0, .ref r0), (1, .int 0), (2, .int 0)] [] S P I Q) ∧ (w_s0 = 0 → Q (some (.int (-1))) S P I))) : B g MX9_open 0 0 14 [(0, .ref r0)] [.int w_s0] S P I Q := by
  refine B.if_ne 19 dX9_open_14 (by decide) (fun q1 => ?_) (fun q1 => ?_)
  · replace h := h.1 q1
    refine B.iconst 0 dX9_open_19 (by decide) ?_
    refine B.istore_n (lv' := [(0, .ref r0), (1, .int 0)]) dX9_open_20 rfl (by decide) rfl ?_
    refine B.iconst 0 dX9_open_21 (by decide) ?_
    refine B.istore_n (lv' := [(0, .ref r0), (1, .int 0), (2, .int 0)]) dX9_open_22 rfl (by decide) rfl ?_
    exact h
  · replace h := h.2 q1
    refine B.iconst (-1) dX9_open_17 (by decide) ?_
    refine B.ireturn dX9_open_18 rfl rfl ?_
    exact h
theorem s_X9_open_23 {g : GT} {S : ST} {P : PT} {I : IT} {Q : QT} {r0 : Nat} {x1 : Int32} {x2 : Int32} (h : sT S r0 = 10 ∧ ∃ b2, P r0 0 = b2 + 1 ∧ sT S b2 = 40 ∧ ∃ j5, ix 1 j5 (sL S b2) ∧ (((I b2 j5) ≤ x2 → B g MX9_open 0 0 62 [(0, .ref r0), (1, .int x1), (2, .int 0), (3, .int 0)] [] S P I Q) ∧ (¬ (I b2 j5) ≤ x2 → ∃ j8, ix ((300 + (8 * x2)) + 4) j8 (sL S b2) ∧ (((I b2 j8) < 0 → B g MX9_open 0 0 23 [(0, .ref r0), (1, .int x1), (2, .int (x2 + 1))] [] S P I Q) ∧ (¬ (I b2 j8) < 0 → T g MX9_gives 0 0 [.ref r0, .int x2] S P I (fun r S' P' I' => B g MX9_open 0 0 46 [(0, .ref r0), (1, .int x1), (2, .int x2)] (r.toList ++ []) S' P' I' Q)))))) : B g MX9_open 0 0 23 [(0, .ref r0), (1, .int x1), (2, .int x2)] [] S P I Q := by
  refine B.iload_n 2 dX9_open_23 rfl rfl ?_
  refine B.aload_n 0 dX9_open_24 rfl rfl ?_
  obtain ⟨t1, h⟩ := h
  obtain ⟨b2, h⟩ := h
  obtain ⟨t3, h⟩ := h
  refine B.getP dX9_open_25 fl_9_7 t1 t3 ?_
  refine B.iconst 1 dX9_open_28 (by decide) ?_
  obtain ⟨t4, h⟩ := h
  obtain ⟨j5, h⟩ := h
  obtain ⟨t6, h⟩ := h
  refine B.iaload dX9_open_29 t4 t6 ?_
  refine B.icmp_ge 58 dX9_open_30 (by decide) (fun q7 => ?_) (fun q7 => ?_)
  · replace h := h.1 q7
    refine B.iconst 0 dX9_open_58 (by decide) ?_
    refine B.istore_n (lv' := [(0, .ref r0), (1, .int x1), (2, .int 0)]) dX9_open_59 rfl (by decide) rfl ?_
    refine B.iconst 0 dX9_open_60 (by decide) ?_
    refine B.istore_n (lv' := [(0, .ref r0), (1, .int x1), (2, .int 0), (3, .int 0)]) dX9_open_61 rfl (by decide) rfl ?_
    exact h
  · replace h := h.2 q7
    refine B.aload_n 0 dX9_open_33 rfl rfl ?_
    refine B.iload_n 2 dX9_open_34 rfl rfl ?_
    refine B.callV (M' := MX9_stands) (rc := 0) (rs := 0) (mc := 0) (ms := 0) (st := []) [.int x2] dX9_open_35 mv_X9_stands lk_X9_134 ⟨Nat.le_of_ble_eq_true rfl, Nat.le_of_ble_eq_true rfl⟩ rfl rfl (Nat.le_of_ble_eq_true rfl) t1 ?_
    refine T_of rfl (Nat.le_of_ble_eq_true rfl) ?_
    show B g MX9_stands 0 0 0 [(0, .ref r0), (1, .int x2)] [] S P I _
    refine B.aload_n 0 dX9_stands_0 rfl rfl ?_
    refine B.iload_n 1 dX9_stands_1 rfl rfl ?_
    refine B.iconst 4 dX9_stands_2 (by decide) ?_
    refine B.callV (M' := MX9_its) (rc := 0) (rs := 0) (mc := 0) (ms := 0) (st := []) [.int x2, .int 4] dX9_stands_3 mv_X9_its lk_X9_130 ⟨Nat.le_of_ble_eq_true rfl, Nat.le_of_ble_eq_true rfl⟩ rfl rfl (Nat.le_of_ble_eq_true rfl) t1 ?_
    refine T_of rfl (Nat.le_of_ble_eq_true rfl) ?_
    show B g MX9_its 0 0 0 [(0, .ref r0), (1, .int x2), (2, .int 4)] [] S P I _
    refine B.aload_n 0 dX9_its_0 rfl rfl ?_
    refine B.getP dX9_its_1 fl_9_7 t1 t3 ?_
    refine B.sipush 300 dX9_its_4 (by decide) ?_
    refine B.bipush 8 dX9_its_7 (by decide) ?_
    refine B.iload_n 1 dX9_its_9 rfl rfl ?_
    refine B.imul dX9_its_10 ?_
    refine B.iadd dX9_its_11 ?_
    refine B.iload_n 2 dX9_its_12 rfl rfl ?_
    refine B.iadd dX9_its_13 ?_
    obtain ⟨j8, h⟩ := h
    obtain ⟨t9, h⟩ := h
    refine B.iaload dX9_its_14 t4 t9 ?_
    refine B.ireturn dX9_its_15 rfl rfl ?_
    show B g MX9_stands 0 0 6 [(0, .ref r0), (1, .int x2)] [.int (I b2 j8)] S P I _
    refine B.if_lt 13 dX9_stands_6 (by decide) (fun q10 => ?_) (fun q10 => ?_)
    · replace h := h.1 q10
      refine B.iconst 0 dX9_stands_13 (by decide) ?_
      refine B.ireturn dX9_stands_14 rfl rfl ?_
      show B g MX9_open 0 0 38 [(0, .ref r0), (1, .int x1), (2, .int x2)] [.int 0] S P I _
      refine B.if_eq 52 dX9_open_38 (by decide) (fun _ => ?_) (fun q => absurd q (by decide))
      refine B.iinc (lv' := [(0, .ref r0), (1, .int x1), (2, .int (x2 + 1))]) 2 (x2 + 1) dX9_open_52 rfl rfl (by decide) rfl ?_
      refine B.goto_ 23 dX9_open_55 (by decide) ?_
      exact h
    · replace h := h.2 q10
      refine B.iconst 1 dX9_stands_9 (by decide) ?_
      refine B.goto_ 14 dX9_stands_10 (by decide) ?_
      refine B.ireturn dX9_stands_14 rfl rfl ?_
      show B g MX9_open 0 0 38 [(0, .ref r0), (1, .int x1), (2, .int x2)] [.int 1] S P I _
      refine B.if_eq 52 dX9_open_38 (by decide) (fun q => absurd q (by decide)) (fun _ => ?_)
      refine B.aload_n 0 dX9_open_41 rfl rfl ?_
      refine B.iload_n 2 dX9_open_42 rfl rfl ?_
      refine B.callV (M' := MX9_gives) (rc := 0) (rs := 0) (mc := 0) (ms := 0) (st := []) [.int x2] dX9_open_43 mv_X9_gives lk_X9_190 ⟨Nat.le_of_ble_eq_true rfl, Nat.le_of_ble_eq_true rfl⟩ rfl rfl (Nat.le_of_ble_eq_true rfl) t1 ?_
      exact h
theorem s_X9_open_46 {g : GT} {S : ST} {P : PT} {I : IT} {Q : QT} {r0 : Nat} {x1 : Int32} {x2 : Int32} {w_s0 : Int32} (h : ((w_s0 = 0 → B g MX9_open 0 0 23 [(0, .ref r0), (1, .int x1), (2, .int (x2 + 1))] [] S P I Q) ∧ (¬ w_s0 = 0 → B g MX9_open 0 0 23 [(0, .ref r0), (1, .int (x1 + 1)), (2, .int (x2 + 1))] [] S P I Q))) : B g MX9_open 0 0 46 [(0, .ref r0), (1, .int x1), (2, .int x2)] [.int w_s0] S P I Q := by
  refine B.if_eq 52 dX9_open_46 (by decide) (fun q1 => ?_) (fun q1 => ?_)
  · replace h := h.1 q1
    refine B.iinc (lv' := [(0, .ref r0), (1, .int x1), (2, .int (x2 + 1))]) 2 (x2 + 1) dX9_open_52 rfl rfl (by decide) rfl ?_
    refine B.goto_ 23 dX9_open_55 (by decide) ?_
    exact h
  · replace h := h.2 q1
    refine B.iinc (lv' := [(0, .ref r0), (1, .int (x1 + 1)), (2, .int x2)]) 1 (x1 + 1) dX9_open_49 rfl rfl (by decide) rfl ?_
    refine B.iinc (lv' := [(0, .ref r0), (1, .int (x1 + 1)), (2, .int (x2 + 1))]) 2 (x2 + 1) dX9_open_52 rfl rfl (by decide) rfl ?_
    refine B.goto_ 23 dX9_open_55 (by decide) ?_
    exact h
theorem s_X9_open_62 {g : GT} {S : ST} {P : PT} {I : IT} {Q : QT} {r0 : Nat} {x1 : Int32} {x2 : Int32} {x3 : Int32} (h : sT S r0 = 10 ∧ ∃ b2, P r0 0 = b2 + 1 ∧ sT S b2 = 40 ∧ ∃ j5, ix 1 j5 (sL S b2) ∧ (((I b2 j5) ≤ x3 → ∃ j8, ix 5 j8 (sL S b2) ∧ Q (some (.int x1)) S P (u2 (u2 I b2 j5 x2) b2 j8 (((u2 I b2 j5 x2) b2 j8) + 1))) ∧ (¬ (I b2 j5) ≤ x3 → ∃ j10, ix ((300 + (8 * x3)) + 4) j10 (sL S b2) ∧ (((I b2 j10) < 0 → B g MX9_open 0 0 86 [(0, .ref r0), (1, .int x1), (2, .int x2), (3, .int x3), (4, .int 0)] [] S P I Q) ∧ (¬ (I b2 j10) < 0 → B g MX9_open 0 0 62 [(0, .ref r0), (1, .int x1), (2, .int x2), (3, .int (x3 + 1))] [] S P I Q))))) : B g MX9_open 0 0 62 [(0, .ref r0), (1, .int x1), (2, .int x2), (3, .int x3)] [] S P I Q := by
  refine B.iload_n 3 dX9_open_62 rfl rfl ?_
  refine B.aload_n 0 dX9_open_63 rfl rfl ?_
  obtain ⟨t1, h⟩ := h
  obtain ⟨b2, h⟩ := h
  obtain ⟨t3, h⟩ := h
  refine B.getP dX9_open_64 fl_9_7 t1 t3 ?_
  refine B.iconst 1 dX9_open_67 (by decide) ?_
  obtain ⟨t4, h⟩ := h
  obtain ⟨j5, h⟩ := h
  obtain ⟨t6, h⟩ := h
  refine B.iaload dX9_open_68 t4 t6 ?_
  refine B.icmp_ge 122 dX9_open_69 (by decide) (fun q7 => ?_) (fun q7 => ?_)
  · replace h := h.1 q7
    refine B.aload_n 0 dX9_open_122 rfl rfl ?_
    refine B.getP dX9_open_123 fl_9_7 t1 t3 ?_
    refine B.iconst 1 dX9_open_126 (by decide) ?_
    refine B.iload_n 2 dX9_open_127 rfl rfl ?_
    refine B.iastore dX9_open_128 t4 t6 ?_
    refine B.aload_n 0 dX9_open_129 rfl rfl ?_
    refine B.getP dX9_open_130 fl_9_7 t1 t3 ?_
    refine B.iconst 5 dX9_open_133 (by decide) ?_
    refine B.dup2 dX9_open_134 rfl rfl ?_
    obtain ⟨j8, h⟩ := h
    obtain ⟨t9, h⟩ := h
    refine B.iaload dX9_open_135 t4 t9 ?_
    refine B.iconst 1 dX9_open_136 (by decide) ?_
    refine B.iadd dX9_open_137 ?_
    refine B.iastore dX9_open_138 t4 t9 ?_
    refine B.iload_n 1 dX9_open_139 rfl rfl ?_
    refine B.ireturn dX9_open_140 rfl rfl ?_
    exact h
  · replace h := h.2 q7
    refine B.aload_n 0 dX9_open_72 rfl rfl ?_
    refine B.iload_n 3 dX9_open_73 rfl rfl ?_
    refine B.callV (M' := MX9_stands) (rc := 0) (rs := 0) (mc := 0) (ms := 0) (st := []) [.int x3] dX9_open_74 mv_X9_stands lk_X9_134 ⟨Nat.le_of_ble_eq_true rfl, Nat.le_of_ble_eq_true rfl⟩ rfl rfl (Nat.le_of_ble_eq_true rfl) t1 ?_
    refine T_of rfl (Nat.le_of_ble_eq_true rfl) ?_
    show B g MX9_stands 0 0 0 [(0, .ref r0), (1, .int x3)] [] S P I _
    refine B.aload_n 0 dX9_stands_0 rfl rfl ?_
    refine B.iload_n 1 dX9_stands_1 rfl rfl ?_
    refine B.iconst 4 dX9_stands_2 (by decide) ?_
    refine B.callV (M' := MX9_its) (rc := 0) (rs := 0) (mc := 0) (ms := 0) (st := []) [.int x3, .int 4] dX9_stands_3 mv_X9_its lk_X9_130 ⟨Nat.le_of_ble_eq_true rfl, Nat.le_of_ble_eq_true rfl⟩ rfl rfl (Nat.le_of_ble_eq_true rfl) t1 ?_
    refine T_of rfl (Nat.le_of_ble_eq_true rfl) ?_
    show B g MX9_its 0 0 0 [(0, .ref r0), (1, .int x3), (2, .int 4)] [] S P I _
    refine B.aload_n 0 dX9_its_0 rfl rfl ?_
    refine B.getP dX9_its_1 fl_9_7 t1 t3 ?_
    refine B.sipush 300 dX9_its_4 (by decide) ?_
    refine B.bipush 8 dX9_its_7 (by decide) ?_
    refine B.iload_n 1 dX9_its_9 rfl rfl ?_
    refine B.imul dX9_its_10 ?_
    refine B.iadd dX9_its_11 ?_
    refine B.iload_n 2 dX9_its_12 rfl rfl ?_
    refine B.iadd dX9_its_13 ?_
    obtain ⟨j10, h⟩ := h
    obtain ⟨t11, h⟩ := h
    refine B.iaload dX9_its_14 t4 t11 ?_
    refine B.ireturn dX9_its_15 rfl rfl ?_
    show B g MX9_stands 0 0 6 [(0, .ref r0), (1, .int x3)] [.int (I b2 j10)] S P I _
    refine B.if_lt 13 dX9_stands_6 (by decide) (fun q12 => ?_) (fun q12 => ?_)
    · replace h := h.1 q12
      refine B.iconst 0 dX9_stands_13 (by decide) ?_
      refine B.ireturn dX9_stands_14 rfl rfl ?_
      show B g MX9_open 0 0 77 [(0, .ref r0), (1, .int x1), (2, .int x2), (3, .int x3)] [.int 0] S P I _
      refine B.if_eq 83 dX9_open_77 (by decide) (fun _ => ?_) (fun q => absurd q (by decide))
      refine B.iconst 0 dX9_open_83 (by decide) ?_
      refine B.istore (lv' := [(0, .ref r0), (1, .int x1), (2, .int x2), (3, .int x3), (4, .int 0)]) dX9_open_84 (by decide) rfl ?_
      exact h
    · replace h := h.2 q12
      refine B.iconst 1 dX9_stands_9 (by decide) ?_
      refine B.goto_ 14 dX9_stands_10 (by decide) ?_
      refine B.ireturn dX9_stands_14 rfl rfl ?_
      show B g MX9_open 0 0 77 [(0, .ref r0), (1, .int x1), (2, .int x2), (3, .int x3)] [.int 1] S P I _
      refine B.if_eq 83 dX9_open_77 (by decide) (fun q => absurd q (by decide)) (fun _ => ?_)
      refine B.goto_ 116 dX9_open_80 (by decide) ?_
      refine B.iinc (lv' := [(0, .ref r0), (1, .int x1), (2, .int x2), (3, .int (x3 + 1))]) 3 (x3 + 1) dX9_open_116 rfl rfl (by decide) rfl ?_
      refine B.goto_ 62 dX9_open_119 (by decide) ?_
      exact h
theorem s_X9_open_86 {g : GT} {S : ST} {P : PT} {I : IT} {Q : QT} {r0 : Nat} {x1 : Int32} {x2 : Int32} {x3 : Int32} {x4 : Int32} (h : ((8 ≤ x4 → B g MX9_open 0 0 62 [(0, .ref r0), (1, .int x1), (2, .int (x2 + 1)), (3, .int (x3 + 1))] [] S P I Q) ∧ (¬ 8 ≤ x4 → sT S r0 = 10 ∧ ∃ b3, P r0 0 = b3 + 1 ∧ sT S b3 = 40 ∧ ∃ j6, ix ((300 + (8 * x3)) + x4) j6 (sL S b3) ∧ ∃ j8, ix ((300 + (8 * x2)) + x4) j8 (sL S b3) ∧ B g MX9_open 0 0 86 [(0, .ref r0), (1, .int x1), (2, .int x2), (3, .int x3), (4, .int (x4 + 1))] [] S P (u2 I b3 j8 (I b3 j6)) Q))) : B g MX9_open 0 0 86 [(0, .ref r0), (1, .int x1), (2, .int x2), (3, .int x3), (4, .int x4)] [] S P I Q := by
  refine B.iload 4 dX9_open_86 rfl ?_
  refine B.bipush 8 dX9_open_88 (by decide) ?_
  refine B.icmp_ge 113 dX9_open_90 (by decide) (fun q1 => ?_) (fun q1 => ?_)
  · replace h := h.1 q1
    refine B.iinc (lv' := [(0, .ref r0), (1, .int x1), (2, .int (x2 + 1)), (3, .int x3), (4, .int x4)]) 2 (x2 + 1) dX9_open_113 rfl rfl (by decide) rfl ?_
    refine B.iinc (lv' := [(0, .ref r0), (1, .int x1), (2, .int (x2 + 1)), (3, .int (x3 + 1)), (4, .int x4)]) 3 (x3 + 1) dX9_open_116 rfl rfl (by decide) rfl ?_
    refine B.goto_ 62 dX9_open_119 (by decide) ?_
    refine B.lvs [(0, .ref r0), (1, .int x1), (2, .int (x2 + 1)), (3, .int (x3 + 1))] [0, 1, 2, 3] rfl ?_
    exact h
  · replace h := h.2 q1
    refine B.aload_n 0 dX9_open_93 rfl rfl ?_
    refine B.iload_n 2 dX9_open_94 rfl rfl ?_
    refine B.iload 4 dX9_open_95 rfl ?_
    refine B.aload_n 0 dX9_open_97 rfl rfl ?_
    refine B.iload_n 3 dX9_open_98 rfl rfl ?_
    refine B.iload 4 dX9_open_99 rfl ?_
    obtain ⟨t2, h⟩ := h
    refine B.callV (M' := MX9_its) (rc := 0) (rs := 0) (mc := 0) (ms := 0) (st := [.int x4, .int x2, .ref r0]) [.int x3, .int x4] dX9_open_101 mv_X9_its lk_X9_130 ⟨Nat.le_of_ble_eq_true rfl, Nat.le_of_ble_eq_true rfl⟩ rfl rfl (Nat.le_of_ble_eq_true rfl) t2 ?_
    refine T_of rfl (Nat.le_of_ble_eq_true rfl) ?_
    show B g MX9_its 0 0 0 [(0, .ref r0), (1, .int x3), (2, .int x4)] [] S P I _
    refine B.aload_n 0 dX9_its_0 rfl rfl ?_
    obtain ⟨b3, h⟩ := h
    obtain ⟨t4, h⟩ := h
    refine B.getP dX9_its_1 fl_9_7 t2 t4 ?_
    refine B.sipush 300 dX9_its_4 (by decide) ?_
    refine B.bipush 8 dX9_its_7 (by decide) ?_
    refine B.iload_n 1 dX9_its_9 rfl rfl ?_
    refine B.imul dX9_its_10 ?_
    refine B.iadd dX9_its_11 ?_
    refine B.iload_n 2 dX9_its_12 rfl rfl ?_
    refine B.iadd dX9_its_13 ?_
    obtain ⟨t5, h⟩ := h
    obtain ⟨j6, h⟩ := h
    obtain ⟨t7, h⟩ := h
    refine B.iaload dX9_its_14 t5 t7 ?_
    refine B.ireturn dX9_its_15 rfl rfl ?_
    show B g MX9_open 0 0 104 [(0, .ref r0), (1, .int x1), (2, .int x2), (3, .int x3), (4, .int x4)] [.int (I b3 j6), .int x4, .int x2, .ref r0] S P I _
    refine B.callV (M' := MX9_sets) (rc := 0) (rs := 0) (mc := 0) (ms := 0) (st := []) [.int x2, .int x4, .int (I b3 j6)] dX9_open_104 mv_X9_sets lk_X9_147 ⟨Nat.le_of_ble_eq_true rfl, Nat.le_of_ble_eq_true rfl⟩ rfl rfl (Nat.le_of_ble_eq_true rfl) t2 ?_
    refine T_of rfl (Nat.le_of_ble_eq_true rfl) ?_
    show B g MX9_sets 0 0 0 [(0, .ref r0), (1, .int x2), (2, .int x4), (3, .int (I b3 j6))] [] S P I _
    refine B.aload_n 0 dX9_sets_0 rfl rfl ?_
    refine B.getP dX9_sets_1 fl_9_7 t2 t4 ?_
    refine B.sipush 300 dX9_sets_4 (by decide) ?_
    refine B.bipush 8 dX9_sets_7 (by decide) ?_
    refine B.iload_n 1 dX9_sets_9 rfl rfl ?_
    refine B.imul dX9_sets_10 ?_
    refine B.iadd dX9_sets_11 ?_
    refine B.iload_n 2 dX9_sets_12 rfl rfl ?_
    refine B.iadd dX9_sets_13 ?_
    refine B.iload_n 3 dX9_sets_14 rfl rfl ?_
    obtain ⟨j8, h⟩ := h
    obtain ⟨t9, h⟩ := h
    refine B.iastore dX9_sets_15 t5 t9 ?_
    refine B.return_ dX9_sets_16 rfl ?_
    show B g MX9_open 0 0 107 [(0, .ref r0), (1, .int x1), (2, .int x2), (3, .int x3), (4, .int x4)] [] S P (u2 I b3 j8 (I b3 j6)) _
    refine B.iinc (lv' := [(0, .ref r0), (1, .int x1), (2, .int x2), (3, .int x3), (4, .int (x4 + 1))]) 4 (x4 + 1) dX9_open_107 rfl rfl (by decide) rfl ?_
    refine B.goto_ 86 dX9_open_110 (by decide) ?_
    exact h
theorem s_X9_at_0 {g : GT} {S : ST} {P : PT} {I : IT} {Q : QT} {r0 : Nat} {x1 : Int32} {x2 : Int32} (h : sT S r0 = 10 ∧ ∃ b2, P r0 0 = b2 + 1 ∧ sT S b2 = 40 ∧ ∃ j5, ix 2 j5 (sL S b2) ∧ (((wi x1 0 ((I b2 j5) - 1)) = 0 → Q (some (.int (-1))) S P I) ∧ (¬ (wi x1 0 ((I b2 j5) - 1)) = 0 → (((wi x2 0 3) = 0 → Q (some (.int (-1))) S P I) ∧ (¬ (wi x2 0 3) = 0 → T g MX9_at0 0 0 [.ref r0, .int ((4 * x1) + x2)] S P I (fun r S' P' I' => B g MX9_at 0 0 18 [(0, .ref r0), (1, .int x1), (2, .int x2)] (r.toList ++ []) S' P' I' Q)))))) : B g MX9_at 0 0 0 [(0, .ref r0), (1, .int x1), (2, .int x2)] [] S P I Q := by
  refine B.aload_n 0 dX9_at_0 rfl rfl ?_
  refine B.iload_n 1 dX9_at_1 rfl rfl ?_
  refine B.iload_n 2 dX9_at_2 rfl rfl ?_
  obtain ⟨t1, h⟩ := h
  refine B.callV (M' := MX9_isPlace) (rc := 0) (rs := 0) (mc := 0) (ms := 0) (st := []) [.int x1, .int x2] dX9_at_3 mv_X9_isPlace lk_X9_140 ⟨Nat.le_of_ble_eq_true rfl, Nat.le_of_ble_eq_true rfl⟩ rfl rfl (Nat.le_of_ble_eq_true rfl) t1 ?_
  refine T_of rfl (Nat.le_of_ble_eq_true rfl) ?_
  show B g MX9_isPlace 0 0 0 [(0, .ref r0), (1, .int x1), (2, .int x2)] [] S P I _
  refine B.iload_n 1 dX9_isPlace_0 rfl rfl ?_
  refine B.iconst 0 dX9_isPlace_1 (by decide) ?_
  refine B.aload_n 0 dX9_isPlace_2 rfl rfl ?_
  obtain ⟨b2, h⟩ := h
  obtain ⟨t3, h⟩ := h
  refine B.getP dX9_isPlace_3 fl_9_7 t1 t3 ?_
  refine B.iconst 2 dX9_isPlace_6 (by decide) ?_
  obtain ⟨t4, h⟩ := h
  obtain ⟨j5, h⟩ := h
  obtain ⟨t6, h⟩ := h
  refine B.iaload dX9_isPlace_7 t4 t6 ?_
  refine B.iconst 1 dX9_isPlace_8 (by decide) ?_
  refine B.isub dX9_isPlace_9 ?_
  refine B.callS (M' := MX9_isIn) (rc := 0) (rs := 0) (mc := 0) (ms := 0) (st := []) [.int x1, .int 0, .int ((I b2 j5) - 1)] dX9_isPlace_10 ms_X9_isIn lk_X9_103 ⟨Nat.le_of_ble_eq_true rfl, Nat.le_of_ble_eq_true rfl⟩ rfl rfl (Nat.le_of_ble_eq_true rfl) (t_isIn ?_)
  show B g MX9_isPlace 0 0 13 [(0, .ref r0), (1, .int x1), (2, .int x2)] [.int (wi x1 0 ((I b2 j5) - 1))] S P I _
  refine B.if_eq 29 dX9_isPlace_13 (by decide) (fun q7 => ?_) (fun q7 => ?_)
  · replace h := h.1 q7
    refine B.iconst 0 dX9_isPlace_29 (by decide) ?_
    refine B.ireturn dX9_isPlace_30 rfl rfl ?_
    show B g MX9_at 0 0 6 [(0, .ref r0), (1, .int x1), (2, .int x2)] [.int 0] S P I _
    refine B.if_eq 21 dX9_at_6 (by decide) (fun _ => ?_) (fun q => absurd q (by decide))
    refine B.iconst (-1) dX9_at_21 (by decide) ?_
    refine B.ireturn dX9_at_22 rfl rfl ?_
    exact h
  · replace h := h.2 q7
    refine B.iload_n 2 dX9_isPlace_16 rfl rfl ?_
    refine B.iconst 0 dX9_isPlace_17 (by decide) ?_
    refine B.iconst 3 dX9_isPlace_18 (by decide) ?_
    refine B.callS (M' := MX9_isIn) (rc := 0) (rs := 0) (mc := 0) (ms := 0) (st := []) [.int x2, .int 0, .int 3] dX9_isPlace_19 ms_X9_isIn lk_X9_103 ⟨Nat.le_of_ble_eq_true rfl, Nat.le_of_ble_eq_true rfl⟩ rfl rfl (Nat.le_of_ble_eq_true rfl) (t_isIn ?_)
    show B g MX9_isPlace 0 0 22 [(0, .ref r0), (1, .int x1), (2, .int x2)] [.int (wi x2 0 3)] S P I _
    refine B.if_eq 29 dX9_isPlace_22 (by decide) (fun q8 => ?_) (fun q8 => ?_)
    · replace h := h.1 q8
      refine B.iconst 0 dX9_isPlace_29 (by decide) ?_
      refine B.ireturn dX9_isPlace_30 rfl rfl ?_
      show B g MX9_at 0 0 6 [(0, .ref r0), (1, .int x1), (2, .int x2)] [.int 0] S P I _
      refine B.if_eq 21 dX9_at_6 (by decide) (fun _ => ?_) (fun q => absurd q (by decide))
      refine B.iconst (-1) dX9_at_21 (by decide) ?_
      refine B.ireturn dX9_at_22 rfl rfl ?_
      exact h
    · replace h := h.2 q8
      refine B.iconst 1 dX9_isPlace_25 (by decide) ?_
      refine B.goto_ 30 dX9_isPlace_26 (by decide) ?_
      refine B.ireturn dX9_isPlace_30 rfl rfl ?_
      show B g MX9_at 0 0 6 [(0, .ref r0), (1, .int x1), (2, .int x2)] [.int 1] S P I _
      refine B.if_eq 21 dX9_at_6 (by decide) (fun q => absurd q (by decide)) (fun _ => ?_)
      refine B.aload_n 0 dX9_at_9 rfl rfl ?_
      refine B.iconst 4 dX9_at_10 (by decide) ?_
      refine B.iload_n 1 dX9_at_11 rfl rfl ?_
      refine B.imul dX9_at_12 ?_
      refine B.iload_n 2 dX9_at_13 rfl rfl ?_
      refine B.iadd dX9_at_14 ?_
      refine B.callV (M' := MX9_at0) (rc := 0) (rs := 0) (mc := 0) (ms := 0) (st := []) [.int ((4 * x1) + x2)] dX9_at_15 mv_X9_at0 lk_X9_151 ⟨Nat.le_of_ble_eq_true rfl, Nat.le_of_ble_eq_true rfl⟩ rfl rfl (Nat.le_of_ble_eq_true rfl) t1 ?_
      exact h
theorem s_X9_at_18 {g : GT} {S : ST} {P : PT} {I : IT} {Q : QT} {r0 : Nat} {x1 : Int32} {x2 : Int32} {w_s0 : Int32} (h : Q (some (.int w_s0)) S P I) : B g MX9_at 0 0 18 [(0, .ref r0), (1, .int x1), (2, .int x2)] [.int w_s0] S P I Q := by
  refine B.goto_ 22 dX9_at_18 (by decide) ?_
  refine B.ireturn dX9_at_22 rfl rfl ?_
  exact h
theorem s_X9_order_0 {g : GT} {S : ST} {P : PT} {I : IT} {Q : QT} {r0 : Nat} {x1 : Int32} {x2 : Int32} {x3 : Int32} {x4 : Int32} (h : sT S r0 = 10 ∧ ∃ b2, P r0 0 = b2 + 1 ∧ sT S b2 = 40 ∧ ∃ j5, ix 0 j5 (sL S b2) ∧ (((wi x1 0 ((I b2 j5) - 1)) = 0 → Q (some (.int (-1))) S P I) ∧ (¬ (wi x1 0 ((I b2 j5) - 1)) = 0 → ∃ j8, ix ((60 + (30 * x1)) + 4) j8 (sL S b2) ∧ (((I b2 j8) = 8 → Q (some (.int (-1))) S P I) ∧ (¬ (I b2 j8) = 8 → (((wi x2 1 30) = 0 → Q (some (.int (-1))) S P I) ∧ (¬ (wi x2 1 30) = 0 → (((wi x3 1 200) = 0 → Q (some (.int (-1))) S P I) ∧ (¬ (wi x3 1 200) = 0 → ((¬ (wi x4 1 999) = 0 → ∃ j14, ix (((60 + (30 * x1)) + 5) + (3 * (I b2 j8))) j14 (sL S b2) ∧ ∃ j16, ix ((((60 + (30 * x1)) + 5) + (3 * (I b2 j8))) + 1) j16 (sL S b2) ∧ ∃ j18, ix ((((60 + (30 * x1)) + 5) + (3 * (I b2 j8))) + 2) j18 (sL S b2) ∧ Q (some (.int (I b2 j8))) S P (u2 (u2 (u2 (u2 I b2 j14 x2) b2 j16 x3) b2 j18 x4) b2 j8 (((u2 (u2 (u2 I b2 j14 x2) b2 j16 x3) b2 j18 x4) b2 j8) + 1))) ∧ ((wi x4 1 999) = 0 → Q (some (.int (-1))) S P I))))))))))) : B g MX9_order 0 0 0 [(0, .ref r0), (1, .int x1), (2, .int x2), (3, .int x3), (4, .int x4)] [] S P I Q := by
  refine B.aload_n 0 dX9_order_0 rfl rfl ?_
  refine B.iload_n 1 dX9_order_1 rfl rfl ?_
  obtain ⟨t1, h⟩ := h
  refine B.callV (M' := MX9_isHouse) (rc := 0) (rs := 0) (mc := 0) (ms := 0) (st := []) [.int x1] dX9_order_2 mv_X9_isHouse lk_X9_144 ⟨Nat.le_of_ble_eq_true rfl, Nat.le_of_ble_eq_true rfl⟩ rfl rfl (Nat.le_of_ble_eq_true rfl) t1 ?_
  refine T_of rfl (Nat.le_of_ble_eq_true rfl) ?_
  show B g MX9_isHouse 0 0 0 [(0, .ref r0), (1, .int x1)] [] S P I _
  refine B.iload_n 1 dX9_isHouse_0 rfl rfl ?_
  refine B.iconst 0 dX9_isHouse_1 (by decide) ?_
  refine B.aload_n 0 dX9_isHouse_2 rfl rfl ?_
  obtain ⟨b2, h⟩ := h
  obtain ⟨t3, h⟩ := h
  refine B.getP dX9_isHouse_3 fl_9_7 t1 t3 ?_
  refine B.iconst 0 dX9_isHouse_6 (by decide) ?_
  obtain ⟨t4, h⟩ := h
  obtain ⟨j5, h⟩ := h
  obtain ⟨t6, h⟩ := h
  refine B.iaload dX9_isHouse_7 t4 t6 ?_
  refine B.iconst 1 dX9_isHouse_8 (by decide) ?_
  refine B.isub dX9_isHouse_9 ?_
  refine B.callS (M' := MX9_isIn) (rc := 0) (rs := 0) (mc := 0) (ms := 0) (st := []) [.int x1, .int 0, .int ((I b2 j5) - 1)] dX9_isHouse_10 ms_X9_isIn lk_X9_103 ⟨Nat.le_of_ble_eq_true rfl, Nat.le_of_ble_eq_true rfl⟩ rfl rfl (Nat.le_of_ble_eq_true rfl) (t_isIn ?_)
  show B g MX9_isHouse 0 0 13 [(0, .ref r0), (1, .int x1)] [.int (wi x1 0 ((I b2 j5) - 1))] S P I _
  refine B.ireturn dX9_isHouse_13 rfl (nar_z (wi_01 _ _ _)) ?_
  show B g MX9_order 0 0 5 [(0, .ref r0), (1, .int x1), (2, .int x2), (3, .int x3), (4, .int x4)] [.int (wi x1 0 ((I b2 j5) - 1))] S P I _
  refine B.if_eq 52 dX9_order_5 (by decide) (fun q7 => ?_) (fun q7 => ?_)
  · replace h := h.1 q7
    refine B.iconst (-1) dX9_order_52 (by decide) ?_
    refine B.ireturn dX9_order_53 rfl rfl ?_
    exact h
  · replace h := h.2 q7
    refine B.aload_n 0 dX9_order_8 rfl rfl ?_
    refine B.iload_n 1 dX9_order_9 rfl rfl ?_
    refine B.iconst 4 dX9_order_10 (by decide) ?_
    refine B.callV (M' := MX9_of) (rc := 0) (rs := 0) (mc := 0) (ms := 0) (st := []) [.int x1, .int 4] dX9_order_11 mv_X9_of lk_X9_157 ⟨Nat.le_of_ble_eq_true rfl, Nat.le_of_ble_eq_true rfl⟩ rfl rfl (Nat.le_of_ble_eq_true rfl) t1 ?_
    refine T_of rfl (Nat.le_of_ble_eq_true rfl) ?_
    show B g MX9_of 0 0 0 [(0, .ref r0), (1, .int x1), (2, .int 4)] [] S P I _
    refine B.aload_n 0 dX9_of_0 rfl rfl ?_
    refine B.getP dX9_of_1 fl_9_7 t1 t3 ?_
    refine B.bipush 60 dX9_of_4 (by decide) ?_
    refine B.bipush 30 dX9_of_6 (by decide) ?_
    refine B.iload_n 1 dX9_of_8 rfl rfl ?_
    refine B.imul dX9_of_9 ?_
    refine B.iadd dX9_of_10 ?_
    refine B.iload_n 2 dX9_of_11 rfl rfl ?_
    refine B.iadd dX9_of_12 ?_
    obtain ⟨j8, h⟩ := h
    obtain ⟨t9, h⟩ := h
    refine B.iaload dX9_of_13 t4 t9 ?_
    refine B.ireturn dX9_of_14 rfl rfl ?_
    show B g MX9_order 0 0 14 [(0, .ref r0), (1, .int x1), (2, .int x2), (3, .int x3), (4, .int x4)] [.int (I b2 j8)] S P I _
    refine B.bipush 8 dX9_order_14 (by decide) ?_
    refine B.icmp_eq 52 dX9_order_16 (by decide) (fun q10 => ?_) (fun q10 => ?_)
    · replace h := h.1 q10
      refine B.iconst (-1) dX9_order_52 (by decide) ?_
      refine B.ireturn dX9_order_53 rfl rfl ?_
      exact h
    · replace h := h.2 q10
      refine B.iload_n 2 dX9_order_19 rfl rfl ?_
      refine B.iconst 1 dX9_order_20 (by decide) ?_
      refine B.bipush 30 dX9_order_21 (by decide) ?_
      refine B.callS (M' := MX9_isIn) (rc := 0) (rs := 0) (mc := 0) (ms := 0) (st := []) [.int x2, .int 1, .int 30] dX9_order_23 ms_X9_isIn lk_X9_103 ⟨Nat.le_of_ble_eq_true rfl, Nat.le_of_ble_eq_true rfl⟩ rfl rfl (Nat.le_of_ble_eq_true rfl) (t_isIn ?_)
      show B g MX9_order 0 0 26 [(0, .ref r0), (1, .int x1), (2, .int x2), (3, .int x3), (4, .int x4)] [.int (wi x2 1 30)] S P I _
      refine B.if_eq 52 dX9_order_26 (by decide) (fun q11 => ?_) (fun q11 => ?_)
      · replace h := h.1 q11
        refine B.iconst (-1) dX9_order_52 (by decide) ?_
        refine B.ireturn dX9_order_53 rfl rfl ?_
        exact h
      · replace h := h.2 q11
        refine B.iload_n 3 dX9_order_29 rfl rfl ?_
        refine B.iconst 1 dX9_order_30 (by decide) ?_
        refine B.sipush 200 dX9_order_31 (by decide) ?_
        refine B.callS (M' := MX9_isIn) (rc := 0) (rs := 0) (mc := 0) (ms := 0) (st := []) [.int x3, .int 1, .int 200] dX9_order_34 ms_X9_isIn lk_X9_103 ⟨Nat.le_of_ble_eq_true rfl, Nat.le_of_ble_eq_true rfl⟩ rfl rfl (Nat.le_of_ble_eq_true rfl) (t_isIn ?_)
        show B g MX9_order 0 0 37 [(0, .ref r0), (1, .int x1), (2, .int x2), (3, .int x3), (4, .int x4)] [.int (wi x3 1 200)] S P I _
        refine B.if_eq 52 dX9_order_37 (by decide) (fun q12 => ?_) (fun q12 => ?_)
        · replace h := h.1 q12
          refine B.iconst (-1) dX9_order_52 (by decide) ?_
          refine B.ireturn dX9_order_53 rfl rfl ?_
          exact h
        · replace h := h.2 q12
          refine B.iload 4 dX9_order_40 rfl ?_
          refine B.iconst 1 dX9_order_42 (by decide) ?_
          refine B.sipush 999 dX9_order_43 (by decide) ?_
          refine B.callS (M' := MX9_isIn) (rc := 0) (rs := 0) (mc := 0) (ms := 0) (st := []) [.int x4, .int 1, .int 999] dX9_order_46 ms_X9_isIn lk_X9_103 ⟨Nat.le_of_ble_eq_true rfl, Nat.le_of_ble_eq_true rfl⟩ rfl rfl (Nat.le_of_ble_eq_true rfl) (t_isIn ?_)
          show B g MX9_order 0 0 49 [(0, .ref r0), (1, .int x1), (2, .int x2), (3, .int x3), (4, .int x4)] [.int (wi x4 1 999)] S P I _
          refine B.if_ne 54 dX9_order_49 (by decide) (fun q13 => ?_) (fun q13 => ?_)
          · replace h := h.1 q13
            refine B.aload_n 0 dX9_order_54 rfl rfl ?_
            refine B.iload_n 1 dX9_order_55 rfl rfl ?_
            refine B.iconst 4 dX9_order_56 (by decide) ?_
            refine B.callV (M' := MX9_of) (rc := 0) (rs := 0) (mc := 0) (ms := 0) (st := []) [.int x1, .int 4] dX9_order_57 mv_X9_of lk_X9_157 ⟨Nat.le_of_ble_eq_true rfl, Nat.le_of_ble_eq_true rfl⟩ rfl rfl (Nat.le_of_ble_eq_true rfl) t1 ?_
            refine T_of rfl (Nat.le_of_ble_eq_true rfl) ?_
            show B g MX9_of 0 0 0 [(0, .ref r0), (1, .int x1), (2, .int 4)] [] S P I _
            refine B.aload_n 0 dX9_of_0 rfl rfl ?_
            refine B.getP dX9_of_1 fl_9_7 t1 t3 ?_
            refine B.bipush 60 dX9_of_4 (by decide) ?_
            refine B.bipush 30 dX9_of_6 (by decide) ?_
            refine B.iload_n 1 dX9_of_8 rfl rfl ?_
            refine B.imul dX9_of_9 ?_
            refine B.iadd dX9_of_10 ?_
            refine B.iload_n 2 dX9_of_11 rfl rfl ?_
            refine B.iadd dX9_of_12 ?_
            refine B.iaload dX9_of_13 t4 t9 ?_
            refine B.ireturn dX9_of_14 rfl rfl ?_
            show B g MX9_order 0 0 60 [(0, .ref r0), (1, .int x1), (2, .int x2), (3, .int x3), (4, .int x4)] [.int (I b2 j8)] S P I _
            refine B.istore (lv' := [(0, .ref r0), (1, .int x1), (2, .int x2), (3, .int x3), (4, .int x4), (5, .int (I b2 j8))]) dX9_order_60 (by decide) rfl ?_
            refine B.bipush 60 dX9_order_62 (by decide) ?_
            refine B.bipush 30 dX9_order_64 (by decide) ?_
            refine B.iload_n 1 dX9_order_66 rfl rfl ?_
            refine B.imul dX9_order_67 ?_
            refine B.iadd dX9_order_68 ?_
            refine B.iconst 5 dX9_order_69 (by decide) ?_
            refine B.iadd dX9_order_70 ?_
            refine B.iconst 3 dX9_order_71 (by decide) ?_
            refine B.iload 5 dX9_order_72 rfl ?_
            refine B.imul dX9_order_74 ?_
            refine B.iadd dX9_order_75 ?_
            refine B.istore (lv' := [(0, .ref r0), (1, .int x1), (2, .int x2), (3, .int x3), (4, .int x4), (5, .int (I b2 j8)), (6, .int (((60 + (30 * x1)) + 5) + (3 * (I b2 j8))))]) dX9_order_76 (by decide) rfl ?_
            refine B.aload_n 0 dX9_order_78 rfl rfl ?_
            refine B.getP dX9_order_79 fl_9_7 t1 t3 ?_
            refine B.iload 6 dX9_order_82 rfl ?_
            refine B.iload_n 2 dX9_order_84 rfl rfl ?_
            obtain ⟨j14, h⟩ := h
            obtain ⟨t15, h⟩ := h
            refine B.iastore dX9_order_85 t4 t15 ?_
            refine B.aload_n 0 dX9_order_86 rfl rfl ?_
            refine B.getP dX9_order_87 fl_9_7 t1 t3 ?_
            refine B.iload 6 dX9_order_90 rfl ?_
            refine B.iconst 1 dX9_order_92 (by decide) ?_
            refine B.iadd dX9_order_93 ?_
            refine B.iload_n 3 dX9_order_94 rfl rfl ?_
            obtain ⟨j16, h⟩ := h
            obtain ⟨t17, h⟩ := h
            refine B.iastore dX9_order_95 t4 t17 ?_
            refine B.aload_n 0 dX9_order_96 rfl rfl ?_
            refine B.getP dX9_order_97 fl_9_7 t1 t3 ?_
            refine B.iload 6 dX9_order_100 rfl ?_
            refine B.iconst 2 dX9_order_102 (by decide) ?_
            refine B.iadd dX9_order_103 ?_
            refine B.iload 4 dX9_order_104 rfl ?_
            obtain ⟨j18, h⟩ := h
            obtain ⟨t19, h⟩ := h
            refine B.iastore dX9_order_106 t4 t19 ?_
            refine B.aload_n 0 dX9_order_107 rfl rfl ?_
            refine B.iload_n 1 dX9_order_108 rfl rfl ?_
            refine B.iconst 4 dX9_order_109 (by decide) ?_
            refine B.iconst 1 dX9_order_110 (by decide) ?_
            refine B.callV (M' := MX9_adds) (rc := 0) (rs := 0) (mc := 0) (ms := 0) (st := []) [.int x1, .int 4, .int 1] dX9_order_111 mv_X9_adds lk_X9_169 ⟨Nat.le_of_ble_eq_true rfl, Nat.le_of_ble_eq_true rfl⟩ rfl rfl (Nat.le_of_ble_eq_true rfl) t1 ?_
            refine T_of rfl (Nat.le_of_ble_eq_true rfl) ?_
            show B g MX9_adds 0 0 0 [(0, .ref r0), (1, .int x1), (2, .int 4), (3, .int 1)] [] S P (u2 (u2 (u2 I b2 j14 x2) b2 j16 x3) b2 j18 x4) _
            refine B.aload_n 0 dX9_adds_0 rfl rfl ?_
            refine B.getP dX9_adds_1 fl_9_7 t1 t3 ?_
            refine B.bipush 60 dX9_adds_4 (by decide) ?_
            refine B.bipush 30 dX9_adds_6 (by decide) ?_
            refine B.iload_n 1 dX9_adds_8 rfl rfl ?_
            refine B.imul dX9_adds_9 ?_
            refine B.iadd dX9_adds_10 ?_
            refine B.iload_n 2 dX9_adds_11 rfl rfl ?_
            refine B.iadd dX9_adds_12 ?_
            refine B.dup2 dX9_adds_13 rfl rfl ?_
            refine B.iaload dX9_adds_14 t4 t9 ?_
            refine B.iload_n 3 dX9_adds_15 rfl rfl ?_
            refine B.iadd dX9_adds_16 ?_
            refine B.iastore dX9_adds_17 t4 t9 ?_
            refine B.return_ dX9_adds_18 rfl ?_
            show B g MX9_order 0 0 114 [(0, .ref r0), (1, .int x1), (2, .int x2), (3, .int x3), (4, .int x4), (5, .int (I b2 j8)), (6, .int (((60 + (30 * x1)) + 5) + (3 * (I b2 j8))))] [] S P (u2 (u2 (u2 (u2 I b2 j14 x2) b2 j16 x3) b2 j18 x4) b2 j8 (((u2 (u2 (u2 I b2 j14 x2) b2 j16 x3) b2 j18 x4) b2 j8) + 1)) _
            refine B.iload 5 dX9_order_114 rfl ?_
            refine B.ireturn dX9_order_116 rfl rfl ?_
            exact h
          · replace h := h.2 q13
            refine B.iconst (-1) dX9_order_52 (by decide) ?_
            refine B.ireturn dX9_order_53 rfl rfl ?_
            exact h
theorem s_X9_can_0 {g : GT} {S : ST} {P : PT} {I : IT} {Q : QT} {r0 : Nat} {x1 : Int32} {x2 : Int32} (h : B g MX9_can 0 0 2 [(0, .ref r0), (1, .int x1), (2, .int x2), (3, .int 0)] [] S P I Q) : B g MX9_can 0 0 0 [(0, .ref r0), (1, .int x1), (2, .int x2)] [] S P I Q := by
  refine B.iconst 0 dX9_can_0 (by decide) ?_
  refine B.istore_n (lv' := [(0, .ref r0), (1, .int x1), (2, .int x2), (3, .int 0)]) dX9_can_1 rfl (by decide) rfl ?_
  exact h
theorem s_X9_can_2 {g : GT} {S : ST} {P : PT} {I : IT} {Q : QT} {r0 : Nat} {x1 : Int32} {x2 : Int32} {x3 : Int32} (h : sT S r0 = 10 ∧ ∃ b2, P r0 0 = b2 + 1 ∧ sT S b2 = 40 ∧ ∃ j5, ix ((60 + (30 * x1)) + 4) j5 (sL S b2) ∧ (((I b2 j5) ≤ x3 → Q (some (.int 1)) S P I) ∧ (¬ (I b2 j5) ≤ x3 → ((¬ ((x2 >>> (x3 &&& 31)) &&& 1) = 0 → ∃ j9, ix ((60 + (30 * x1)) + (6 + (3 * x3))) j9 (sL S b2) ∧ B g MX9_can 0 0 42 [(0, .ref r0), (1, .int x1), (2, .int x2), (3, .int x3), (4, .int (I b2 j9)), (5, .int 0), (6, .int 0)] [] S P I Q) ∧ (((x2 >>> (x3 &&& 31)) &&& 1) = 0 → B g MX9_can 0 0 2 [(0, .ref r0), (1, .int x1), (2, .int x2), (3, .int (x3 + 1))] [] S P I Q))))) : B g MX9_can 0 0 2 [(0, .ref r0), (1, .int x1), (2, .int x2), (3, .int x3)] [] S P I Q := by
  refine B.iload_n 3 dX9_can_2 rfl rfl ?_
  refine B.aload_n 0 dX9_can_3 rfl rfl ?_
  refine B.iload_n 1 dX9_can_4 rfl rfl ?_
  refine B.iconst 4 dX9_can_5 (by decide) ?_
  obtain ⟨t1, h⟩ := h
  refine B.callV (M' := MX9_of) (rc := 0) (rs := 0) (mc := 0) (ms := 0) (st := [.int x3]) [.int x1, .int 4] dX9_can_6 mv_X9_of lk_X9_157 ⟨Nat.le_of_ble_eq_true rfl, Nat.le_of_ble_eq_true rfl⟩ rfl rfl (Nat.le_of_ble_eq_true rfl) t1 ?_
  refine T_of rfl (Nat.le_of_ble_eq_true rfl) ?_
  show B g MX9_of 0 0 0 [(0, .ref r0), (1, .int x1), (2, .int 4)] [] S P I _
  refine B.aload_n 0 dX9_of_0 rfl rfl ?_
  obtain ⟨b2, h⟩ := h
  obtain ⟨t3, h⟩ := h
  refine B.getP dX9_of_1 fl_9_7 t1 t3 ?_
  refine B.bipush 60 dX9_of_4 (by decide) ?_
  refine B.bipush 30 dX9_of_6 (by decide) ?_
  refine B.iload_n 1 dX9_of_8 rfl rfl ?_
  refine B.imul dX9_of_9 ?_
  refine B.iadd dX9_of_10 ?_
  refine B.iload_n 2 dX9_of_11 rfl rfl ?_
  refine B.iadd dX9_of_12 ?_
  obtain ⟨t4, h⟩ := h
  obtain ⟨j5, h⟩ := h
  obtain ⟨t6, h⟩ := h
  refine B.iaload dX9_of_13 t4 t6 ?_
  refine B.ireturn dX9_of_14 rfl rfl ?_
  show B g MX9_can 0 0 9 [(0, .ref r0), (1, .int x1), (2, .int x2), (3, .int x3)] [.int (I b2 j5), .int x3] S P I _
  refine B.icmp_ge 117 dX9_can_9 (by decide) (fun q7 => ?_) (fun q7 => ?_)
  · replace h := h.1 q7
    refine B.iconst 1 dX9_can_117 (by decide) ?_
    refine B.ireturn dX9_can_118 rfl rfl ?_
    exact h
  · replace h := h.2 q7
    refine B.iload_n 2 dX9_can_12 rfl rfl ?_
    refine B.iload_n 3 dX9_can_13 rfl rfl ?_
    refine B.ishr dX9_can_14 ?_
    refine B.iconst 1 dX9_can_15 (by decide) ?_
    refine B.iand dX9_can_16 ?_
    refine B.if_ne 23 dX9_can_17 (by decide) (fun q8 => ?_) (fun q8 => ?_)
    · replace h := h.1 q8
      refine B.aload_n 0 dX9_can_23 rfl rfl ?_
      refine B.iload_n 1 dX9_can_24 rfl rfl ?_
      refine B.bipush 6 dX9_can_25 (by decide) ?_
      refine B.iconst 3 dX9_can_27 (by decide) ?_
      refine B.iload_n 3 dX9_can_28 rfl rfl ?_
      refine B.imul dX9_can_29 ?_
      refine B.iadd dX9_can_30 ?_
      refine B.callV (M' := MX9_of) (rc := 0) (rs := 0) (mc := 0) (ms := 0) (st := []) [.int x1, .int (6 + (3 * x3))] dX9_can_31 mv_X9_of lk_X9_157 ⟨Nat.le_of_ble_eq_true rfl, Nat.le_of_ble_eq_true rfl⟩ rfl rfl (Nat.le_of_ble_eq_true rfl) t1 ?_
      refine T_of rfl (Nat.le_of_ble_eq_true rfl) ?_
      show B g MX9_of 0 0 0 [(0, .ref r0), (1, .int x1), (2, .int (6 + (3 * x3)))] [] S P I _
      refine B.aload_n 0 dX9_of_0 rfl rfl ?_
      refine B.getP dX9_of_1 fl_9_7 t1 t3 ?_
      refine B.bipush 60 dX9_of_4 (by decide) ?_
      refine B.bipush 30 dX9_of_6 (by decide) ?_
      refine B.iload_n 1 dX9_of_8 rfl rfl ?_
      refine B.imul dX9_of_9 ?_
      refine B.iadd dX9_of_10 ?_
      refine B.iload_n 2 dX9_of_11 rfl rfl ?_
      refine B.iadd dX9_of_12 ?_
      obtain ⟨j9, h⟩ := h
      obtain ⟨t10, h⟩ := h
      refine B.iaload dX9_of_13 t4 t10 ?_
      refine B.ireturn dX9_of_14 rfl rfl ?_
      show B g MX9_can 0 0 34 [(0, .ref r0), (1, .int x1), (2, .int x2), (3, .int x3)] [.int (I b2 j9)] S P I _
      refine B.istore (lv' := [(0, .ref r0), (1, .int x1), (2, .int x2), (3, .int x3), (4, .int (I b2 j9))]) dX9_can_34 (by decide) rfl ?_
      refine B.iconst 0 dX9_can_36 (by decide) ?_
      refine B.istore (lv' := [(0, .ref r0), (1, .int x1), (2, .int x2), (3, .int x3), (4, .int (I b2 j9)), (5, .int 0)]) dX9_can_37 (by decide) rfl ?_
      refine B.iconst 0 dX9_can_39 (by decide) ?_
      refine B.istore (lv' := [(0, .ref r0), (1, .int x1), (2, .int x2), (3, .int x3), (4, .int (I b2 j9)), (5, .int 0), (6, .int 0)]) dX9_can_40 (by decide) rfl ?_
      exact h
    · replace h := h.2 q8
      refine B.goto_ 111 dX9_can_20 (by decide) ?_
      refine B.iinc (lv' := [(0, .ref r0), (1, .int x1), (2, .int x2), (3, .int (x3 + 1))]) 3 (x3 + 1) dX9_can_111 rfl rfl (by decide) rfl ?_
      refine B.goto_ 2 dX9_can_114 (by decide) ?_
      exact h
theorem s_X9_can_42 {g : GT} {S : ST} {P : PT} {I : IT} {Q : QT} {r0 : Nat} {x1 : Int32} {x2 : Int32} {x3 : Int32} {x4 : Int32} {x5 : Int32} {x6 : Int32} (h : sT S r0 = 10 ∧ ∃ b2, P r0 0 = b2 + 1 ∧ sT S b2 = 40 ∧ ∃ j5, ix ((60 + (30 * x1)) + 4) j5 (sL S b2) ∧ (((I b2 j5) ≤ x6 → ((x5 ≤ x4 → B g MX9_can 0 0 2 [(0, .ref r0), (1, .int x1), (2, .int x2), (3, .int (x3 + 1))] [] S P I Q) ∧ (¬ x5 ≤ x4 → Q (some (.int 0)) S P I))) ∧ (¬ (I b2 j5) ≤ x6 → ((¬ ((x2 >>> (x6 &&& 31)) &&& 1) = 1 → B g MX9_can 0 0 42 [(0, .ref r0), (1, .int x1), (2, .int x2), (3, .int x3), (4, .int x4), (5, .int x5), (6, .int (x6 + 1))] [] S P I Q) ∧ (((x2 >>> (x6 &&& 31)) &&& 1) = 1 → ∃ j10, ix ((60 + (30 * x1)) + (6 + (3 * x6))) j10 (sL S b2) ∧ ((x4 < (I b2 j10) → B g MX9_can 0 0 42 [(0, .ref r0), (1, .int x1), (2, .int x2), (3, .int x3), (4, .int x4), (5, .int x5), (6, .int (x6 + 1))] [] S P I Q) ∧ (¬ x4 < (I b2 j10) → ∃ j13, ix ((60 + (30 * x1)) + (5 + (3 * x6))) j13 (sL S b2) ∧ B g MX9_can 0 0 42 [(0, .ref r0), (1, .int x1), (2, .int x2), (3, .int x3), (4, .int x4), (5, .int (x5 + (I b2 j13))), (6, .int (x6 + 1))] [] S P I Q))))))) : B g MX9_can 0 0 42 [(0, .ref r0), (1, .int x1), (2, .int x2), (3, .int x3), (4, .int x4), (5, .int x5), (6, .int x6)] [] S P I Q := by
  refine B.iload 6 dX9_can_42 rfl ?_
  refine B.aload_n 0 dX9_can_44 rfl rfl ?_
  refine B.iload_n 1 dX9_can_45 rfl rfl ?_
  refine B.iconst 4 dX9_can_46 (by decide) ?_
  obtain ⟨t1, h⟩ := h
  refine B.callV (M' := MX9_of) (rc := 0) (rs := 0) (mc := 0) (ms := 0) (st := [.int x6]) [.int x1, .int 4] dX9_can_47 mv_X9_of lk_X9_157 ⟨Nat.le_of_ble_eq_true rfl, Nat.le_of_ble_eq_true rfl⟩ rfl rfl (Nat.le_of_ble_eq_true rfl) t1 ?_
  refine T_of rfl (Nat.le_of_ble_eq_true rfl) ?_
  show B g MX9_of 0 0 0 [(0, .ref r0), (1, .int x1), (2, .int 4)] [] S P I _
  refine B.aload_n 0 dX9_of_0 rfl rfl ?_
  obtain ⟨b2, h⟩ := h
  obtain ⟨t3, h⟩ := h
  refine B.getP dX9_of_1 fl_9_7 t1 t3 ?_
  refine B.bipush 60 dX9_of_4 (by decide) ?_
  refine B.bipush 30 dX9_of_6 (by decide) ?_
  refine B.iload_n 1 dX9_of_8 rfl rfl ?_
  refine B.imul dX9_of_9 ?_
  refine B.iadd dX9_of_10 ?_
  refine B.iload_n 2 dX9_of_11 rfl rfl ?_
  refine B.iadd dX9_of_12 ?_
  obtain ⟨t4, h⟩ := h
  obtain ⟨j5, h⟩ := h
  obtain ⟨t6, h⟩ := h
  refine B.iaload dX9_of_13 t4 t6 ?_
  refine B.ireturn dX9_of_14 rfl rfl ?_
  show B g MX9_can 0 0 50 [(0, .ref r0), (1, .int x1), (2, .int x2), (3, .int x3), (4, .int x4), (5, .int x5), (6, .int x6)] [.int (I b2 j5), .int x6] S P I _
  refine B.icmp_ge 102 dX9_can_50 (by decide) (fun q7 => ?_) (fun q7 => ?_)
  · replace h := h.1 q7
    refine B.iload 5 dX9_can_102 rfl ?_
    refine B.iload 4 dX9_can_104 rfl ?_
    refine B.icmp_le 111 dX9_can_106 (by decide) (fun q8 => ?_) (fun q8 => ?_)
    · replace h := h.1 q8
      refine B.iinc (lv' := [(0, .ref r0), (1, .int x1), (2, .int x2), (3, .int (x3 + 1)), (4, .int x4), (5, .int x5), (6, .int x6)]) 3 (x3 + 1) dX9_can_111 rfl rfl (by decide) rfl ?_
      refine B.goto_ 2 dX9_can_114 (by decide) ?_
      refine B.lvs [(0, .ref r0), (1, .int x1), (2, .int x2), (3, .int (x3 + 1))] [0, 1, 2, 3] rfl ?_
      exact h
    · replace h := h.2 q8
      refine B.iconst 0 dX9_can_109 (by decide) ?_
      refine B.ireturn dX9_can_110 rfl rfl ?_
      exact h
  · replace h := h.2 q7
    refine B.iload_n 2 dX9_can_53 rfl rfl ?_
    refine B.iload 6 dX9_can_54 rfl ?_
    refine B.ishr dX9_can_56 ?_
    refine B.iconst 1 dX9_can_57 (by decide) ?_
    refine B.iand dX9_can_58 ?_
    refine B.iconst 1 dX9_can_59 (by decide) ?_
    refine B.icmp_ne 96 dX9_can_60 (by decide) (fun q9 => ?_) (fun q9 => ?_)
    · replace h := h.1 q9
      refine B.iinc (lv' := [(0, .ref r0), (1, .int x1), (2, .int x2), (3, .int x3), (4, .int x4), (5, .int x5), (6, .int (x6 + 1))]) 6 (x6 + 1) dX9_can_96 rfl rfl (by decide) rfl ?_
      refine B.goto_ 42 dX9_can_99 (by decide) ?_
      exact h
    · replace h := h.2 q9
      refine B.aload_n 0 dX9_can_63 rfl rfl ?_
      refine B.iload_n 1 dX9_can_64 rfl rfl ?_
      refine B.bipush 6 dX9_can_65 (by decide) ?_
      refine B.iconst 3 dX9_can_67 (by decide) ?_
      refine B.iload 6 dX9_can_68 rfl ?_
      refine B.imul dX9_can_70 ?_
      refine B.iadd dX9_can_71 ?_
      refine B.callV (M' := MX9_of) (rc := 0) (rs := 0) (mc := 0) (ms := 0) (st := []) [.int x1, .int (6 + (3 * x6))] dX9_can_72 mv_X9_of lk_X9_157 ⟨Nat.le_of_ble_eq_true rfl, Nat.le_of_ble_eq_true rfl⟩ rfl rfl (Nat.le_of_ble_eq_true rfl) t1 ?_
      refine T_of rfl (Nat.le_of_ble_eq_true rfl) ?_
      show B g MX9_of 0 0 0 [(0, .ref r0), (1, .int x1), (2, .int (6 + (3 * x6)))] [] S P I _
      refine B.aload_n 0 dX9_of_0 rfl rfl ?_
      refine B.getP dX9_of_1 fl_9_7 t1 t3 ?_
      refine B.bipush 60 dX9_of_4 (by decide) ?_
      refine B.bipush 30 dX9_of_6 (by decide) ?_
      refine B.iload_n 1 dX9_of_8 rfl rfl ?_
      refine B.imul dX9_of_9 ?_
      refine B.iadd dX9_of_10 ?_
      refine B.iload_n 2 dX9_of_11 rfl rfl ?_
      refine B.iadd dX9_of_12 ?_
      obtain ⟨j10, h⟩ := h
      obtain ⟨t11, h⟩ := h
      refine B.iaload dX9_of_13 t4 t11 ?_
      refine B.ireturn dX9_of_14 rfl rfl ?_
      show B g MX9_can 0 0 75 [(0, .ref r0), (1, .int x1), (2, .int x2), (3, .int x3), (4, .int x4), (5, .int x5), (6, .int x6)] [.int (I b2 j10)] S P I _
      refine B.iload 4 dX9_can_75 rfl ?_
      refine B.icmp_gt 96 dX9_can_77 (by decide) (fun q12 => ?_) (fun q12 => ?_)
      · replace h := h.1 q12
        refine B.iinc (lv' := [(0, .ref r0), (1, .int x1), (2, .int x2), (3, .int x3), (4, .int x4), (5, .int x5), (6, .int (x6 + 1))]) 6 (x6 + 1) dX9_can_96 rfl rfl (by decide) rfl ?_
        refine B.goto_ 42 dX9_can_99 (by decide) ?_
        exact h
      · replace h := h.2 q12
        refine B.iload 5 dX9_can_80 rfl ?_
        refine B.aload_n 0 dX9_can_82 rfl rfl ?_
        refine B.iload_n 1 dX9_can_83 rfl rfl ?_
        refine B.iconst 5 dX9_can_84 (by decide) ?_
        refine B.iconst 3 dX9_can_85 (by decide) ?_
        refine B.iload 6 dX9_can_86 rfl ?_
        refine B.imul dX9_can_88 ?_
        refine B.iadd dX9_can_89 ?_
        refine B.callV (M' := MX9_of) (rc := 0) (rs := 0) (mc := 0) (ms := 0) (st := [.int x5]) [.int x1, .int (5 + (3 * x6))] dX9_can_90 mv_X9_of lk_X9_157 ⟨Nat.le_of_ble_eq_true rfl, Nat.le_of_ble_eq_true rfl⟩ rfl rfl (Nat.le_of_ble_eq_true rfl) t1 ?_
        refine T_of rfl (Nat.le_of_ble_eq_true rfl) ?_
        show B g MX9_of 0 0 0 [(0, .ref r0), (1, .int x1), (2, .int (5 + (3 * x6)))] [] S P I _
        refine B.aload_n 0 dX9_of_0 rfl rfl ?_
        refine B.getP dX9_of_1 fl_9_7 t1 t3 ?_
        refine B.bipush 60 dX9_of_4 (by decide) ?_
        refine B.bipush 30 dX9_of_6 (by decide) ?_
        refine B.iload_n 1 dX9_of_8 rfl rfl ?_
        refine B.imul dX9_of_9 ?_
        refine B.iadd dX9_of_10 ?_
        refine B.iload_n 2 dX9_of_11 rfl rfl ?_
        refine B.iadd dX9_of_12 ?_
        obtain ⟨j13, h⟩ := h
        obtain ⟨t14, h⟩ := h
        refine B.iaload dX9_of_13 t4 t14 ?_
        refine B.ireturn dX9_of_14 rfl rfl ?_
        show B g MX9_can 0 0 93 [(0, .ref r0), (1, .int x1), (2, .int x2), (3, .int x3), (4, .int x4), (5, .int x5), (6, .int x6)] [.int (I b2 j13), .int x5] S P I _
        refine B.iadd dX9_can_93 ?_
        refine B.istore (lv' := [(0, .ref r0), (1, .int x1), (2, .int x2), (3, .int x3), (4, .int x4), (5, .int (x5 + (I b2 j13))), (6, .int x6)]) dX9_can_94 (by decide) rfl ?_
        refine B.iinc (lv' := [(0, .ref r0), (1, .int x1), (2, .int x2), (3, .int x3), (4, .int x4), (5, .int (x5 + (I b2 j13))), (6, .int (x6 + 1))]) 6 (x6 + 1) dX9_can_96 rfl rfl (by decide) rfl ?_
        refine B.goto_ 42 dX9_can_99 (by decide) ?_
        exact h
theorem s_X9_inTime_0 {g : GT} {S : ST} {P : PT} {I : IT} {Q : QT} {r0 : Nat} {x1 : Int32} {x2 : Int32} (h : sT S r0 = 10 ∧ ∃ b2, P r0 0 = b2 + 1 ∧ sT S b2 = 40 ∧ ∃ j5, ix 0 j5 (sL S b2) ∧ (((wi x1 0 ((I b2 j5) - 1)) = 0 → Q (some (.int 0)) S P I) ∧ (¬ (wi x1 0 ((I b2 j5) - 1)) = 0 → ∃ j8, ix ((60 + (30 * x1)) + 4) j8 (sL S b2) ∧ (((wi x2 0 ((1 <<< ((I b2 j8) &&& 31)) - 1)) = 0 → Q (some (.int 0)) S P I) ∧ (¬ (wi x2 0 ((1 <<< ((I b2 j8) &&& 31)) - 1)) = 0 → T g MX9_can 0 0 [.ref r0, .int x1, .int x2] S P I (fun r S' P' I' => B g MX9_inTime 0 0 32 [(0, .ref r0), (1, .int x1), (2, .int x2)] (r.toList ++ []) S' P' I' Q)))))) : B g MX9_inTime 0 0 0 [(0, .ref r0), (1, .int x1), (2, .int x2)] [] S P I Q := by
  refine B.aload_n 0 dX9_inTime_0 rfl rfl ?_
  refine B.iload_n 1 dX9_inTime_1 rfl rfl ?_
  obtain ⟨t1, h⟩ := h
  refine B.callV (M' := MX9_isHouse) (rc := 0) (rs := 0) (mc := 0) (ms := 0) (st := []) [.int x1] dX9_inTime_2 mv_X9_isHouse lk_X9_144 ⟨Nat.le_of_ble_eq_true rfl, Nat.le_of_ble_eq_true rfl⟩ rfl rfl (Nat.le_of_ble_eq_true rfl) t1 ?_
  refine T_of rfl (Nat.le_of_ble_eq_true rfl) ?_
  show B g MX9_isHouse 0 0 0 [(0, .ref r0), (1, .int x1)] [] S P I _
  refine B.iload_n 1 dX9_isHouse_0 rfl rfl ?_
  refine B.iconst 0 dX9_isHouse_1 (by decide) ?_
  refine B.aload_n 0 dX9_isHouse_2 rfl rfl ?_
  obtain ⟨b2, h⟩ := h
  obtain ⟨t3, h⟩ := h
  refine B.getP dX9_isHouse_3 fl_9_7 t1 t3 ?_
  refine B.iconst 0 dX9_isHouse_6 (by decide) ?_
  obtain ⟨t4, h⟩ := h
  obtain ⟨j5, h⟩ := h
  obtain ⟨t6, h⟩ := h
  refine B.iaload dX9_isHouse_7 t4 t6 ?_
  refine B.iconst 1 dX9_isHouse_8 (by decide) ?_
  refine B.isub dX9_isHouse_9 ?_
  refine B.callS (M' := MX9_isIn) (rc := 0) (rs := 0) (mc := 0) (ms := 0) (st := []) [.int x1, .int 0, .int ((I b2 j5) - 1)] dX9_isHouse_10 ms_X9_isIn lk_X9_103 ⟨Nat.le_of_ble_eq_true rfl, Nat.le_of_ble_eq_true rfl⟩ rfl rfl (Nat.le_of_ble_eq_true rfl) (t_isIn ?_)
  show B g MX9_isHouse 0 0 13 [(0, .ref r0), (1, .int x1)] [.int (wi x1 0 ((I b2 j5) - 1))] S P I _
  refine B.ireturn dX9_isHouse_13 rfl (nar_z (wi_01 _ _ _)) ?_
  show B g MX9_inTime 0 0 5 [(0, .ref r0), (1, .int x1), (2, .int x2)] [.int (wi x1 0 ((I b2 j5) - 1))] S P I _
  refine B.if_eq 39 dX9_inTime_5 (by decide) (fun q7 => ?_) (fun q7 => ?_)
  · replace h := h.1 q7
    refine B.iconst 0 dX9_inTime_39 (by decide) ?_
    refine B.ireturn dX9_inTime_40 rfl rfl ?_
    exact h
  · replace h := h.2 q7
    refine B.iload_n 2 dX9_inTime_8 rfl rfl ?_
    refine B.iconst 0 dX9_inTime_9 (by decide) ?_
    refine B.iconst 1 dX9_inTime_10 (by decide) ?_
    refine B.aload_n 0 dX9_inTime_11 rfl rfl ?_
    refine B.iload_n 1 dX9_inTime_12 rfl rfl ?_
    refine B.iconst 4 dX9_inTime_13 (by decide) ?_
    refine B.callV (M' := MX9_of) (rc := 0) (rs := 0) (mc := 0) (ms := 0) (st := [.int 1, .int 0, .int x2]) [.int x1, .int 4] dX9_inTime_14 mv_X9_of lk_X9_157 ⟨Nat.le_of_ble_eq_true rfl, Nat.le_of_ble_eq_true rfl⟩ rfl rfl (Nat.le_of_ble_eq_true rfl) t1 ?_
    refine T_of rfl (Nat.le_of_ble_eq_true rfl) ?_
    show B g MX9_of 0 0 0 [(0, .ref r0), (1, .int x1), (2, .int 4)] [] S P I _
    refine B.aload_n 0 dX9_of_0 rfl rfl ?_
    refine B.getP dX9_of_1 fl_9_7 t1 t3 ?_
    refine B.bipush 60 dX9_of_4 (by decide) ?_
    refine B.bipush 30 dX9_of_6 (by decide) ?_
    refine B.iload_n 1 dX9_of_8 rfl rfl ?_
    refine B.imul dX9_of_9 ?_
    refine B.iadd dX9_of_10 ?_
    refine B.iload_n 2 dX9_of_11 rfl rfl ?_
    refine B.iadd dX9_of_12 ?_
    obtain ⟨j8, h⟩ := h
    obtain ⟨t9, h⟩ := h
    refine B.iaload dX9_of_13 t4 t9 ?_
    refine B.ireturn dX9_of_14 rfl rfl ?_
    show B g MX9_inTime 0 0 17 [(0, .ref r0), (1, .int x1), (2, .int x2)] [.int (I b2 j8), .int 1, .int 0, .int x2] S P I _
    refine B.ishl dX9_inTime_17 ?_
    refine B.iconst 1 dX9_inTime_18 (by decide) ?_
    refine B.isub dX9_inTime_19 ?_
    refine B.callS (M' := MX9_isIn) (rc := 0) (rs := 0) (mc := 0) (ms := 0) (st := []) [.int x2, .int 0, .int ((1 <<< ((I b2 j8) &&& 31)) - 1)] dX9_inTime_20 ms_X9_isIn lk_X9_103 ⟨Nat.le_of_ble_eq_true rfl, Nat.le_of_ble_eq_true rfl⟩ rfl rfl (Nat.le_of_ble_eq_true rfl) (t_isIn ?_)
    show B g MX9_inTime 0 0 23 [(0, .ref r0), (1, .int x1), (2, .int x2)] [.int (wi x2 0 ((1 <<< ((I b2 j8) &&& 31)) - 1))] S P I _
    refine B.if_eq 39 dX9_inTime_23 (by decide) (fun q10 => ?_) (fun q10 => ?_)
    · replace h := h.1 q10
      refine B.iconst 0 dX9_inTime_39 (by decide) ?_
      refine B.ireturn dX9_inTime_40 rfl rfl ?_
      exact h
    · replace h := h.2 q10
      refine B.aload_n 0 dX9_inTime_26 rfl rfl ?_
      refine B.iload_n 1 dX9_inTime_27 rfl rfl ?_
      refine B.iload_n 2 dX9_inTime_28 rfl rfl ?_
      refine B.callV (M' := MX9_can) (rc := 0) (rs := 0) (mc := 0) (ms := 0) (st := []) [.int x1, .int x2] dX9_inTime_29 mv_X9_can lk_X9_193 ⟨Nat.le_of_ble_eq_true rfl, Nat.le_of_ble_eq_true rfl⟩ rfl rfl (Nat.le_of_ble_eq_true rfl) t1 ?_
      exact h
theorem s_X9_inTime_32 {g : GT} {S : ST} {P : PT} {I : IT} {Q : QT} {r0 : Nat} {x1 : Int32} {x2 : Int32} {w_s0 : Int32} (h : ((w_s0 = 0 → Q (some (.int 0)) S P I) ∧ (¬ w_s0 = 0 → Q (some (.int 1)) S P I))) : B g MX9_inTime 0 0 32 [(0, .ref r0), (1, .int x1), (2, .int x2)] [.int w_s0] S P I Q := by
  refine B.if_eq 39 dX9_inTime_32 (by decide) (fun q1 => ?_) (fun q1 => ?_)
  · replace h := h.1 q1
    refine B.iconst 0 dX9_inTime_39 (by decide) ?_
    refine B.ireturn dX9_inTime_40 rfl rfl ?_
    exact h
  · replace h := h.2 q1
    refine B.iconst 1 dX9_inTime_35 (by decide) ?_
    refine B.goto_ 40 dX9_inTime_36 (by decide) ?_
    refine B.ireturn dX9_inTime_40 rfl rfl ?_
    exact h
theorem s_X9_worthOf_0 {g : GT} {S : ST} {P : PT} {I : IT} {Q : QT} {r0 : Nat} {x1 : Int32} {x2 : Int32} (h : B g MX9_worthOf 0 0 5 [(0, .ref r0), (1, .int x1), (2, .int x2), (3, .int 0), (4, .int 0)] [] S P I Q) : B g MX9_worthOf 0 0 0 [(0, .ref r0), (1, .int x1), (2, .int x2)] [] S P I Q := by
  refine B.iconst 0 dX9_worthOf_0 (by decide) ?_
  refine B.istore_n (lv' := [(0, .ref r0), (1, .int x1), (2, .int x2), (3, .int 0)]) dX9_worthOf_1 rfl (by decide) rfl ?_
  refine B.iconst 0 dX9_worthOf_2 (by decide) ?_
  refine B.istore (lv' := [(0, .ref r0), (1, .int x1), (2, .int x2), (3, .int 0), (4, .int 0)]) dX9_worthOf_3 (by decide) rfl ?_
  exact h
theorem s_X9_worthOf_5 {g : GT} {S : ST} {P : PT} {I : IT} {Q : QT} {r0 : Nat} {x1 : Int32} {x2 : Int32} {x3 : Int32} {x4 : Int32} (h : sT S r0 = 10 ∧ ∃ b2, P r0 0 = b2 + 1 ∧ sT S b2 = 40 ∧ ∃ j5, ix ((60 + (30 * x1)) + 4) j5 (sL S b2) ∧ (((I b2 j5) ≤ x4 → Q (some (.int x3)) S P I) ∧ (¬ (I b2 j5) ≤ x4 → ∃ j8, ix ((60 + (30 * x1)) + (7 + (3 * x4))) j8 (sL S b2) ∧ B g MX9_worthOf 0 0 5 [(0, .ref r0), (1, .int x1), (2, .int x2), (3, .int (x3 + (((x2 >>> (x4 &&& 31)) &&& 1) * (I b2 j8)))), (4, .int (x4 + 1))] [] S P I Q))) : B g MX9_worthOf 0 0 5 [(0, .ref r0), (1, .int x1), (2, .int x2), (3, .int x3), (4, .int x4)] [] S P I Q := by
  refine B.iload 4 dX9_worthOf_5 rfl ?_
  refine B.aload_n 0 dX9_worthOf_7 rfl rfl ?_
  refine B.iload_n 1 dX9_worthOf_8 rfl rfl ?_
  refine B.iconst 4 dX9_worthOf_9 (by decide) ?_
  obtain ⟨t1, h⟩ := h
  refine B.callV (M' := MX9_of) (rc := 0) (rs := 0) (mc := 0) (ms := 0) (st := [.int x4]) [.int x1, .int 4] dX9_worthOf_10 mv_X9_of lk_X9_157 ⟨Nat.le_of_ble_eq_true rfl, Nat.le_of_ble_eq_true rfl⟩ rfl rfl (Nat.le_of_ble_eq_true rfl) t1 ?_
  refine T_of rfl (Nat.le_of_ble_eq_true rfl) ?_
  show B g MX9_of 0 0 0 [(0, .ref r0), (1, .int x1), (2, .int 4)] [] S P I _
  refine B.aload_n 0 dX9_of_0 rfl rfl ?_
  obtain ⟨b2, h⟩ := h
  obtain ⟨t3, h⟩ := h
  refine B.getP dX9_of_1 fl_9_7 t1 t3 ?_
  refine B.bipush 60 dX9_of_4 (by decide) ?_
  refine B.bipush 30 dX9_of_6 (by decide) ?_
  refine B.iload_n 1 dX9_of_8 rfl rfl ?_
  refine B.imul dX9_of_9 ?_
  refine B.iadd dX9_of_10 ?_
  refine B.iload_n 2 dX9_of_11 rfl rfl ?_
  refine B.iadd dX9_of_12 ?_
  obtain ⟨t4, h⟩ := h
  obtain ⟨j5, h⟩ := h
  obtain ⟨t6, h⟩ := h
  refine B.iaload dX9_of_13 t4 t6 ?_
  refine B.ireturn dX9_of_14 rfl rfl ?_
  show B g MX9_worthOf 0 0 13 [(0, .ref r0), (1, .int x1), (2, .int x2), (3, .int x3), (4, .int x4)] [.int (I b2 j5), .int x4] S P I _
  refine B.icmp_ge 44 dX9_worthOf_13 (by decide) (fun q7 => ?_) (fun q7 => ?_)
  · replace h := h.1 q7
    refine B.iload_n 3 dX9_worthOf_44 rfl rfl ?_
    refine B.ireturn dX9_worthOf_45 rfl rfl ?_
    exact h
  · replace h := h.2 q7
    refine B.iload_n 3 dX9_worthOf_16 rfl rfl ?_
    refine B.iload_n 2 dX9_worthOf_17 rfl rfl ?_
    refine B.iload 4 dX9_worthOf_18 rfl ?_
    refine B.ishr dX9_worthOf_20 ?_
    refine B.iconst 1 dX9_worthOf_21 (by decide) ?_
    refine B.iand dX9_worthOf_22 ?_
    refine B.aload_n 0 dX9_worthOf_23 rfl rfl ?_
    refine B.iload_n 1 dX9_worthOf_24 rfl rfl ?_
    refine B.bipush 7 dX9_worthOf_25 (by decide) ?_
    refine B.iconst 3 dX9_worthOf_27 (by decide) ?_
    refine B.iload 4 dX9_worthOf_28 rfl ?_
    refine B.imul dX9_worthOf_30 ?_
    refine B.iadd dX9_worthOf_31 ?_
    refine B.callV (M' := MX9_of) (rc := 0) (rs := 0) (mc := 0) (ms := 0) (st := [.int ((x2 >>> (x4 &&& 31)) &&& 1), .int x3]) [.int x1, .int (7 + (3 * x4))] dX9_worthOf_32 mv_X9_of lk_X9_157 ⟨Nat.le_of_ble_eq_true rfl, Nat.le_of_ble_eq_true rfl⟩ rfl rfl (Nat.le_of_ble_eq_true rfl) t1 ?_
    refine T_of rfl (Nat.le_of_ble_eq_true rfl) ?_
    show B g MX9_of 0 0 0 [(0, .ref r0), (1, .int x1), (2, .int (7 + (3 * x4)))] [] S P I _
    refine B.aload_n 0 dX9_of_0 rfl rfl ?_
    refine B.getP dX9_of_1 fl_9_7 t1 t3 ?_
    refine B.bipush 60 dX9_of_4 (by decide) ?_
    refine B.bipush 30 dX9_of_6 (by decide) ?_
    refine B.iload_n 1 dX9_of_8 rfl rfl ?_
    refine B.imul dX9_of_9 ?_
    refine B.iadd dX9_of_10 ?_
    refine B.iload_n 2 dX9_of_11 rfl rfl ?_
    refine B.iadd dX9_of_12 ?_
    obtain ⟨j8, h⟩ := h
    obtain ⟨t9, h⟩ := h
    refine B.iaload dX9_of_13 t4 t9 ?_
    refine B.ireturn dX9_of_14 rfl rfl ?_
    show B g MX9_worthOf 0 0 35 [(0, .ref r0), (1, .int x1), (2, .int x2), (3, .int x3), (4, .int x4)] [.int (I b2 j8), .int ((x2 >>> (x4 &&& 31)) &&& 1), .int x3] S P I _
    refine B.imul dX9_worthOf_35 ?_
    refine B.iadd dX9_worthOf_36 ?_
    refine B.istore_n (lv' := [(0, .ref r0), (1, .int x1), (2, .int x2), (3, .int (x3 + (((x2 >>> (x4 &&& 31)) &&& 1) * (I b2 j8)))), (4, .int x4)]) dX9_worthOf_37 rfl (by decide) rfl ?_
    refine B.iinc (lv' := [(0, .ref r0), (1, .int x1), (2, .int x2), (3, .int (x3 + (((x2 >>> (x4 &&& 31)) &&& 1) * (I b2 j8)))), (4, .int (x4 + 1))]) 4 (x4 + 1) dX9_worthOf_38 rfl rfl (by decide) rfl ?_
    refine B.goto_ 5 dX9_worthOf_41 (by decide) ?_
    exact h
theorem s_X9_best_0 {g : GT} {S : ST} {P : PT} {I : IT} {Q : QT} {r0 : Nat} {x1 : Int32} (h : B g MX9_best 0 0 4 [(0, .ref r0), (1, .int x1), (2, .int 0), (3, .int 1)] [] S P I Q) : B g MX9_best 0 0 0 [(0, .ref r0), (1, .int x1)] [] S P I Q := by
  refine B.iconst 0 dX9_best_0 (by decide) ?_
  refine B.istore_n (lv' := [(0, .ref r0), (1, .int x1), (2, .int 0)]) dX9_best_1 rfl (by decide) rfl ?_
  refine B.iconst 1 dX9_best_2 (by decide) ?_
  refine B.istore_n (lv' := [(0, .ref r0), (1, .int x1), (2, .int 0), (3, .int 1)]) dX9_best_3 rfl (by decide) rfl ?_
  exact h
theorem s_X9_best_4 {g : GT} {S : ST} {P : PT} {I : IT} {Q : QT} {r0 : Nat} {x1 : Int32} {x2 : Int32} {x3 : Int32} (h : sT S r0 = 10 ∧ ∃ b2, P r0 0 = b2 + 1 ∧ sT S b2 = 40 ∧ ∃ j5, ix ((60 + (30 * x1)) + 4) j5 (sL S b2) ∧ (((1 <<< ((I b2 j5) &&& 31)) ≤ x3 → Q (some (.int x2)) S P I) ∧ (¬ (1 <<< ((I b2 j5) &&& 31)) ≤ x3 → T g MX9_worthOf 0 0 [.ref r0, .int x1, .int x3] S P I (fun r S' P' I' => B g MX9_best 0 0 22 [(0, .ref r0), (1, .int x1), (2, .int x2), (3, .int x3)] (r.toList ++ []) S' P' I' Q)))) : B g MX9_best 0 0 4 [(0, .ref r0), (1, .int x1), (2, .int x2), (3, .int x3)] [] S P I Q := by
  refine B.iload_n 3 dX9_best_4 rfl rfl ?_
  refine B.iconst 1 dX9_best_5 (by decide) ?_
  refine B.aload_n 0 dX9_best_6 rfl rfl ?_
  refine B.iload_n 1 dX9_best_7 rfl rfl ?_
  refine B.iconst 4 dX9_best_8 (by decide) ?_
  obtain ⟨t1, h⟩ := h
  refine B.callV (M' := MX9_of) (rc := 0) (rs := 0) (mc := 0) (ms := 0) (st := [.int 1, .int x3]) [.int x1, .int 4] dX9_best_9 mv_X9_of lk_X9_157 ⟨Nat.le_of_ble_eq_true rfl, Nat.le_of_ble_eq_true rfl⟩ rfl rfl (Nat.le_of_ble_eq_true rfl) t1 ?_
  refine T_of rfl (Nat.le_of_ble_eq_true rfl) ?_
  show B g MX9_of 0 0 0 [(0, .ref r0), (1, .int x1), (2, .int 4)] [] S P I _
  refine B.aload_n 0 dX9_of_0 rfl rfl ?_
  obtain ⟨b2, h⟩ := h
  obtain ⟨t3, h⟩ := h
  refine B.getP dX9_of_1 fl_9_7 t1 t3 ?_
  refine B.bipush 60 dX9_of_4 (by decide) ?_
  refine B.bipush 30 dX9_of_6 (by decide) ?_
  refine B.iload_n 1 dX9_of_8 rfl rfl ?_
  refine B.imul dX9_of_9 ?_
  refine B.iadd dX9_of_10 ?_
  refine B.iload_n 2 dX9_of_11 rfl rfl ?_
  refine B.iadd dX9_of_12 ?_
  obtain ⟨t4, h⟩ := h
  obtain ⟨j5, h⟩ := h
  obtain ⟨t6, h⟩ := h
  refine B.iaload dX9_of_13 t4 t6 ?_
  refine B.ireturn dX9_of_14 rfl rfl ?_
  show B g MX9_best 0 0 12 [(0, .ref r0), (1, .int x1), (2, .int x2), (3, .int x3)] [.int (I b2 j5), .int 1, .int x3] S P I _
  refine B.ishl dX9_best_12 ?_
  refine B.icmp_ge 48 dX9_best_13 (by decide) (fun q7 => ?_) (fun q7 => ?_)
  · replace h := h.1 q7
    refine B.iload_n 2 dX9_best_48 rfl rfl ?_
    refine B.ireturn dX9_best_49 rfl rfl ?_
    exact h
  · replace h := h.2 q7
    refine B.aload_n 0 dX9_best_16 rfl rfl ?_
    refine B.iload_n 1 dX9_best_17 rfl rfl ?_
    refine B.iload_n 3 dX9_best_18 rfl rfl ?_
    refine B.callV (M' := MX9_worthOf) (rc := 0) (rs := 0) (mc := 0) (ms := 0) (st := []) [.int x1, .int x3] dX9_best_19 mv_X9_worthOf lk_X9_196 ⟨Nat.le_of_ble_eq_true rfl, Nat.le_of_ble_eq_true rfl⟩ rfl rfl (Nat.le_of_ble_eq_true rfl) t1 ?_
    exact h
theorem s_X9_best_22 {g : GT} {S : ST} {P : PT} {I : IT} {Q : QT} {r0 : Nat} {x1 : Int32} {x2 : Int32} {x3 : Int32} {w_s0 : Int32} (h : sT S r0 = 10 ∧ T g MX9_worthOf 0 0 [.ref r0, .int x1, .int x2] S P I (fun r S' P' I' => B g MX9_best 0 0 28 [(0, .ref r0), (1, .int x1), (2, .int x2), (3, .int x3)] (r.toList ++ [.int w_s0]) S' P' I' Q)) : B g MX9_best 0 0 22 [(0, .ref r0), (1, .int x1), (2, .int x2), (3, .int x3)] [.int w_s0] S P I Q := by
  refine B.aload_n 0 dX9_best_22 rfl rfl ?_
  refine B.iload_n 1 dX9_best_23 rfl rfl ?_
  refine B.iload_n 2 dX9_best_24 rfl rfl ?_
  obtain ⟨t1, h⟩ := h
  refine B.callV (M' := MX9_worthOf) (rc := 0) (rs := 0) (mc := 0) (ms := 0) (st := [.int w_s0]) [.int x1, .int x2] dX9_best_25 mv_X9_worthOf lk_X9_196 ⟨Nat.le_of_ble_eq_true rfl, Nat.le_of_ble_eq_true rfl⟩ rfl rfl (Nat.le_of_ble_eq_true rfl) t1 ?_
  exact h
theorem s_X9_best_28 {g : GT} {S : ST} {P : PT} {I : IT} {Q : QT} {r0 : Nat} {x1 : Int32} {x2 : Int32} {x3 : Int32} {w_s0 : Int32} {w_s1 : Int32} (h : ((w_s1 ≤ w_s0 → B g MX9_best 0 0 4 [(0, .ref r0), (1, .int x1), (2, .int x2), (3, .int (x3 + 1))] [] S P I Q) ∧ (¬ w_s1 ≤ w_s0 → sT S r0 = 10 ∧ T g MX9_can 0 0 [.ref r0, .int x1, .int x3] S P I (fun r S' P' I' => B g MX9_best 0 0 37 [(0, .ref r0), (1, .int x1), (2, .int x2), (3, .int x3)] (r.toList ++ []) S' P' I' Q)))) : B g MX9_best 0 0 28 [(0, .ref r0), (1, .int x1), (2, .int x2), (3, .int x3)] [.int w_s0, .int w_s1] S P I Q := by
  refine B.icmp_le 42 dX9_best_28 (by decide) (fun q1 => ?_) (fun q1 => ?_)
  · replace h := h.1 q1
    refine B.iinc (lv' := [(0, .ref r0), (1, .int x1), (2, .int x2), (3, .int (x3 + 1))]) 3 (x3 + 1) dX9_best_42 rfl rfl (by decide) rfl ?_
    refine B.goto_ 4 dX9_best_45 (by decide) ?_
    exact h
  · replace h := h.2 q1
    refine B.aload_n 0 dX9_best_31 rfl rfl ?_
    refine B.iload_n 1 dX9_best_32 rfl rfl ?_
    refine B.iload_n 3 dX9_best_33 rfl rfl ?_
    obtain ⟨t2, h⟩ := h
    refine B.callV (M' := MX9_can) (rc := 0) (rs := 0) (mc := 0) (ms := 0) (st := []) [.int x1, .int x3] dX9_best_34 mv_X9_can lk_X9_193 ⟨Nat.le_of_ble_eq_true rfl, Nat.le_of_ble_eq_true rfl⟩ rfl rfl (Nat.le_of_ble_eq_true rfl) t2 ?_
    exact h
theorem s_X9_best_37 {g : GT} {S : ST} {P : PT} {I : IT} {Q : QT} {r0 : Nat} {x1 : Int32} {x2 : Int32} {x3 : Int32} {w_s0 : Int32} (h : ((w_s0 = 0 → B g MX9_best 0 0 4 [(0, .ref r0), (1, .int x1), (2, .int x2), (3, .int (x3 + 1))] [] S P I Q) ∧ (¬ w_s0 = 0 → B g MX9_best 0 0 4 [(0, .ref r0), (1, .int x1), (2, .int x3), (3, .int (x3 + 1))] [] S P I Q))) : B g MX9_best 0 0 37 [(0, .ref r0), (1, .int x1), (2, .int x2), (3, .int x3)] [.int w_s0] S P I Q := by
  refine B.if_eq 42 dX9_best_37 (by decide) (fun q1 => ?_) (fun q1 => ?_)
  · replace h := h.1 q1
    refine B.iinc (lv' := [(0, .ref r0), (1, .int x1), (2, .int x2), (3, .int (x3 + 1))]) 3 (x3 + 1) dX9_best_42 rfl rfl (by decide) rfl ?_
    refine B.goto_ 4 dX9_best_45 (by decide) ?_
    exact h
  · replace h := h.2 q1
    refine B.iload_n 3 dX9_best_40 rfl rfl ?_
    refine B.istore_n (lv' := [(0, .ref r0), (1, .int x1), (2, .int x3), (3, .int x3)]) dX9_best_41 rfl (by decide) rfl ?_
    refine B.iinc (lv' := [(0, .ref r0), (1, .int x1), (2, .int x3), (3, .int (x3 + 1))]) 3 (x3 + 1) dX9_best_42 rfl rfl (by decide) rfl ?_
    refine B.goto_ 4 dX9_best_45 (by decide) ?_
    exact h
theorem s_X9_forget_0 {g : GT} {S : ST} {P : PT} {I : IT} {Q : QT} {r0 : Nat} {x1 : Int32} (h : sT S r0 = 10 ∧ ∃ b2, P r0 0 = b2 + 1 ∧ sT S b2 = 40 ∧ ∃ j5, ix 0 j5 (sL S b2) ∧ ((¬ (wi x1 0 ((I b2 j5) - 1)) = 0 → ∃ j8, ix ((60 + (30 * x1)) + 4) j8 (sL S b2) ∧ Q (some (.int 1)) S P (u2 I b2 j8 0)) ∧ ((wi x1 0 ((I b2 j5) - 1)) = 0 → Q (some (.int 0)) S P I))) : B g MX9_forget 0 0 0 [(0, .ref r0), (1, .int x1)] [] S P I Q := by
  refine B.aload_n 0 dX9_forget_0 rfl rfl ?_
  refine B.iload_n 1 dX9_forget_1 rfl rfl ?_
  obtain ⟨t1, h⟩ := h
  refine B.callV (M' := MX9_isHouse) (rc := 0) (rs := 0) (mc := 0) (ms := 0) (st := []) [.int x1] dX9_forget_2 mv_X9_isHouse lk_X9_144 ⟨Nat.le_of_ble_eq_true rfl, Nat.le_of_ble_eq_true rfl⟩ rfl rfl (Nat.le_of_ble_eq_true rfl) t1 ?_
  refine T_of rfl (Nat.le_of_ble_eq_true rfl) ?_
  show B g MX9_isHouse 0 0 0 [(0, .ref r0), (1, .int x1)] [] S P I _
  refine B.iload_n 1 dX9_isHouse_0 rfl rfl ?_
  refine B.iconst 0 dX9_isHouse_1 (by decide) ?_
  refine B.aload_n 0 dX9_isHouse_2 rfl rfl ?_
  obtain ⟨b2, h⟩ := h
  obtain ⟨t3, h⟩ := h
  refine B.getP dX9_isHouse_3 fl_9_7 t1 t3 ?_
  refine B.iconst 0 dX9_isHouse_6 (by decide) ?_
  obtain ⟨t4, h⟩ := h
  obtain ⟨j5, h⟩ := h
  obtain ⟨t6, h⟩ := h
  refine B.iaload dX9_isHouse_7 t4 t6 ?_
  refine B.iconst 1 dX9_isHouse_8 (by decide) ?_
  refine B.isub dX9_isHouse_9 ?_
  refine B.callS (M' := MX9_isIn) (rc := 0) (rs := 0) (mc := 0) (ms := 0) (st := []) [.int x1, .int 0, .int ((I b2 j5) - 1)] dX9_isHouse_10 ms_X9_isIn lk_X9_103 ⟨Nat.le_of_ble_eq_true rfl, Nat.le_of_ble_eq_true rfl⟩ rfl rfl (Nat.le_of_ble_eq_true rfl) (t_isIn ?_)
  show B g MX9_isHouse 0 0 13 [(0, .ref r0), (1, .int x1)] [.int (wi x1 0 ((I b2 j5) - 1))] S P I _
  refine B.ireturn dX9_isHouse_13 rfl (nar_z (wi_01 _ _ _)) ?_
  show B g MX9_forget 0 0 5 [(0, .ref r0), (1, .int x1)] [.int (wi x1 0 ((I b2 j5) - 1))] S P I _
  refine B.if_ne 10 dX9_forget_5 (by decide) (fun q7 => ?_) (fun q7 => ?_)
  · replace h := h.1 q7
    refine B.aload_n 0 dX9_forget_10 rfl rfl ?_
    refine B.getP dX9_forget_11 fl_9_7 t1 t3 ?_
    refine B.bipush 60 dX9_forget_14 (by decide) ?_
    refine B.bipush 30 dX9_forget_16 (by decide) ?_
    refine B.iload_n 1 dX9_forget_18 rfl rfl ?_
    refine B.imul dX9_forget_19 ?_
    refine B.iadd dX9_forget_20 ?_
    refine B.iconst 4 dX9_forget_21 (by decide) ?_
    refine B.iadd dX9_forget_22 ?_
    refine B.iconst 0 dX9_forget_23 (by decide) ?_
    obtain ⟨j8, h⟩ := h
    obtain ⟨t9, h⟩ := h
    refine B.iastore dX9_forget_24 t4 t9 ?_
    refine B.iconst 1 dX9_forget_25 (by decide) ?_
    refine B.ireturn dX9_forget_26 rfl rfl ?_
    exact h
  · replace h := h.2 q7
    refine B.iconst 0 dX9_forget_8 (by decide) ?_
    refine B.ireturn dX9_forget_9 rfl rfl ?_
    exact h
theorem s_X9_count_0 {g : GT} {S : ST} {P : PT} {I : IT} {Q : QT} {r0 : Nat} {x1 : Int32} (h : B g MX9_count 0 0 4 [(0, .ref r0), (1, .int x1), (2, .int 0), (3, .int 0)] [] S P I Q) : B g MX9_count 0 0 0 [(0, .ref r0), (1, .int x1)] [] S P I Q := by
  refine B.iconst 0 dX9_count_0 (by decide) ?_
  refine B.istore_n (lv' := [(0, .ref r0), (1, .int x1), (2, .int 0)]) dX9_count_1 rfl (by decide) rfl ?_
  refine B.iconst 0 dX9_count_2 (by decide) ?_
  refine B.istore_n (lv' := [(0, .ref r0), (1, .int x1), (2, .int 0), (3, .int 0)]) dX9_count_3 rfl (by decide) rfl ?_
  exact h
theorem s_X9_count_4 {g : GT} {S : ST} {P : PT} {I : IT} {Q : QT} {r0 : Nat} {x1 : Int32} {x2 : Int32} {x3 : Int32} (h : sT S r0 = 10 ∧ ∃ b2, P r0 0 = b2 + 1 ∧ sT S b2 = 40 ∧ ∃ j5, ix 2 j5 (sL S b2) ∧ (((I b2 j5) ≤ x3 → ((x1 = 0 → ∃ j9, ix 0 j9 (sL S b2) ∧ Q (some (.int (I b2 j9))) S P I) ∧ (x1 = 1 → ∃ j11, ix 1 j11 (sL S b2) ∧ Q (some (.int (I b2 j11))) S P I) ∧ (x1 = 2 → T g MX9_standing 0 0 [.ref r0] S P I (fun r S' P' I' => B g MX9_count 0 0 102 [(0, .ref r0), (1, .int x1), (2, .int x2), (3, .int x3)] (r.toList ++ []) S' P' I' Q)) ∧ (x1 = 3 → ∃ j13, ix 3 j13 (sL S b2) ∧ Q (some (.int (I b2 j13))) S P I) ∧ (x1 = 4 → ∃ j15, ix 4 j15 (sL S b2) ∧ Q (some (.int (I b2 j15))) S P I) ∧ (x1 = 5 → ∃ j17, ix 5 j17 (sL S b2) ∧ Q (some (.int (I b2 j17))) S P I) ∧ (x1 = 6 → ∃ j19, ix 6 j19 (sL S b2) ∧ Q (some (.int (I b2 j19))) S P I) ∧ (x1 = 7 → Q (some (.int (I b2 j5))) S P I) ∧ (x1 = 8 → Q (some (.int x2)) S P I) ∧ (¬ x1 = 0 → ¬ x1 = 1 → ¬ x1 = 2 → ¬ x1 = 3 → ¬ x1 = 4 → ¬ x1 = 5 → ¬ x1 = 6 → ¬ x1 = 7 → ¬ x1 = 8 → Q (some (.int (-1))) S P I))) ∧ (¬ (I b2 j5) ≤ x3 → ∃ j21, ix (10 + x3) j21 (sL S b2) ∧ B g MX9_count 0 0 4 [(0, .ref r0), (1, .int x1), (2, .int (x2 + (I b2 j21))), (3, .int (x3 + 1))] [] S P I Q))) : B g MX9_count 0 0 4 [(0, .ref r0), (1, .int x1), (2, .int x2), (3, .int x3)] [] S P I Q := by
  refine B.iload_n 3 dX9_count_4 rfl rfl ?_
  refine B.aload_n 0 dX9_count_5 rfl rfl ?_
  obtain ⟨t1, h⟩ := h
  obtain ⟨b2, h⟩ := h
  obtain ⟨t3, h⟩ := h
  refine B.getP dX9_count_6 fl_9_7 t1 t3 ?_
  refine B.iconst 2 dX9_count_9 (by decide) ?_
  obtain ⟨t4, h⟩ := h
  obtain ⟨j5, h⟩ := h
  obtain ⟨t6, h⟩ := h
  refine B.iaload dX9_count_10 t4 t6 ?_
  refine B.icmp_ge 32 dX9_count_11 (by decide) (fun q7 => ?_) (fun q7 => ?_)
  · replace h := h.1 q7
    refine B.iload_n 1 dX9_count_32 rfl rfl ?_
    rcases Decidable.em (x1 = 0) with q8 | q8_0
    · replace h := h.1 q8
      refine B.tableIn 84 dX9_count_33 (by rw [q8]; decide) (by rw [q8]; decide) (by rw [q8]; rfl) (by decide) ?_
      refine B.aload_n 0 dX9_count_84 rfl rfl ?_
      refine B.getP dX9_count_85 fl_9_7 t1 t3 ?_
      refine B.iconst 0 dX9_count_88 (by decide) ?_
      obtain ⟨j9, h⟩ := h
      obtain ⟨t10, h⟩ := h
      refine B.iaload dX9_count_89 t4 t10 ?_
      refine B.ireturn dX9_count_90 rfl rfl ?_
      exact h
    replace h := h.2
    rcases Decidable.em (x1 = 1) with q8 | q8_1
    · replace h := h.1 q8
      refine B.tableIn 91 dX9_count_33 (by rw [q8]; decide) (by rw [q8]; decide) (by rw [q8]; rfl) (by decide) ?_
      refine B.aload_n 0 dX9_count_91 rfl rfl ?_
      refine B.getP dX9_count_92 fl_9_7 t1 t3 ?_
      refine B.iconst 1 dX9_count_95 (by decide) ?_
      obtain ⟨j11, h⟩ := h
      obtain ⟨t12, h⟩ := h
      refine B.iaload dX9_count_96 t4 t12 ?_
      refine B.ireturn dX9_count_97 rfl rfl ?_
      exact h
    replace h := h.2
    rcases Decidable.em (x1 = 2) with q8 | q8_2
    · replace h := h.1 q8
      refine B.tableIn 98 dX9_count_33 (by rw [q8]; decide) (by rw [q8]; decide) (by rw [q8]; rfl) (by decide) ?_
      refine B.aload_n 0 dX9_count_98 rfl rfl ?_
      refine B.callV (M' := MX9_standing) (rc := 0) (rs := 0) (mc := 0) (ms := 0) (st := []) [] dX9_count_99 mv_X9_standing lk_X9_137 ⟨Nat.le_of_ble_eq_true rfl, Nat.le_of_ble_eq_true rfl⟩ rfl rfl (Nat.le_of_ble_eq_true rfl) t1 ?_
      exact h
    replace h := h.2
    rcases Decidable.em (x1 = 3) with q8 | q8_3
    · replace h := h.1 q8
      refine B.tableIn 103 dX9_count_33 (by rw [q8]; decide) (by rw [q8]; decide) (by rw [q8]; rfl) (by decide) ?_
      refine B.aload_n 0 dX9_count_103 rfl rfl ?_
      refine B.getP dX9_count_104 fl_9_7 t1 t3 ?_
      refine B.iconst 3 dX9_count_107 (by decide) ?_
      obtain ⟨j13, h⟩ := h
      obtain ⟨t14, h⟩ := h
      refine B.iaload dX9_count_108 t4 t14 ?_
      refine B.ireturn dX9_count_109 rfl rfl ?_
      exact h
    replace h := h.2
    rcases Decidable.em (x1 = 4) with q8 | q8_4
    · replace h := h.1 q8
      refine B.tableIn 110 dX9_count_33 (by rw [q8]; decide) (by rw [q8]; decide) (by rw [q8]; rfl) (by decide) ?_
      refine B.aload_n 0 dX9_count_110 rfl rfl ?_
      refine B.getP dX9_count_111 fl_9_7 t1 t3 ?_
      refine B.iconst 4 dX9_count_114 (by decide) ?_
      obtain ⟨j15, h⟩ := h
      obtain ⟨t16, h⟩ := h
      refine B.iaload dX9_count_115 t4 t16 ?_
      refine B.ireturn dX9_count_116 rfl rfl ?_
      exact h
    replace h := h.2
    rcases Decidable.em (x1 = 5) with q8 | q8_5
    · replace h := h.1 q8
      refine B.tableIn 117 dX9_count_33 (by rw [q8]; decide) (by rw [q8]; decide) (by rw [q8]; rfl) (by decide) ?_
      refine B.aload_n 0 dX9_count_117 rfl rfl ?_
      refine B.getP dX9_count_118 fl_9_7 t1 t3 ?_
      refine B.iconst 5 dX9_count_121 (by decide) ?_
      obtain ⟨j17, h⟩ := h
      obtain ⟨t18, h⟩ := h
      refine B.iaload dX9_count_122 t4 t18 ?_
      refine B.ireturn dX9_count_123 rfl rfl ?_
      exact h
    replace h := h.2
    rcases Decidable.em (x1 = 6) with q8 | q8_6
    · replace h := h.1 q8
      refine B.tableIn 124 dX9_count_33 (by rw [q8]; decide) (by rw [q8]; decide) (by rw [q8]; rfl) (by decide) ?_
      refine B.aload_n 0 dX9_count_124 rfl rfl ?_
      refine B.getP dX9_count_125 fl_9_7 t1 t3 ?_
      refine B.bipush 6 dX9_count_128 (by decide) ?_
      obtain ⟨j19, h⟩ := h
      obtain ⟨t20, h⟩ := h
      refine B.iaload dX9_count_130 t4 t20 ?_
      refine B.ireturn dX9_count_131 rfl rfl ?_
      exact h
    replace h := h.2
    rcases Decidable.em (x1 = 7) with q8 | q8_7
    · replace h := h.1 q8
      refine B.tableIn 132 dX9_count_33 (by rw [q8]; decide) (by rw [q8]; decide) (by rw [q8]; rfl) (by decide) ?_
      refine B.aload_n 0 dX9_count_132 rfl rfl ?_
      refine B.getP dX9_count_133 fl_9_7 t1 t3 ?_
      refine B.iconst 2 dX9_count_136 (by decide) ?_
      refine B.iaload dX9_count_137 t4 t6 ?_
      refine B.ireturn dX9_count_138 rfl rfl ?_
      exact h
    replace h := h.2
    rcases Decidable.em (x1 = 8) with q8 | q8_8
    · replace h := h.1 q8
      refine B.tableIn 139 dX9_count_33 (by rw [q8]; decide) (by rw [q8]; decide) (by rw [q8]; rfl) (by decide) ?_
      refine B.iload_n 2 dX9_count_139 rfl rfl ?_
      refine B.ireturn dX9_count_140 rfl rfl ?_
      exact h
    replace h := h.2
    replace h := h q8_0 q8_1 q8_2 q8_3 q8_4 q8_5 q8_6 q8_7 q8_8
    have qo : (x1).toInt < 0 ∨ 8 < (x1).toInt := by
      refine tsw_out (lo := 0) (hi := 8) (by decide) (by decide) (fun c h1 h2 => ?_)
      obtain rfl | rfl | rfl | rfl | rfl | rfl | rfl | rfl | rfl : c = 0 ∨ c = 1 ∨ c = 2 ∨ c = 3 ∨ c = 4 ∨ c = 5 ∨ c = 6 ∨ c = 7 ∨ c = 8 := by omega
      · exact q8_0
      · exact q8_1
      · exact q8_2
      · exact q8_3
      · exact q8_4
      · exact q8_5
      · exact q8_6
      · exact q8_7
      · exact q8_8
    refine B.tableOut 141 dX9_count_33 qo (by decide) ?_
    refine B.iconst (-1) dX9_count_141 (by decide) ?_
    refine B.ireturn dX9_count_142 rfl rfl ?_
    exact h
  · replace h := h.2 q7
    refine B.iload_n 2 dX9_count_14 rfl rfl ?_
    refine B.aload_n 0 dX9_count_15 rfl rfl ?_
    refine B.getP dX9_count_16 fl_9_7 t1 t3 ?_
    refine B.bipush 10 dX9_count_19 (by decide) ?_
    refine B.iload_n 3 dX9_count_21 rfl rfl ?_
    refine B.iadd dX9_count_22 ?_
    obtain ⟨j21, h⟩ := h
    obtain ⟨t22, h⟩ := h
    refine B.iaload dX9_count_23 t4 t22 ?_
    refine B.iadd dX9_count_24 ?_
    refine B.istore_n (lv' := [(0, .ref r0), (1, .int x1), (2, .int (x2 + (I b2 j21))), (3, .int x3)]) dX9_count_25 rfl (by decide) rfl ?_
    refine B.iinc (lv' := [(0, .ref r0), (1, .int x1), (2, .int (x2 + (I b2 j21))), (3, .int (x3 + 1))]) 3 (x3 + 1) dX9_count_26 rfl rfl (by decide) rfl ?_
    refine B.goto_ 4 dX9_count_29 (by decide) ?_
    exact h
theorem s_X9_count_102 {g : GT} {S : ST} {P : PT} {I : IT} {Q : QT} {r0 : Nat} {x1 : Int32} {x2 : Int32} {x3 : Int32} {w_s0 : Int32} (h : Q (some (.int w_s0)) S P I) : B g MX9_count 0 0 102 [(0, .ref r0), (1, .int x1), (2, .int x2), (3, .int x3)] [.int w_s0] S P I Q := by
  refine B.ireturn dX9_count_102 rfl rfl ?_
  exact h
theorem s_X9_image_0 {g : GT} {S : ST} {P : PT} {I : IT} {Q : QT} {r0 : Nat} {x1 : Int32} (h : ((¬ (wi x1 0 2) = 0 → sT S r0 = 10 ∧ ∃ b3, P r0 1 = b3 + 1 ∧ sT S b3 = 42 ∧ ∃ j6, ix x1 j6 (sL S b3) ∧ B g MX9_image 0 0 20 [(0, .ref r0), (1, .int x1), (2, .int 0)] [] S P (u2 I b3 j6 1) Q) ∧ ((wi x1 0 2) = 0 → Q (some (.int 0)) S P I))) : B g MX9_image 0 0 0 [(0, .ref r0), (1, .int x1)] [] S P I Q := by
  refine B.iload_n 1 dX9_image_0 rfl rfl ?_
  refine B.iconst 0 dX9_image_1 (by decide) ?_
  refine B.iconst 2 dX9_image_2 (by decide) ?_
  refine B.callS (M' := MX9_isIn) (rc := 0) (rs := 0) (mc := 0) (ms := 0) (st := []) [.int x1, .int 0, .int 2] dX9_image_3 ms_X9_isIn lk_X9_103 ⟨Nat.le_of_ble_eq_true rfl, Nat.le_of_ble_eq_true rfl⟩ rfl rfl (Nat.le_of_ble_eq_true rfl) (t_isIn ?_)
  show B g MX9_image 0 0 6 [(0, .ref r0), (1, .int x1)] [.int (wi x1 0 2)] S P I _
  refine B.if_ne 11 dX9_image_6 (by decide) (fun q1 => ?_) (fun q1 => ?_)
  · replace h := h.1 q1
    refine B.aload_n 0 dX9_image_11 rfl rfl ?_
    obtain ⟨t2, h⟩ := h
    obtain ⟨b3, h⟩ := h
    obtain ⟨t4, h⟩ := h
    refine B.getP dX9_image_12 fl_9_13 t2 t4 ?_
    refine B.iload_n 1 dX9_image_15 rfl rfl ?_
    refine B.iconst 1 dX9_image_16 (by decide) ?_
    obtain ⟨t5, h⟩ := h
    obtain ⟨j6, h⟩ := h
    obtain ⟨t7, h⟩ := h
    refine B.zastore dX9_image_17 t5 t7 (by decide) ?_
    refine B.iconst 0 dX9_image_18 (by decide) ?_
    refine B.istore_n (lv' := [(0, .ref r0), (1, .int x1), (2, .int 0)]) dX9_image_19 rfl (by decide) rfl ?_
    exact h
  · replace h := h.2 q1
    refine B.iconst 0 dX9_image_9 (by decide) ?_
    refine B.ireturn dX9_image_10 rfl rfl ?_
    exact h
theorem s_X9_image_20 {g : GT} {S : ST} {P : PT} {I : IT} {Q : QT} {r0 : Nat} {x1 : Int32} {x2 : Int32} (h : ((1020 ≤ x2 → Q (some (.int 1)) S P I) ∧ (¬ 1020 ≤ x2 → sT S r0 = 10 ∧ ∃ b3, P r0 0 = b3 + 1 ∧ sT S b3 = 40 ∧ ∃ j6, ix x2 j6 (sL S b3) ∧ ∃ j8, ix ((1020 * (x1 + 1)) + x2) j8 (sL S b3) ∧ B g MX9_image 0 0 20 [(0, .ref r0), (1, .int x1), (2, .int (x2 + 1))] [] S P (u2 I b3 j8 (I b3 j6)) Q))) : B g MX9_image 0 0 20 [(0, .ref r0), (1, .int x1), (2, .int x2)] [] S P I Q := by
  refine B.iload_n 2 dX9_image_20 rfl rfl ?_
  refine B.sipush 1020 dX9_image_21 (by decide) ?_
  refine B.icmp_ge 53 dX9_image_24 (by decide) (fun q1 => ?_) (fun q1 => ?_)
  · replace h := h.1 q1
    refine B.iconst 1 dX9_image_53 (by decide) ?_
    refine B.ireturn dX9_image_54 rfl rfl ?_
    exact h
  · replace h := h.2 q1
    refine B.aload_n 0 dX9_image_27 rfl rfl ?_
    obtain ⟨t2, h⟩ := h
    obtain ⟨b3, h⟩ := h
    obtain ⟨t4, h⟩ := h
    refine B.getP dX9_image_28 fl_9_7 t2 t4 ?_
    refine B.sipush 1020 dX9_image_31 (by decide) ?_
    refine B.iload_n 1 dX9_image_34 rfl rfl ?_
    refine B.iconst 1 dX9_image_35 (by decide) ?_
    refine B.iadd dX9_image_36 ?_
    refine B.imul dX9_image_37 ?_
    refine B.iload_n 2 dX9_image_38 rfl rfl ?_
    refine B.iadd dX9_image_39 ?_
    refine B.aload_n 0 dX9_image_40 rfl rfl ?_
    refine B.getP dX9_image_41 fl_9_7 t2 t4 ?_
    refine B.iload_n 2 dX9_image_44 rfl rfl ?_
    obtain ⟨t5, h⟩ := h
    obtain ⟨j6, h⟩ := h
    obtain ⟨t7, h⟩ := h
    refine B.iaload dX9_image_45 t5 t7 ?_
    obtain ⟨j8, h⟩ := h
    obtain ⟨t9, h⟩ := h
    refine B.iastore dX9_image_46 t5 t9 ?_
    refine B.iinc (lv' := [(0, .ref r0), (1, .int x1), (2, .int (x2 + 1))]) 2 (x2 + 1) dX9_image_47 rfl rfl (by decide) rfl ?_
    refine B.goto_ 20 dX9_image_50 (by decide) ?_
    exact h
theorem s_X9_again_0 {g : GT} {S : ST} {P : PT} {I : IT} {Q : QT} {r0 : Nat} {x1 : Int32} (h : (((wi x1 0 2) = 0 → Q (some (.int 0)) S P I) ∧ (¬ (wi x1 0 2) = 0 → sT S r0 = 10 ∧ ∃ b3, P r0 1 = b3 + 1 ∧ sT S b3 = 42 ∧ ∃ j6, ix x1 j6 (sL S b3) ∧ ((¬ (I b3 j6) = 0 → B g MX9_again 0 0 22 [(0, .ref r0), (1, .int x1), (2, .int 0)] [] S P I Q) ∧ ((I b3 j6) = 0 → Q (some (.int 0)) S P I))))) : B g MX9_again 0 0 0 [(0, .ref r0), (1, .int x1)] [] S P I Q := by
  refine B.iload_n 1 dX9_again_0 rfl rfl ?_
  refine B.iconst 0 dX9_again_1 (by decide) ?_
  refine B.iconst 2 dX9_again_2 (by decide) ?_
  refine B.callS (M' := MX9_isIn) (rc := 0) (rs := 0) (mc := 0) (ms := 0) (st := []) [.int x1, .int 0, .int 2] dX9_again_3 ms_X9_isIn lk_X9_103 ⟨Nat.le_of_ble_eq_true rfl, Nat.le_of_ble_eq_true rfl⟩ rfl rfl (Nat.le_of_ble_eq_true rfl) (t_isIn ?_)
  show B g MX9_again 0 0 6 [(0, .ref r0), (1, .int x1)] [.int (wi x1 0 2)] S P I _
  refine B.if_eq 18 dX9_again_6 (by decide) (fun q1 => ?_) (fun q1 => ?_)
  · replace h := h.1 q1
    refine B.iconst 0 dX9_again_18 (by decide) ?_
    refine B.ireturn dX9_again_19 rfl rfl ?_
    exact h
  · replace h := h.2 q1
    refine B.aload_n 0 dX9_again_9 rfl rfl ?_
    obtain ⟨t2, h⟩ := h
    obtain ⟨b3, h⟩ := h
    obtain ⟨t4, h⟩ := h
    refine B.getP dX9_again_10 fl_9_13 t2 t4 ?_
    refine B.iload_n 1 dX9_again_13 rfl rfl ?_
    obtain ⟨t5, h⟩ := h
    obtain ⟨j6, h⟩ := h
    obtain ⟨t7, h⟩ := h
    refine B.zaload dX9_again_14 t5 t7 ?_
    refine B.if_ne 20 dX9_again_15 (by decide) (fun q8 => ?_) (fun q8 => ?_)
    · replace h := h.1 q8
      refine B.iconst 0 dX9_again_20 (by decide) ?_
      refine B.istore_n (lv' := [(0, .ref r0), (1, .int x1), (2, .int 0)]) dX9_again_21 rfl (by decide) rfl ?_
      exact h
    · replace h := h.2 q8
      refine B.iconst 0 dX9_again_18 (by decide) ?_
      refine B.ireturn dX9_again_19 rfl rfl ?_
      exact h
theorem s_X9_again_22 {g : GT} {S : ST} {P : PT} {I : IT} {Q : QT} {r0 : Nat} {x1 : Int32} {x2 : Int32} (h : ((1020 ≤ x2 → Q (some (.int 1)) S P I) ∧ (¬ 1020 ≤ x2 → sT S r0 = 10 ∧ ∃ b3, P r0 0 = b3 + 1 ∧ sT S b3 = 40 ∧ ∃ j6, ix ((1020 * (x1 + 1)) + x2) j6 (sL S b3) ∧ ∃ j8, ix x2 j8 (sL S b3) ∧ B g MX9_again 0 0 22 [(0, .ref r0), (1, .int x1), (2, .int (x2 + 1))] [] S P (u2 I b3 j8 (I b3 j6)) Q))) : B g MX9_again 0 0 22 [(0, .ref r0), (1, .int x1), (2, .int x2)] [] S P I Q := by
  refine B.iload_n 2 dX9_again_22 rfl rfl ?_
  refine B.sipush 1020 dX9_again_23 (by decide) ?_
  refine B.icmp_ge 55 dX9_again_26 (by decide) (fun q1 => ?_) (fun q1 => ?_)
  · replace h := h.1 q1
    refine B.iconst 1 dX9_again_55 (by decide) ?_
    refine B.ireturn dX9_again_56 rfl rfl ?_
    exact h
  · replace h := h.2 q1
    refine B.aload_n 0 dX9_again_29 rfl rfl ?_
    obtain ⟨t2, h⟩ := h
    obtain ⟨b3, h⟩ := h
    obtain ⟨t4, h⟩ := h
    refine B.getP dX9_again_30 fl_9_7 t2 t4 ?_
    refine B.iload_n 2 dX9_again_33 rfl rfl ?_
    refine B.aload_n 0 dX9_again_34 rfl rfl ?_
    refine B.getP dX9_again_35 fl_9_7 t2 t4 ?_
    refine B.sipush 1020 dX9_again_38 (by decide) ?_
    refine B.iload_n 1 dX9_again_41 rfl rfl ?_
    refine B.iconst 1 dX9_again_42 (by decide) ?_
    refine B.iadd dX9_again_43 ?_
    refine B.imul dX9_again_44 ?_
    refine B.iload_n 2 dX9_again_45 rfl rfl ?_
    refine B.iadd dX9_again_46 ?_
    obtain ⟨t5, h⟩ := h
    obtain ⟨j6, h⟩ := h
    obtain ⟨t7, h⟩ := h
    refine B.iaload dX9_again_47 t5 t7 ?_
    obtain ⟨j8, h⟩ := h
    obtain ⟨t9, h⟩ := h
    refine B.iastore dX9_again_48 t5 t9 ?_
    refine B.iinc (lv' := [(0, .ref r0), (1, .int x1), (2, .int (x2 + 1))]) 2 (x2 + 1) dX9_again_49 rfl rfl (by decide) rfl ?_
    refine B.goto_ 22 dX9_again_52 (by decide) ?_
    exact h
