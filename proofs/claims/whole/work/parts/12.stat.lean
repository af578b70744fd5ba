def bi (c : Prop) [Decidable c] : Int32 := if c then 1 else 0
def isBk (x : Int32) : Int32 := if x = 10 ∨ x = 32 then 1 else 0
def isLt (x : Int32) : Int32 := wi x 97 122
def isDg (x : Int32) : Int32 := wi x 48 57
def isSg (x : Int32) : Int32 := if x = 58 ∨ x = 59 ∨ x = 60 ∨ x = 62 ∨ x = 61 then 1 else 0
def thr (a b c : Int32) : Int64 := ((32 * (a - 96).toInt64 + b.toInt64 - 96) * 32 + c.toInt64 - 96)
def fou (a b c d : Int32) : Int64 := thr a b c * 32 + d.toInt64 - 96
theorem s_X8_within_0 {g : GT} {S : ST} {P : PT} {I : IT} {Q : QT} {x0 : Int32} {x1 : Int32} {x2 : Int32} (h : ((x0 < x1 → Q (some (.int 0)) S P I) ∧ (¬ x0 < x1 → ((x2 < x0 → Q (some (.int 0)) S P I) ∧ (¬ x2 < x0 → Q (some (.int 1)) S P I))))) : B g MX8_within 0 0 0 [(0, .int x0), (1, .int x1), (2, .int x2)] [] S P I Q := by
  refine B.iload_n 0 dX8_within_0 rfl rfl ?_
  refine B.iload_n 1 dX8_within_1 rfl rfl ?_
  refine B.icmp_lt 14 dX8_within_2 (by decide) (fun q1 => ?_) (fun q1 => ?_)
  · replace h := h.1 q1
    refine B.iconst 0 dX8_within_14 (by decide) ?_
    refine B.ireturn dX8_within_15 rfl rfl ?_
    exact h
  · replace h := h.2 q1
    refine B.iload_n 0 dX8_within_5 rfl rfl ?_
    refine B.iload_n 2 dX8_within_6 rfl rfl ?_
    refine B.icmp_gt 14 dX8_within_7 (by decide) (fun q2 => ?_) (fun q2 => ?_)
    · replace h := h.1 q2
      refine B.iconst 0 dX8_within_14 (by decide) ?_
      refine B.ireturn dX8_within_15 rfl rfl ?_
      exact h
    · replace h := h.2 q2
      refine B.iconst 1 dX8_within_10 (by decide) ?_
      refine B.goto_ 15 dX8_within_11 (by decide) ?_
      refine B.ireturn dX8_within_15 rfl rfl ?_
      exact h
theorem t_within {g : GT} {S : ST} {P : PT} {I : IT} {Q : QT} {x a b : Int32} (h : Q (some (.int (wi x a b))) S P I) : T g MX8_within 0 0 [.int x, .int a, .int b] S P I Q := by
  refine T_of rfl (Nat.le_of_ble_eq_true rfl) (s_X8_within_0 ?_)
  unfold wi at h
  refine ⟨fun q => ?_, fun q => ⟨fun q2 => ?_, fun q2 => ?_⟩⟩
  · rw [if_neg (fun z => Int32.not_le.mpr q z.1)] at h; exact h
  · rw [if_neg (fun z => Int32.not_le.mpr q2 z.2)] at h; exact h
  · rw [if_pos ⟨Int32.not_lt.mp q, Int32.not_lt.mp q2⟩] at h; exact h
theorem s_X9_isIn_0 {g : GT} {S : ST} {P : PT} {I : IT} {Q : QT} {x0 : Int32} {x1 : Int32} {x2 : Int32} (h : ((x0 < x1 → Q (some (.int 0)) S P I) ∧ (¬ x0 < x1 → ((x2 < x0 → Q (some (.int 0)) S P I) ∧ (¬ x2 < x0 → Q (some (.int 1)) S P I))))) : B g MX9_isIn 0 0 0 [(0, .int x0), (1, .int x1), (2, .int x2)] [] S P I Q := by
  refine B.iload_n 0 dX9_isIn_0 rfl rfl ?_
  refine B.iload_n 1 dX9_isIn_1 rfl rfl ?_
  refine B.icmp_lt 14 dX9_isIn_2 (by decide) (fun q1 => ?_) (fun q1 => ?_)
  · replace h := h.1 q1
    refine B.iconst 0 dX9_isIn_14 (by decide) ?_
    refine B.ireturn dX9_isIn_15 rfl rfl ?_
    exact h
  · replace h := h.2 q1
    refine B.iload_n 0 dX9_isIn_5 rfl rfl ?_
    refine B.iload_n 2 dX9_isIn_6 rfl rfl ?_
    refine B.icmp_gt 14 dX9_isIn_7 (by decide) (fun q2 => ?_) (fun q2 => ?_)
    · replace h := h.1 q2
      refine B.iconst 0 dX9_isIn_14 (by decide) ?_
      refine B.ireturn dX9_isIn_15 rfl rfl ?_
      exact h
    · replace h := h.2 q2
      refine B.iconst 1 dX9_isIn_10 (by decide) ?_
      refine B.goto_ 15 dX9_isIn_11 (by decide) ?_
      refine B.ireturn dX9_isIn_15 rfl rfl ?_
      exact h
theorem t_isIn {g : GT} {S : ST} {P : PT} {I : IT} {Q : QT} {x a b : Int32} (h : Q (some (.int (wi x a b))) S P I) : T g MX9_isIn 0 0 [.int x, .int a, .int b] S P I Q := by
  refine T_of rfl (Nat.le_of_ble_eq_true rfl) (s_X9_isIn_0 ?_)
  unfold wi at h
  refine ⟨fun q => ?_, fun q => ⟨fun q2 => ?_, fun q2 => ?_⟩⟩
  · rw [if_neg (fun z => Int32.not_le.mpr q z.1)] at h; exact h
  · rw [if_neg (fun z => Int32.not_le.mpr q2 z.2)] at h; exact h
  · rw [if_pos ⟨Int32.not_lt.mp q, Int32.not_lt.mp q2⟩] at h; exact h
theorem s_X6_isLetter_0 {g : GT} {S : ST} {P : PT} {I : IT} {Q : QT} {x0 : Int32} (h : ((x0 < 97 → Q (some (.int 0)) S P I) ∧ (¬ x0 < 97 → ((122 < x0 → Q (some (.int 0)) S P I) ∧ (¬ 122 < x0 → Q (some (.int 1)) S P I))))) : B g MX6_isLetter 0 0 0 [(0, .int x0)] [] S P I Q := by
  refine B.iload_n 0 dX6_isLetter_0 rfl rfl ?_
  refine B.bipush 97 dX6_isLetter_1 (by decide) ?_
  refine B.icmp_lt 16 dX6_isLetter_3 (by decide) (fun q1 => ?_) (fun q1 => ?_)
  · replace h := h.1 q1
    refine B.iconst 0 dX6_isLetter_16 (by decide) ?_
    refine B.ireturn dX6_isLetter_17 rfl rfl ?_
    exact h
  · replace h := h.2 q1
    refine B.iload_n 0 dX6_isLetter_6 rfl rfl ?_
    refine B.bipush 122 dX6_isLetter_7 (by decide) ?_
    refine B.icmp_gt 16 dX6_isLetter_9 (by decide) (fun q2 => ?_) (fun q2 => ?_)
    · replace h := h.1 q2
      refine B.iconst 0 dX6_isLetter_16 (by decide) ?_
      refine B.ireturn dX6_isLetter_17 rfl rfl ?_
      exact h
    · replace h := h.2 q2
      refine B.iconst 1 dX6_isLetter_12 (by decide) ?_
      refine B.goto_ 17 dX6_isLetter_13 (by decide) ?_
      refine B.ireturn dX6_isLetter_17 rfl rfl ?_
      exact h
theorem t_isLetter6 {g : GT} {S : ST} {P : PT} {I : IT} {Q : QT} {x : Int32} (h : Q (some (.int (isLt x))) S P I) : T g MX6_isLetter 0 0 [.int x] S P I Q := by
  refine T_of rfl (Nat.le_of_ble_eq_true rfl) (s_X6_isLetter_0 ?_)
  unfold isLt wi at h
  refine ⟨fun q => ?_, fun q => ⟨fun q2 => ?_, fun q2 => ?_⟩⟩
  · rw [if_neg (fun z => Int32.not_le.mpr q z.1)] at h; exact h
  · rw [if_neg (fun z => Int32.not_le.mpr q2 z.2)] at h; exact h
  · rw [if_pos ⟨Int32.not_lt.mp q, Int32.not_lt.mp q2⟩] at h; exact h
theorem s_X6_isDigit_0 {g : GT} {S : ST} {P : PT} {I : IT} {Q : QT} {x0 : Int32} (h : ((x0 < 48 → Q (some (.int 0)) S P I) ∧ (¬ x0 < 48 → ((57 < x0 → Q (some (.int 0)) S P I) ∧ (¬ 57 < x0 → Q (some (.int 1)) S P I))))) : B g MX6_isDigit 0 0 0 [(0, .int x0)] [] S P I Q := by
  refine B.iload_n 0 dX6_isDigit_0 rfl rfl ?_
  refine B.bipush 48 dX6_isDigit_1 (by decide) ?_
  refine B.icmp_lt 16 dX6_isDigit_3 (by decide) (fun q1 => ?_) (fun q1 => ?_)
  · replace h := h.1 q1
    refine B.iconst 0 dX6_isDigit_16 (by decide) ?_
    refine B.ireturn dX6_isDigit_17 rfl rfl ?_
    exact h
  · replace h := h.2 q1
    refine B.iload_n 0 dX6_isDigit_6 rfl rfl ?_
    refine B.bipush 57 dX6_isDigit_7 (by decide) ?_
    refine B.icmp_gt 16 dX6_isDigit_9 (by decide) (fun q2 => ?_) (fun q2 => ?_)
    · replace h := h.1 q2
      refine B.iconst 0 dX6_isDigit_16 (by decide) ?_
      refine B.ireturn dX6_isDigit_17 rfl rfl ?_
      exact h
    · replace h := h.2 q2
      refine B.iconst 1 dX6_isDigit_12 (by decide) ?_
      refine B.goto_ 17 dX6_isDigit_13 (by decide) ?_
      refine B.ireturn dX6_isDigit_17 rfl rfl ?_
      exact h
theorem t_isDigit6 {g : GT} {S : ST} {P : PT} {I : IT} {Q : QT} {x : Int32} (h : Q (some (.int (isDg x))) S P I) : T g MX6_isDigit 0 0 [.int x] S P I Q := by
  refine T_of rfl (Nat.le_of_ble_eq_true rfl) (s_X6_isDigit_0 ?_)
  unfold isDg wi at h
  refine ⟨fun q => ?_, fun q => ⟨fun q2 => ?_, fun q2 => ?_⟩⟩
  · rw [if_neg (fun z => Int32.not_le.mpr q z.1)] at h; exact h
  · rw [if_neg (fun z => Int32.not_le.mpr q2 z.2)] at h; exact h
  · rw [if_pos ⟨Int32.not_lt.mp q, Int32.not_lt.mp q2⟩] at h; exact h
theorem s_X9_isLetter_0 {g : GT} {S : ST} {P : PT} {I : IT} {Q : QT} {x0 : Int32} (h : ((x0 < 97 → Q (some (.int 0)) S P I) ∧ (¬ x0 < 97 → ((122 < x0 → Q (some (.int 0)) S P I) ∧ (¬ 122 < x0 → Q (some (.int 1)) S P I))))) : B g MX9_isLetter 0 0 0 [(0, .int x0)] [] S P I Q := by
  refine B.iload_n 0 dX9_isLetter_0 rfl rfl ?_
  refine B.bipush 97 dX9_isLetter_1 (by decide) ?_
  refine B.icmp_lt 16 dX9_isLetter_3 (by decide) (fun q1 => ?_) (fun q1 => ?_)
  · replace h := h.1 q1
    refine B.iconst 0 dX9_isLetter_16 (by decide) ?_
    refine B.ireturn dX9_isLetter_17 rfl rfl ?_
    exact h
  · replace h := h.2 q1
    refine B.iload_n 0 dX9_isLetter_6 rfl rfl ?_
    refine B.bipush 122 dX9_isLetter_7 (by decide) ?_
    refine B.icmp_gt 16 dX9_isLetter_9 (by decide) (fun q2 => ?_) (fun q2 => ?_)
    · replace h := h.1 q2
      refine B.iconst 0 dX9_isLetter_16 (by decide) ?_
      refine B.ireturn dX9_isLetter_17 rfl rfl ?_
      exact h
    · replace h := h.2 q2
      refine B.iconst 1 dX9_isLetter_12 (by decide) ?_
      refine B.goto_ 17 dX9_isLetter_13 (by decide) ?_
      refine B.ireturn dX9_isLetter_17 rfl rfl ?_
      exact h
theorem t_isLetter9 {g : GT} {S : ST} {P : PT} {I : IT} {Q : QT} {x : Int32} (h : Q (some (.int (isLt x))) S P I) : T g MX9_isLetter 0 0 [.int x] S P I Q := by
  refine T_of rfl (Nat.le_of_ble_eq_true rfl) (s_X9_isLetter_0 ?_)
  unfold isLt wi at h
  refine ⟨fun q => ?_, fun q => ⟨fun q2 => ?_, fun q2 => ?_⟩⟩
  · rw [if_neg (fun z => Int32.not_le.mpr q z.1)] at h; exact h
  · rw [if_neg (fun z => Int32.not_le.mpr q2 z.2)] at h; exact h
  · rw [if_pos ⟨Int32.not_lt.mp q, Int32.not_lt.mp q2⟩] at h; exact h
theorem s_X9_isDigit_0 {g : GT} {S : ST} {P : PT} {I : IT} {Q : QT} {x0 : Int32} (h : ((x0 < 48 → Q (some (.int 0)) S P I) ∧ (¬ x0 < 48 → ((57 < x0 → Q (some (.int 0)) S P I) ∧ (¬ 57 < x0 → Q (some (.int 1)) S P I))))) : B g MX9_isDigit 0 0 0 [(0, .int x0)] [] S P I Q := by
  refine B.iload_n 0 dX9_isDigit_0 rfl rfl ?_
  refine B.bipush 48 dX9_isDigit_1 (by decide) ?_
  refine B.icmp_lt 16 dX9_isDigit_3 (by decide) (fun q1 => ?_) (fun q1 => ?_)
  · replace h := h.1 q1
    refine B.iconst 0 dX9_isDigit_16 (by decide) ?_
    refine B.ireturn dX9_isDigit_17 rfl rfl ?_
    exact h
  · replace h := h.2 q1
    refine B.iload_n 0 dX9_isDigit_6 rfl rfl ?_
    refine B.bipush 57 dX9_isDigit_7 (by decide) ?_
    refine B.icmp_gt 16 dX9_isDigit_9 (by decide) (fun q2 => ?_) (fun q2 => ?_)
    · replace h := h.1 q2
      refine B.iconst 0 dX9_isDigit_16 (by decide) ?_
      refine B.ireturn dX9_isDigit_17 rfl rfl ?_
      exact h
    · replace h := h.2 q2
      refine B.iconst 1 dX9_isDigit_12 (by decide) ?_
      refine B.goto_ 17 dX9_isDigit_13 (by decide) ?_
      refine B.ireturn dX9_isDigit_17 rfl rfl ?_
      exact h
theorem t_isDigit9 {g : GT} {S : ST} {P : PT} {I : IT} {Q : QT} {x : Int32} (h : Q (some (.int (isDg x))) S P I) : T g MX9_isDigit 0 0 [.int x] S P I Q := by
  refine T_of rfl (Nat.le_of_ble_eq_true rfl) (s_X9_isDigit_0 ?_)
  unfold isDg wi at h
  refine ⟨fun q => ?_, fun q => ⟨fun q2 => ?_, fun q2 => ?_⟩⟩
  · rw [if_neg (fun z => Int32.not_le.mpr q z.1)] at h; exact h
  · rw [if_neg (fun z => Int32.not_le.mpr q2 z.2)] at h; exact h
  · rw [if_pos ⟨Int32.not_lt.mp q, Int32.not_lt.mp q2⟩] at h; exact h
theorem s_X6_isBlank_0 {g : GT} {S : ST} {P : PT} {I : IT} {Q : QT} {x0 : Int32} (h : ((x0 = 10 → Q (some (.int 1)) S P I) ∧ (¬ x0 = 10 → ((¬ x0 = 32 → Q (some (.int 0)) S P I) ∧ (x0 = 32 → Q (some (.int 1)) S P I))))) : B g MX6_isBlank 0 0 0 [(0, .int x0)] [] S P I Q := by
  refine B.iload_n 0 dX6_isBlank_0 rfl rfl ?_
  refine B.bipush 10 dX6_isBlank_1 (by decide) ?_
  refine B.icmp_eq 12 dX6_isBlank_3 (by decide) (fun q1 => ?_) (fun q1 => ?_)
  · replace h := h.1 q1
    refine B.iconst 1 dX6_isBlank_12 (by decide) ?_
    refine B.goto_ 17 dX6_isBlank_13 (by decide) ?_
    refine B.ireturn dX6_isBlank_17 rfl rfl ?_
    exact h
  · replace h := h.2 q1
    refine B.iload_n 0 dX6_isBlank_6 rfl rfl ?_
    refine B.bipush 32 dX6_isBlank_7 (by decide) ?_
    refine B.icmp_ne 16 dX6_isBlank_9 (by decide) (fun q2 => ?_) (fun q2 => ?_)
    · replace h := h.1 q2
      refine B.iconst 0 dX6_isBlank_16 (by decide) ?_
      refine B.ireturn dX6_isBlank_17 rfl rfl ?_
      exact h
    · replace h := h.2 q2
      refine B.iconst 1 dX6_isBlank_12 (by decide) ?_
      refine B.goto_ 17 dX6_isBlank_13 (by decide) ?_
      refine B.ireturn dX6_isBlank_17 rfl rfl ?_
      exact h
theorem t_isBlank {g : GT} {S : ST} {P : PT} {I : IT} {Q : QT} {x : Int32} (h : Q (some (.int (isBk x))) S P I) : T g MX6_isBlank 0 0 [.int x] S P I Q := by
  refine T_of rfl (Nat.le_of_ble_eq_true rfl) (s_X6_isBlank_0 ?_)
  unfold isBk at h
  refine ⟨fun q => ?_, fun q => ⟨fun q2 => ?_, fun q2 => ?_⟩⟩
  · rw [if_pos (Or.inl q)] at h; exact h
  · rw [if_neg (fun z => z.elim q q2)] at h; exact h
  · rw [if_pos (Or.inr q2)] at h; exact h
theorem s_X9_isSignByte_0 {g : GT} {S : ST} {P : PT} {I : IT} {Q : QT} {x0 : Int32} (h : ((x0 = 58 → Q (some (.int 1)) S P I) ∧ (¬ x0 = 58 → ((x0 = 59 → Q (some (.int 1)) S P I) ∧ (¬ x0 = 59 → ((x0 = 60 → Q (some (.int 1)) S P I) ∧ (¬ x0 = 60 → ((x0 = 62 → Q (some (.int 1)) S P I) ∧ (¬ x0 = 62 → ((¬ x0 = 61 → Q (some (.int 0)) S P I) ∧ (x0 = 61 → Q (some (.int 1)) S P I))))))))))) : B g MX9_isSignByte 0 0 0 [(0, .int x0)] [] S P I Q := by
  refine B.iload_n 0 dX9_isSignByte_0 rfl rfl ?_
  refine B.bipush 58 dX9_isSignByte_1 (by decide) ?_
  refine B.icmp_eq 30 dX9_isSignByte_3 (by decide) (fun q1 => ?_) (fun q1 => ?_)
  · replace h := h.1 q1
    refine B.iconst 1 dX9_isSignByte_30 (by decide) ?_
    refine B.goto_ 35 dX9_isSignByte_31 (by decide) ?_
    refine B.ireturn dX9_isSignByte_35 rfl rfl ?_
    exact h
  · replace h := h.2 q1
    refine B.iload_n 0 dX9_isSignByte_6 rfl rfl ?_
    refine B.bipush 59 dX9_isSignByte_7 (by decide) ?_
    refine B.icmp_eq 30 dX9_isSignByte_9 (by decide) (fun q2 => ?_) (fun q2 => ?_)
    · replace h := h.1 q2
      refine B.iconst 1 dX9_isSignByte_30 (by decide) ?_
      refine B.goto_ 35 dX9_isSignByte_31 (by decide) ?_
      refine B.ireturn dX9_isSignByte_35 rfl rfl ?_
      exact h
    · replace h := h.2 q2
      refine B.iload_n 0 dX9_isSignByte_12 rfl rfl ?_
      refine B.bipush 60 dX9_isSignByte_13 (by decide) ?_
      refine B.icmp_eq 30 dX9_isSignByte_15 (by decide) (fun q3 => ?_) (fun q3 => ?_)
      · replace h := h.1 q3
        refine B.iconst 1 dX9_isSignByte_30 (by decide) ?_
        refine B.goto_ 35 dX9_isSignByte_31 (by decide) ?_
        refine B.ireturn dX9_isSignByte_35 rfl rfl ?_
        exact h
      · replace h := h.2 q3
        refine B.iload_n 0 dX9_isSignByte_18 rfl rfl ?_
        refine B.bipush 62 dX9_isSignByte_19 (by decide) ?_
        refine B.icmp_eq 30 dX9_isSignByte_21 (by decide) (fun q4 => ?_) (fun q4 => ?_)
        · replace h := h.1 q4
          refine B.iconst 1 dX9_isSignByte_30 (by decide) ?_
          refine B.goto_ 35 dX9_isSignByte_31 (by decide) ?_
          refine B.ireturn dX9_isSignByte_35 rfl rfl ?_
          exact h
        · replace h := h.2 q4
          refine B.iload_n 0 dX9_isSignByte_24 rfl rfl ?_
          refine B.bipush 61 dX9_isSignByte_25 (by decide) ?_
          refine B.icmp_ne 34 dX9_isSignByte_27 (by decide) (fun q5 => ?_) (fun q5 => ?_)
          · replace h := h.1 q5
            refine B.iconst 0 dX9_isSignByte_34 (by decide) ?_
            refine B.ireturn dX9_isSignByte_35 rfl rfl ?_
            exact h
          · replace h := h.2 q5
            refine B.iconst 1 dX9_isSignByte_30 (by decide) ?_
            refine B.goto_ 35 dX9_isSignByte_31 (by decide) ?_
            refine B.ireturn dX9_isSignByte_35 rfl rfl ?_
            exact h
theorem t_isSign {g : GT} {S : ST} {P : PT} {I : IT} {Q : QT} {x : Int32} (h : Q (some (.int (isSg x))) S P I) : T g MX9_isSignByte 0 0 [.int x] S P I Q := by
  refine T_of rfl (Nat.le_of_ble_eq_true rfl) (s_X9_isSignByte_0 ?_)
  unfold isSg at h
  refine ⟨fun q => ?_, fun q => ⟨fun q2 => ?_, fun q2 => ⟨fun q3 => ?_, fun q3 => ⟨fun q4 => ?_, fun q4 => ⟨fun q5 => ?_, fun q5 => ?_⟩⟩⟩⟩⟩ <;> simp_all
theorem s_X9_three_0 {g : GT} {S : ST} {P : PT} {I : IT} {Q : QT} {x0 : Int32} {x1 : Int32} {x2 : Int32} (h : Q (some (.long ((((((32 * ((x0 - 96)).toInt64) + (x1).toInt64) - 96) * 32) + (x2).toInt64) - 96))) S P I) : B g MX9_three 0 0 0 [(0, .int x0), (1, .int x1), (2, .int x2)] [] S P I Q := by
  refine B.ldc2 32 dX9_three_0 kl_X9_34 ?_
  refine B.iload_n 0 dX9_three_3 rfl rfl ?_
  refine B.bipush 96 dX9_three_4 (by decide) ?_
  refine B.isub dX9_three_6 ?_
  refine B.i2l dX9_three_7 ?_
  refine B.lmul dX9_three_8 ?_
  refine B.iload_n 1 dX9_three_9 rfl rfl ?_
  refine B.i2l dX9_three_10 ?_
  refine B.ladd dX9_three_11 ?_
  refine B.ldc2 96 dX9_three_12 kl_X9_36 ?_
  refine B.lsub dX9_three_15 ?_
  refine B.ldc2 32 dX9_three_16 kl_X9_34 ?_
  refine B.lmul dX9_three_19 ?_
  refine B.iload_n 2 dX9_three_20 rfl rfl ?_
  refine B.i2l dX9_three_21 ?_
  refine B.ladd dX9_three_22 ?_
  refine B.ldc2 96 dX9_three_23 kl_X9_36 ?_
  refine B.lsub dX9_three_26 ?_
  refine B.lreturn dX9_three_27 rfl ?_
  exact h
theorem t_three {g : GT} {S : ST} {P : PT} {I : IT} {Q : QT} {a b c : Int32} (h : Q (some (.long (thr a b c))) S P I) : T g MX9_three 0 0 [.int a, .int b, .int c] S P I Q := by
  refine T_of rfl (Nat.le_of_ble_eq_true rfl) (s_X9_three_0 ?_)
  exact h
theorem s_X9_four_0 {g : GT} {S : ST} {P : PT} {I : IT} {Q : QT} {x0 : Int32} {x1 : Int32} {x2 : Int32} {x3 : Int32} (h : Q (some (.long ((((thr x0 x1 x2) * 32) + (x3).toInt64) - 96))) S P I) : B g MX9_four 0 0 0 [(0, .int x0), (1, .int x1), (2, .int x2), (3, .int x3)] [] S P I Q := by
  refine B.iload_n 0 dX9_four_0 rfl rfl ?_
  refine B.iload_n 1 dX9_four_1 rfl rfl ?_
  refine B.iload_n 2 dX9_four_2 rfl rfl ?_
  refine B.callS (M' := MX9_three) (rc := 0) (rs := 0) (mc := 0) (ms := 0) (st := []) [.int x0, .int x1, .int x2] dX9_four_3 ms_X9_three lk_X9_38 ⟨Nat.le_of_ble_eq_true rfl, Nat.le_of_ble_eq_true rfl⟩ rfl rfl (Nat.le_of_ble_eq_true rfl) (t_three ?_)
  show B g MX9_four 0 0 6 [(0, .int x0), (1, .int x1), (2, .int x2), (3, .int x3)] [.long (thr x0 x1 x2)] S P I _
  refine B.ldc2 32 dX9_four_6 kl_X9_34 ?_
  refine B.lmul dX9_four_9 ?_
  refine B.iload_n 3 dX9_four_10 rfl rfl ?_
  refine B.i2l dX9_four_11 ?_
  refine B.ladd dX9_four_12 ?_
  refine B.ldc2 96 dX9_four_13 kl_X9_36 ?_
  refine B.lsub dX9_four_16 ?_
  refine B.lreturn dX9_four_17 rfl ?_
  exact h
theorem t_four {g : GT} {S : ST} {P : PT} {I : IT} {Q : QT} {a b c d : Int32} (h : Q (some (.long (fou a b c d))) S P I) : T g MX9_four 0 0 [.int a, .int b, .int c, .int d] S P I Q := by
  refine T_of rfl (Nat.le_of_ble_eq_true rfl) (s_X9_four_0 ?_)
  exact h
theorem s_X9_byteAt_0 {g : GT} {S : ST} {P : PT} {I : IT} {Q : QT} {r0 : Nat} {x1 : Int32} (h : sT S r0 = 10 ∧ (((I r0 2) ≤ x1 → Q (some (.int (-1))) S P I) ∧ (¬ (I r0 2) ≤ x1 → ∃ b3, P r0 0 = b3 + 1 ∧ sT S b3 = 40 ∧ ∃ j6, ix (720 + x1) j6 (sL S b3) ∧ Q (some (.int (I b3 j6))) S P I))) : B g MX9_byteAt 0 0 0 [(0, .ref r0), (1, .int x1)] [] S P I Q := by
  refine B.iload_n 1 dX9_byteAt_0 rfl rfl ?_
  refine B.aload_n 0 dX9_byteAt_1 rfl rfl ?_
  obtain ⟨t1, h⟩ := h
  refine B.getI dX9_byteAt_2 fl_9_30 t1 ?_
  refine B.icmp_ge 21 dX9_byteAt_5 (by decide) (fun q2 => ?_) (fun q2 => ?_)
  · replace h := h.1 q2
    refine B.iconst (-1) dX9_byteAt_21 (by decide) ?_
    refine B.ireturn dX9_byteAt_22 rfl rfl ?_
    exact h
  · replace h := h.2 q2
    refine B.aload_n 0 dX9_byteAt_8 rfl rfl ?_
    obtain ⟨b3, h⟩ := h
    obtain ⟨t4, h⟩ := h
    refine B.getP dX9_byteAt_9 fl_9_7 t1 t4 ?_
    refine B.sipush 720 dX9_byteAt_12 (by decide) ?_
    refine B.iload_n 1 dX9_byteAt_15 rfl rfl ?_
    refine B.iadd dX9_byteAt_16 ?_
    obtain ⟨t5, h⟩ := h
    obtain ⟨j6, h⟩ := h
    obtain ⟨t7, h⟩ := h
    refine B.iaload dX9_byteAt_17 t5 t7 ?_
    refine B.goto_ 22 dX9_byteAt_18 (by decide) ?_
    refine B.ireturn dX9_byteAt_22 rfl rfl ?_
    exact h
theorem t_byteAt {g : GT} {S : ST} {P : PT} {I : IT} {Q : QT} {m : Nat} {x : Int32} (hL : LM S P m) (hb : 0 ≤ x ∧ I m 2 ≤ 300) (h : Q (some (.int (byA I m x))) S P I) : T g MX9_byteAt 0 0 [.ref m, .int x] S P I Q := by
  refine T_of rfl (Nat.le_of_ble_eq_true rfl) (s_X9_byteAt_0 ⟨hL.t, fun q => ?_, fun q => ?_⟩)
  · unfold byA at h
    rw [if_pos q] at h
    exact h
  · unfold byA at h
    rw [if_neg q] at h
    have h1 := Int32.le_iff_toInt_le.mp hb.2
    have h2 := Int32.lt_iff_toInt_lt.mp (Int32.not_le.mp q)
    obtain ⟨j, hj, rfl⟩ := nI_of (Int32.not_lt.mpr hb.1)
    rw [nI_clamp hj] at h
    have h3 : ((300 : Int32)).toInt = 300 := by decide
    rw [nI_toInt hj] at h2
    exact ⟨_, hL.p, hL.a, 720 + j, hL.ix (nI_add 720 j) (by omega), h⟩
