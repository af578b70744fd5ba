/-! the reference's tokens -/
theorem by_c {b : Int32} (h : fits .byte (.int b) = true) : (b &&& 255 = b ∧ 0 ≤ b) ∨ (b < 0 ∧ ∃ j : Nat, 128 ≤ j ∧ j < 256 ∧ b &&& 255 = nI j) := by
  have h2 : (decide (-128 ≤ b) && decide (b ≤ 127)) = true := h
  rw [Bool.and_eq_true] at h2
  have q1 := Int32.le_iff_toInt_le.mp (of_decide_eq_true h2.1)
  have q2 := Int32.le_iff_toInt_le.mp (of_decide_eq_true h2.2)
  have e1 : ((-128 : Int32)).toInt = -128 := by decide
  have e2 : ((127 : Int32)).toInt = 127 := by decide
  rw [e1] at q1
  rw [e2] at q2
  have hm := pk_and b (m := 255) 8 (by decide)
  have hc : b.toInt = if 2 * b.toBitVec.toNat < 2 ^ 32 then (b.toBitVec.toNat : Int) else (b.toBitVec.toNat : Int) - (2 ^ 32 : Nat) := BitVec.toInt_eq_toNat_cond b.toBitVec
  have hlt := b.toBitVec.isLt
  by_cases z : 2 * b.toBitVec.toNat < 2 ^ 32
  · rw [if_pos z] at hc
    refine Or.inl ⟨?_, Int32.le_iff_toInt_le.mpr (by show ((0 : Int32)).toInt ≤ _; rw [show ((0 : Int32)).toInt = 0 by decide]; omega)⟩
    rw [hm, Nat.mod_eq_of_lt (by omega)]
    exact (toInt_lit (by omega) hc).symm
  · rw [if_neg z] at hc
    refine Or.inr ⟨Int32.lt_iff_toInt_lt.mpr (by rw [show ((0 : Int32)).toInt = 0 by decide]; omega), b.toBitVec.toNat % 2 ^ 8, ?_, ?_, hm⟩
    · omega
    · omega
theorem neg_k {b : Int32} {k : Nat} (h : b < 0) (hk : k < 2 ^ 31) : ¬ b = nI k := fun e => by rw [e] at h; exact nI_pos hk h
/-- a byte is a small number, as the class has it or as the reference has it -/
theorem by_k {b : Int32} (h : fits .byte (.int b) = true) {k : Nat} (hk : k < 128) : b &&& 255 = nI k ↔ b = nI k := by
  rcases by_c h with ⟨e, -⟩ | ⟨e, j, j1, j2, j3⟩
  · rw [e]
  · exact ⟨fun z => by rw [j3] at z; have := nI_inj (by omega) (by omega) z; omega, fun z => absurd z (neg_k e (by omega))⟩
theorem by_pos {b : Int32} (h : fits .byte (.int b) = true) : 0 ≤ b &&& 255 := by
  rcases by_c h with ⟨e, q⟩ | ⟨e, j, j1, j2, j3⟩
  · rw [e]; exact q
  · rw [j3]; exact nI_pos' (by omega)
theorem by_bk {b : Int32} (h : fits .byte (.int b) = true) : bkB (b &&& 255) = bkB b := by
  unfold bkB
  exact decide_eq_decide.mpr (or_congr (by_k h (k := 10) (by decide)) (by_k h (k := 32) (by decide)))
theorem by_lt {b : Int32} (h : fits .byte (.int b) = true) : ltB (b &&& 255) = ltB b := by
  rcases by_c h with ⟨e, q⟩ | ⟨e, j, j1, j2, j3⟩
  · rw [e]
  · have h1 : ltB b = false := decide_eq_false (fun z => by
      obtain ⟨c, c1, c2, e2⟩ := lt_nI (decide_eq_true z)
      exact neg_k e (by omega) e2)
    have h2 : ltB (b &&& 255) = false := decide_eq_false (fun z => by
      obtain ⟨c, c1, c2, e2⟩ := lt_nI (decide_eq_true z)
      rw [j3] at e2
      have := nI_inj (by omega) (by omega) e2
      omega)
    rw [h1, h2]
theorem by_dg {b : Int32} (h : fits .byte (.int b) = true) : dgB (b &&& 255) = dgB b := by
  rcases by_c h with ⟨e, q⟩ | ⟨e, j, j1, j2, j3⟩
  · rw [e]
  · have h1 : dgB b = false := decide_eq_false (fun z => by
      obtain ⟨c, c1, c2, e2⟩ := dg_nI (decide_eq_true z)
      exact neg_k e (by omega) e2)
    have h2 : dgB (b &&& 255) = false := decide_eq_false (fun z => by
      obtain ⟨c, c1, c2, e2⟩ := dg_nI (decide_eq_true z)
      rw [j3] at e2
      have := nI_inj (by omega) (by omega) e2
      omega)
    rw [h1, h2]
theorem by_l {b : Int32} (h : fits .byte (.int b) = true) (hl : ltB b = true) : b &&& 255 = b := by
  rcases by_c h with ⟨e, q⟩ | ⟨e, j, j1, j2, j3⟩
  · exact e
  · obtain ⟨c, c1, c2, e2⟩ := lt_nI hl
    exact absurd e2 (neg_k e (by omega))
theorem by_d {b : Int32} (h : fits .byte (.int b) = true) (hl : dgB b = true) : b &&& 255 = b := by
  rcases by_c h with ⟨e, q⟩ | ⟨e, j, j1, j2, j3⟩
  · exact e
  · obtain ⟨c, c1, c2, e2⟩ := dg_nI hl
    exact absurd e2 (neg_k e (by omega))
/-- the reference's token says what the class's says -/
def RT (J : IT) (m : Nat) (k z : Int32) : Prop :=
  (k = 0 ∧ J m 5 = 0) ∨ (k = 1 ∧ J m 5 = 4) ∨ (k = 2 ∧ J m 5 = 1 ∧ J m 6 = z) ∨ (k = 3 ∧ J m 5 = 3 ∧ ∃ s : Nat, s < 7 ∧ z = nI s ∧ J m 8 = nI (s + 1)) ∨ (k = 4 ∧ J m 5 = 2 ∧ ((z = 1 ∧ J m 7 = 60) ∨ (z = 2 ∧ J m 7 = 61) ∨ (z = 4 ∧ J m 7 = 62))) ∨ (k = 5 ∧ J m 5 = 2 ∧ J m 7 = 58) ∨ (k = 6 ∧ J m 5 = 2 ∧ J m 7 = 59) ∨ (k = 7 ∧ J m 5 = 3 ∧ J m 8 = 30) ∨ (k = 8 ∧ J m 5 = 3 ∧ J m 8 = 31) ∨ (k = 9 ∧ J m 5 = 3 ∧ J m 8 = 32) ∨ (k = 10 ∧ J m 5 = 3 ∧ J m 8 = 20) ∨ (k = 11 ∧ J m 5 = 3 ∧ J m 8 = 21)
def w9 (v : Nat) : Int32 := if v = cW 5 then 1 else if v = cW 6 then 2 else if v = cW 7 then 3 else if v = cW 8 then 4 else if v = cW 9 then 5 else if v = cW 10 then 6 else if v = cW 11 then 7 else if v = cW 3 then 20 else if v = cW 4 then 21 else if v = cW 0 then 30 else if v = cW 1 then 31 else if v = cW 2 then 32 else 99
theorem w9_c : (w9 (cW 0) = 30 ∧ w9 (cW 1) = 31 ∧ w9 (cW 2) = 32 ∧ w9 (cW 3) = 20 ∧ w9 (cW 4) = 21) ∧ (w9 (cW 5) = 1 ∧ w9 (cW 6) = 2 ∧ w9 (cW 7) = 3 ∧ w9 (cW 8) = 4 ∧ w9 (cW 9) = 5 ∧ w9 (cW 10) = 6 ∧ w9 (cW 11) = 7) := by decide +kernel
theorem kW_c : (kW (cW 0) = 7 ∧ kW (cW 1) = 8 ∧ kW (cW 2) = 9 ∧ kW (cW 3) = 10 ∧ kW (cW 4) = 11) ∧ (kW (cW 5) = 3 ∧ kW (cW 6) = 3 ∧ kW (cW 7) = 3 ∧ kW (cW 8) = 3 ∧ kW (cW 9) = 3 ∧ kW (cW 10) = 3 ∧ kW (cW 11) = 3) := by decide +kernel
theorem mW_c : mW (cW 5) = 0 ∧ mW (cW 6) = 1 ∧ mW (cW 7) = 2 ∧ mW (cW 8) = 3 ∧ mW (cW 9) = 4 ∧ mW (cW 10) = 5 ∧ mW (cW 11) = 6 := by decide +kernel
theorem kW_no {v : Nat} (h : ∀ i, i < 12 → ¬ v = cW i) : kW v = 1 ∧ w9 v = 99 := by
  have n0 := h 0 (by decide)
  have n1 := h 1 (by decide)
  have n2 := h 2 (by decide)
  have n3 := h 3 (by decide)
  have n4 := h 4 (by decide)
  have n5 := h 5 (by decide)
  have n6 := h 6 (by decide)
  have n7 := h 7 (by decide)
  have n8 := h 8 (by decide)
  have n9 := h 9 (by decide)
  have na := h 10 (by decide)
  have nb := h 11 (by decide)
  have hm : mS v = -1 := by unfold mS; rw [if_neg n5, if_neg n6, if_neg n7, if_neg n8, if_neg n9, if_neg na, if_neg nb]
  exact ⟨by unfold kW; rw [if_neg n0, if_neg n1, if_neg n2, if_neg n3, if_neg n4, if_pos hm], by unfold w9; rw [if_neg n5, if_neg n6, if_neg n7, if_neg n8, if_neg n9, if_neg na, if_neg nb, if_neg n3, if_neg n4, if_neg n0, if_neg n1, if_neg n2]⟩
theorem cW_small : ∀ i, i < 12 → cW i < 34359738368 := by decide +kernel
theorem RT_w {J : IT} {m v : Nat} (h8 : J m 8 = w9 v) (h5 : (J m 5 = 3 ∧ ¬ w9 v = 99) ∨ (J m 5 = 4 ∧ w9 v = 99)) : RT J m (kW v) (mW v) := by
  by_cases hn : ∀ i, i < 12 → ¬ v = cW i
  · obtain ⟨a, b⟩ := kW_no hn
    rcases h5 with ⟨e, q⟩ | ⟨e, q⟩
    · exact absurd b q
    · rw [a]; exact Or.inr (Or.inl ⟨rfl, e⟩)
  · have : ∃ i, i < 12 ∧ v = cW i := Classical.byContradiction (fun z => hn (fun i hi e => z ⟨i, hi, e⟩))
    obtain ⟨i, hi, e⟩ := this
    obtain ⟨⟨a0, a1, a2, a3, a4⟩, ⟨a5, a6, a7, a8, a9, aa, ab⟩⟩ := w9_c
    obtain ⟨⟨b0, b1, b2, b3, b4⟩, ⟨b5, b6, b7, b8, b9, ba, bb⟩⟩ := kW_c
    obtain ⟨m5, m6, m7, m8, m9, ma, mb⟩ := mW_c
    have q5 : ∀ w : Int32, w9 v = w → ¬ w = 99 → J m 5 = 3 := fun w hw hn => h5.elim (fun z => z.1) (fun z => absurd (hw.symm.trans z.2) hn)
    subst e
    rcases (show i = 0 ∨ i = 1 ∨ i = 2 ∨ i = 3 ∨ i = 4 ∨ i = 5 ∨ i = 6 ∨ i = 7 ∨ i = 8 ∨ i = 9 ∨ i = 10 ∨ i = 11 by omega) with rfl | rfl | rfl | rfl | rfl | rfl | rfl | rfl | rfl | rfl | rfl | rfl
    · rw [b0]; exact Or.inr (Or.inr (Or.inr (Or.inr (Or.inr (Or.inr (Or.inr (Or.inl ⟨rfl, q5 _ a0 (by decide), h8.trans a0⟩)))))))
    · rw [b1]; exact Or.inr (Or.inr (Or.inr (Or.inr (Or.inr (Or.inr (Or.inr (Or.inr (Or.inl ⟨rfl, q5 _ a1 (by decide), h8.trans a1⟩))))))))
    · rw [b2]; exact Or.inr (Or.inr (Or.inr (Or.inr (Or.inr (Or.inr (Or.inr (Or.inr (Or.inr (Or.inl ⟨rfl, q5 _ a2 (by decide), h8.trans a2⟩)))))))))
    · rw [b3]; exact Or.inr (Or.inr (Or.inr (Or.inr (Or.inr (Or.inr (Or.inr (Or.inr (Or.inr (Or.inr (Or.inl ⟨rfl, q5 _ a3 (by decide), h8.trans a3⟩))))))))))
    · rw [b4]; exact Or.inr (Or.inr (Or.inr (Or.inr (Or.inr (Or.inr (Or.inr (Or.inr (Or.inr (Or.inr (Or.inr ⟨rfl, q5 _ a4 (by decide), h8.trans a4⟩))))))))))
    · rw [b5, m5]; exact Or.inr (Or.inr (Or.inr (Or.inl ⟨rfl, q5 _ a5 (by decide), 0, by decide, rfl, h8.trans a5⟩)))
    · rw [b6, m6]; exact Or.inr (Or.inr (Or.inr (Or.inl ⟨rfl, q5 _ a6 (by decide), 1, by decide, rfl, h8.trans a6⟩)))
    · rw [b7, m7]; exact Or.inr (Or.inr (Or.inr (Or.inl ⟨rfl, q5 _ a7 (by decide), 2, by decide, rfl, h8.trans a7⟩)))
    · rw [b8, m8]; exact Or.inr (Or.inr (Or.inr (Or.inl ⟨rfl, q5 _ a8 (by decide), 3, by decide, rfl, h8.trans a8⟩)))
    · rw [b9, m9]; exact Or.inr (Or.inr (Or.inr (Or.inl ⟨rfl, q5 _ a9 (by decide), 4, by decide, rfl, h8.trans a9⟩)))
    · rw [ba, ma]; exact Or.inr (Or.inr (Or.inr (Or.inl ⟨rfl, q5 _ aa (by decide), 5, by decide, rfl, h8.trans aa⟩)))
    · rw [bb, mb]; exact Or.inr (Or.inr (Or.inr (Or.inl ⟨rfl, q5 _ ab (by decide), 6, by decide, rfl, h8.trans ab⟩)))
theorem wc_5 : ((((((thr 99 104 97) * 32768) + (thr 109 98 101)) * 32) + 114) - 96) = lN (cW 5) := by decide +kernel
theorem wc_6 : fou 115 112 111 116 = lN (cW 6) := by decide +kernel
theorem wc_7 : ((((fou 115 104 97 112) * 32) + 101) - 96) = lN (cW 7) := by decide +kernel
theorem wc_8 : ((((fou 103 108 97 122) * 32) + 101) - 96) = lN (cW 8) := by decide +kernel
theorem wc_9 : ((((fou 104 111 117 115) * 32) + 101) - 96) = lN (cW 9) := by decide +kernel
theorem wc_10 : thr 119 101 116 = lN (cW 10) := by decide +kernel
theorem wc_11 : fou 114 105 112 101 = lN (cW 11) := by decide +kernel
theorem wc_3 : fou 98 101 97 114 = lN (cW 3) := by decide +kernel
theorem wc_4 : fou 112 97 114 116 = lN (cW 4) := by decide +kernel
theorem wc_0 : (294 : Int64) = lN (cW 0) := by decide +kernel
theorem wc_1 : thr 97 110 100 = lN (cW 1) := by decide +kernel
theorem wc_2 : thr 110 111 116 = lN (cW 2) := by decide +kernel
theorem wcmp {v i : Nat} {c : Int64} (hc : c = lN (cW i)) (hi : i < 12) (hv : v < 2 ^ 63) : lg_cmp (lN v) c = 0 ↔ v = cW i := by
  have := cW_small i hi
  rw [lg_cmp_eq, hc, pk_lEQ hv (by omega)]
section ADV
variable {g : GT} {S : ST} {P : PT} {I : IT} {Q : QT} {m n p q : Nat} {f : Nat → Int32}
theorem t9_wordOf {v : Nat} (hv : v < 2 ^ 63) (h : Q (some (.int (w9 v))) S P I) : T g MX9_wordOf 0 0 [.long (lN v)] S P I Q := by
  refine T_of rfl (Nat.le_of_ble_eq_true rfl) (s_X9_wordOf_0 ?_)
  unfold w9 at h
  refine ⟨fun z5 => ?_, fun z5 => by rw [if_pos ((wcmp wc_5 (by decide) hv).mp z5)] at h; exact h⟩
  rw [if_neg (fun y => z5 ((wcmp wc_5 (by decide) hv).mpr y))] at h
  refine ⟨fun z6 => ?_, fun z6 => by rw [if_pos ((wcmp wc_6 (by decide) hv).mp z6)] at h; exact h⟩
  rw [if_neg (fun y => z6 ((wcmp wc_6 (by decide) hv).mpr y))] at h
  refine ⟨fun z7 => ?_, fun z7 => by rw [if_pos ((wcmp wc_7 (by decide) hv).mp z7)] at h; exact h⟩
  rw [if_neg (fun y => z7 ((wcmp wc_7 (by decide) hv).mpr y))] at h
  refine ⟨fun z8 => ?_, fun z8 => by rw [if_pos ((wcmp wc_8 (by decide) hv).mp z8)] at h; exact h⟩
  rw [if_neg (fun y => z8 ((wcmp wc_8 (by decide) hv).mpr y))] at h
  refine ⟨fun z9 => ?_, fun z9 => by rw [if_pos ((wcmp wc_9 (by decide) hv).mp z9)] at h; exact h⟩
  rw [if_neg (fun y => z9 ((wcmp wc_9 (by decide) hv).mpr y))] at h
  refine ⟨fun za => ?_, fun za => by rw [if_pos ((wcmp wc_10 (by decide) hv).mp za)] at h; exact h⟩
  rw [if_neg (fun y => za ((wcmp wc_10 (by decide) hv).mpr y))] at h
  refine ⟨fun zb => ?_, fun zb => by rw [if_pos ((wcmp wc_11 (by decide) hv).mp zb)] at h; exact h⟩
  rw [if_neg (fun y => zb ((wcmp wc_11 (by decide) hv).mpr y))] at h
  refine ⟨fun z3 => ?_, fun z3 => by rw [if_pos ((wcmp wc_3 (by decide) hv).mp z3)] at h; exact h⟩
  rw [if_neg (fun y => z3 ((wcmp wc_3 (by decide) hv).mpr y))] at h
  refine ⟨fun z4 => ?_, fun z4 => by rw [if_pos ((wcmp wc_4 (by decide) hv).mp z4)] at h; exact h⟩
  rw [if_neg (fun y => z4 ((wcmp wc_4 (by decide) hv).mpr y))] at h
  refine ⟨fun z0 => ?_, fun z0 => by rw [if_pos ((wcmp wc_0 (by decide) hv).mp z0)] at h; exact h⟩
  rw [if_neg (fun y => z0 ((wcmp wc_0 (by decide) hv).mpr y))] at h
  refine ⟨fun z1 => ?_, fun z1 => by rw [if_pos ((wcmp wc_1 (by decide) hv).mp z1)] at h; exact h⟩
  rw [if_neg (fun y => z1 ((wcmp wc_1 (by decide) hv).mpr y))] at h
  refine ⟨fun z2 => ?_, fun z2 => by rw [if_pos ((wcmp wc_2 (by decide) hv).mp z2)] at h; exact h⟩
  rw [if_neg (fun y => z2 ((wcmp wc_2 (by decide) hv).mpr y))] at h
  exact h
/-- the reference's tape, as numbers -/
def RF (I : IT) (m n : Nat) (f : Nat → Int32) : Prop := (I m 2 = nI n ∧ n ≤ 300) ∧ ∀ j, j < n → I (m + 1) (720 + j) = f j &&& 255 ∧ fits .byte (.int (f j)) = true
theorem RF.mv {J : IT} (h : RF I m n f) (h1 : J m 2 = I m 2) (h2 : ∀ j, 720 ≤ j → J (m + 1) j = I (m + 1) j) : RF J m n f := ⟨⟨h1.trans h.1.1, h.1.2⟩, fun j hj => ⟨(h2 _ (by omega)).trans (h.2 j hj).1, (h.2 j hj).2⟩⟩
theorem RF.in (h : RF I m n f) (hq : q < n) : byA I m (nI q) = f q &&& 255 := by
  have := h.1.2
  unfold byA
  rw [h.1.1, if_neg (nI_ge hq (by omega)), nI_clamp (by omega)]
  exact (h.2 q hq).1
theorem RF.out (h : RF I m n f) (hq : n ≤ q) (hq2 : q ≤ 300) : byA I m (nI q) = -1 := by
  unfold byA
  rw [h.1.1, if_pos (nI_le hq (by omega))]
theorem RF.c (h : RF I m n f) (hq : q ≤ 300) (h3 : I m 3 = nI q) : 0 ≤ I m 3 ∧ I m 2 ≤ 300 := by
  rw [h3, h.1.1]
  exact ⟨nI_pos' (by omega), nI_le (b := 300) h.1.2 (by decide)⟩
/-- a word from q on -/
theorem t9_word {x1 : Int32} (hL : LM S P m) (hF : RF I m n f) (h4 : I m 4 = nI q) (h3 : I m 3 = nI q) (hq : q ≤ n) (hlq : ltB (f q) = true) (hqn : q < n) (h : ∀ J : IT, J m 3 = nI (rnE ltB f n q) → RT J m (kW (vl f q (rnE ltB f n q - q))) (mW (vl f q (rnE ltB f n q - q))) → (∀ j, j ≠ 3 → j ≠ 5 → j ≠ 8 → J m j = I m j) → (∀ a j, a ≠ m → J a j = I a j) → Q none S P J) : B g MX9_advance 0 0 77 [(0, .ref m), (1, .int x1), (2, .long 0)] [] S P I Q := by
  have hn := hF.1.2
  have letters : ∀ j, j < rnE ltB f n q - q → ltB (f (q + j)) = true := fun j hj => rnE_in (n := n) (p := q) (by omega) (by omega)
  have fin : ∀ p J l2, q ≤ p → p ≤ n → rnE ltB f n q = p → J m 3 = nI p → (p - q ≤ 8 → l2 = lN (vl f q (p - q))) → (∀ j, j ≠ 3 → J m j = I m j) → (∀ a j, a ≠ m → J a j = I a j) → ((J m 3 - J m 4 ≤ 7 → T g MX9_wordOf 0 0 [.long l2] S P J (fun r S' P' I' => B g MX9_advance 0 0 162 [(0, .ref m), (1, .int x1), (2, .long l2)] (r.toList ++ [.ref m]) S' P' I' Q)) ∧ (¬ J m 3 - J m 4 ≤ 7 → B g MX9_advance 0 0 162 [(0, .ref m), (1, .int x1), (2, .long l2)] [.int 99, .ref m] S P J Q)) := by
    intro p J l2 a1 a2 a3 a4 a5 a6 a7
    rw [a3] at h letters
    have e4 : J m 4 = nI q := (a6 4 (by decide)).trans h4
    rw [a4, e4, pk_sub a1]
    have go : ∀ w : Int32, w = w9 (vl f q (p - q)) → ∀ l2 : Int64, B g MX9_advance 0 0 162 [(0, .ref m), (1, .int x1), (2, .long l2)] [.int w, .ref m] S P J Q := by
      intro w hw l2
      refine s_X9_advance_162 ⟨hL.t, hL.t, fun z => ?_, fun z => ?_⟩
      · rw [u2_s] at z
        refine h _ ?_ (RT_w ?_ (Or.inl ⟨u2_s _ _ _ _, by rw [← hw]; exact z⟩)) (fun j h1 h2 h3 => ?_) (fun a j ha => ?_)
        · rw [u2_k (by decide), u2_k (by decide)]; exact a4
        · rw [u2_k (by decide), u2_s]; exact hw
        · rw [u2_k h2, u2_k h3]; exact a6 j h1
        · rw [u2_a ha, u2_a ha]; exact a7 a j ha
      · rw [u2_s] at z
        refine h _ ?_ (RT_w ?_ (Or.inr ⟨u2_s _ _ _ _, by rw [← hw]; exact z⟩)) (fun j h1 h2 h3 => ?_) (fun a j ha => ?_)
        · rw [u2_k (by decide), u2_k (by decide)]; exact a4
        · rw [u2_k (by decide), u2_s]; exact hw
        · rw [u2_k h2, u2_k h3]; exact a6 j h1
        · rw [u2_a ha, u2_a ha]; exact a7 a j ha
    refine ⟨fun z => ?_, fun z => ?_⟩
    · have h7 : p - q ≤ 7 := (nI_cle (b := 7) (by omega) (by decide)).mp z
      rw [a5 (by omega)]
      have hv := vl_lt (p - q) letters
      have h2 : (32 : Nat) ^ (p - q) ≤ 32 ^ 7 := Nat.pow_le_pow_right (by decide) h7
      have h3 : (32 : Nat) ^ 7 = 34359738368 := by decide
      exact t9_wordOf (by omega) (go _ rfl _)
    · have h8 : 7 < p - q := by
        rcases Nat.lt_or_ge 7 (p - q) with y | y
        · exact y
        · exact absurd ((nI_cle (b := 7) (by omega) (by decide)).mpr y) z
      refine go 99 ?_ _
      have h1 := vl_ge (f := f) (q := q) (p - q - 1) (fun j hj => letters j (by omega))
      have h2 : (32 : Nat) ^ 7 ≤ 32 ^ (p - q - 1) := Nat.pow_le_pow_right (by decide) (by omega)
      have h3 : (32 : Nat) ^ 7 = 34359738368 := by decide
      rw [show p - q - 1 + 1 = p - q by omega] at h1
      exact (kW_no (fun i hi e => by have := cW_small i hi; omega)).2.symm
  have loop : ∀ r p J l2, p + r = n → q ≤ p → rnE ltB f n q = rnE ltB f n p → J m 3 = nI p → (p - q ≤ 8 → l2 = lN (vl f q (p - q))) → (∀ j, j ≠ 3 → J m j = I m j) → (∀ a j, a ≠ m → J a j = I a j) → B g MX9_advance 0 0 77 [(0, .ref m), (1, .int x1), (2, .long l2)] [] S P J Q := by
    intro r
    induction r with
    | zero =>
      intro p J l2 a0 a1 a3 a4 a5 a6 a7
      have hFJ : RF J m n f := hF.mv (a6 2 (by decide)) (fun j _ => a7 _ j (by omega))
      refine s_X9_advance_77 ⟨hL.t, hL, hFJ.c (q := p) (by omega) a4, ?_⟩
      have eb : byA J m (J m 3) = -1 := by rw [a4]; exact hFJ.out (by omega) (by omega)
      rw [eb]
      exact ⟨fun _ => fin p J l2 a1 (by omega) (by rw [a3]; exact rnE_stop (Or.inl (by omega))) a4 a5 a6 a7, fun z => absurd (by decide) z⟩
    | succ r ih =>
      intro p J l2 a0 a1 a3 a4 a5 a6 a7
      have hFJ : RF J m n f := hF.mv (a6 2 (by decide)) (fun j _ => a7 _ j (by omega))
      have hb := (hF.2 p (by omega)).2
      have e4 : J m 4 = nI q := (a6 4 (by decide)).trans h4
      refine s_X9_advance_77 ⟨hL.t, hL, hFJ.c (q := p) (by omega) a4, ?_⟩
      have eb : byA J m (J m 3) = f p &&& 255 := by rw [a4]; exact hFJ.in (by omega)
      rw [eb]
      refine ⟨fun z => fin p J l2 a1 (by omega) (by rw [a3]; exact rnE_stop (Or.inr ((by_lt hb).symm.trans (lt0.mp z)))) a4 a5 a6 a7, fun z => ?_⟩
      have hlt : ltB (f p) = true := (by_lt hb).symm.trans (lt1.mp z)
      rw [a4, e4, pk_sub a1, nI_1, by_l hb hlt]
      refine ⟨fun y => ?_, fun y => ⟨hL, by rw [← a4]; exact hFJ.c (q := p) (by omega) a4, ?_⟩⟩
      · have h8 : 8 ≤ p - q := (nI_cle (a := 8) (by decide) (by omega)).mp y
        exact ih (p + 1) _ _ (by omega) (by omega) (by rw [a3]; exact rnE_step (by omega) hlt) (u2_s _ _ _ _) (fun z => by omega) (fun j hj => (u2_k hj).trans (a6 j hj)) (fun a j ha => (u2_a ha).trans (a7 a j ha))
      · have h8 : p - q < 8 := not_le_nI (a := 8) (b := p - q) (by decide) (by omega) y
        refine ih (p + 1) _ _ (by omega) (by omega) (by rw [a3]; exact rnE_step (by omega) hlt) (u2_s _ _ _ _) (fun _ => ?_) (fun j hj => (u2_k hj).trans (a6 j hj)) (fun a j ha => (u2_a ha).trans (a7 a j ha))
        obtain ⟨c, c1, c2, ec⟩ := lt_nI hlt
        rw [a5 (by omega), show p + 1 - q = (p - q) + 1 by omega, vl, show q + (p - q) = p by omega, ec, dgt_nI (by omega), nI_l (by omega), show (32 : Int64) = lN 32 from rfl, show (96 : Int64) = lN 96 from rfl, lN_mul, lN_add, lN_sub (by omega)]
        congr 1
        omega
  exact loop (n - q) q I 0 (by omega) (Nat.le_refl q) rfl h3 (fun _ => by rw [Nat.sub_self]; rfl) (fun _ _ => rfl) (fun _ _ _ => rfl)
/-- a number from q on -/
theorem t9_num {x1 : Int32} (hL : LM S P m) (hF : RF I m n f) (h4 : I m 4 = nI q) (h3 : I m 3 = nI q) (h6 : I m 6 = 0) (hq : q ≤ n) (h : ∀ J : IT, J m 3 = nI (rnE dgB f n q) → RT J m (if rnE dgB f n q - q ≤ 3 then 2 else 1) (nb f q (rnE dgB f n q - q)) → (∀ j, j ≠ 3 → j ≠ 5 → j ≠ 6 → J m j = I m j) → (∀ a j, a ≠ m → J a j = I a j) → Q none S P J) : B g MX9_advance 0 0 198 [(0, .ref m), (1, .int x1)] [] S P I Q := by
  have hn := hF.1.2
  have fin : ∀ p J, q ≤ p → p ≤ n → rnE dgB f n q = p → J m 3 = nI p → (p - q ≤ 3 → J m 6 = nb f q (p - q)) → (∀ j, j ≠ 3 → j ≠ 6 → J m j = I m j) → (∀ a j, a ≠ m → J a j = I a j) → ((J m 3 - J m 4 ≤ 3 → Q none S P (u2 J m 5 1)) ∧ (¬ J m 3 - J m 4 ≤ 3 → Q none S P (u2 J m 5 4))) := by
    intro p J a1 a2 a3 a4 a5 a6 a7
    rw [a3] at h
    have e4 : J m 4 = nI q := (a6 4 (by decide) (by decide)).trans h4
    rw [a4, e4, pk_sub a1]
    refine ⟨fun z => ?_, fun z => ?_⟩
    · have h7 : p - q ≤ 3 := (nI_cle (b := 3) (by omega) (by decide)).mp z
      rw [if_pos h7] at h
      refine h _ ((u2_k (by decide)).trans a4) (Or.inr (Or.inr (Or.inl ⟨rfl, u2_s _ _ _ _, (u2_k (by decide)).trans (a5 h7)⟩))) (fun j h1 h2 h3 => (u2_k h2).trans (a6 j h1 h3)) (fun a j ha => (u2_a ha).trans (a7 a j ha))
    · have h7 : ¬ p - q ≤ 3 := fun y => z ((nI_cle (b := 3) (by omega) (by decide)).mpr y)
      rw [if_neg h7] at h
      exact h _ ((u2_k (by decide)).trans a4) (Or.inr (Or.inl ⟨rfl, u2_s _ _ _ _⟩)) (fun j h1 h2 h3 => (u2_k h2).trans (a6 j h1 h3)) (fun a j ha => (u2_a ha).trans (a7 a j ha))
  have loop : ∀ r p J, p + r = n → q ≤ p → rnE dgB f n q = rnE dgB f n p → J m 3 = nI p → (p - q ≤ 3 → J m 6 = nb f q (p - q)) → (∀ j, j ≠ 3 → j ≠ 6 → J m j = I m j) → (∀ a j, a ≠ m → J a j = I a j) → B g MX9_advance 0 0 198 [(0, .ref m), (1, .int x1)] [] S P J Q := by
    intro r
    induction r with
    | zero =>
      intro p J a0 a1 a3 a4 a5 a6 a7
      have hFJ : RF J m n f := hF.mv (a6 2 (by decide) (by decide)) (fun j _ => a7 _ j (by omega))
      refine s_X9_advance_198 ⟨hL.t, hL, hFJ.c (q := p) (by omega) a4, ?_⟩
      have eb : byA J m (J m 3) = -1 := by rw [a4]; exact hFJ.out (by omega) (by omega)
      rw [eb]
      exact ⟨fun _ => fin p J a1 (by omega) (by rw [a3]; exact rnE_stop (Or.inl (by omega))) a4 a5 a6 a7, fun z => absurd (by decide) z⟩
    | succ r ih =>
      intro p J a0 a1 a3 a4 a5 a6 a7
      have hFJ : RF J m n f := hF.mv (a6 2 (by decide) (by decide)) (fun j _ => a7 _ j (by omega))
      have hb := (hF.2 p (by omega)).2
      have e4 : J m 4 = nI q := (a6 4 (by decide) (by decide)).trans h4
      refine s_X9_advance_198 ⟨hL.t, hL, hFJ.c (q := p) (by omega) a4, ?_⟩
      have eb : byA J m (J m 3) = f p &&& 255 := by rw [a4]; exact hFJ.in (by omega)
      rw [eb]
      refine ⟨fun z => fin p J a1 (by omega) (by rw [a3]; exact rnE_stop (Or.inr ((by_dg hb).symm.trans (dg0.mp z)))) a4 a5 a6 a7, fun z => ?_⟩
      have hlt : dgB (f p) = true := (by_dg hb).symm.trans (dg1.mp z)
      rw [a4, e4, pk_sub a1, nI_1, by_d hb hlt]
      refine ⟨fun y => ?_, fun y => ⟨hL, by rw [← a4]; exact hFJ.c (q := p) (by omega) a4, ?_⟩⟩
      · have h8 : 3 ≤ p - q := (nI_cle (a := 3) (by decide) (by omega)).mp y
        exact ih (p + 1) _ (by omega) (by omega) (by rw [a3]; exact rnE_step (by omega) hlt) (u2_s _ _ _ _) (fun z => by omega) (fun j h1 h2 => (u2_k h1).trans (a6 j h1 h2)) (fun a j ha => (u2_a ha).trans (a7 a j ha))
      · have h8 : p - q < 3 := not_le_nI (a := 3) (b := p - q) (by decide) (by omega) y
        refine ih (p + 1) _ (by omega) (by omega) (by rw [a3]; exact rnE_step (by omega) hlt) (u2_s _ _ _ _) (fun _ => ?_) (fun j h1 h2 => by rw [u2_k h1, u2_k h2]; exact a6 j h1 h2) (fun a j ha => by rw [u2_a ha, u2_a ha]; exact a7 a j ha)
        rw [u2_k (by decide), u2_s, a5 (by omega), show p + 1 - q = (p - q) + 1 by omega, nb, show q + (p - q) = p by omega]
  exact loop (n - q) q I (by omega) (Nat.le_refl q) rfl h3 (fun _ => by rw [Nat.sub_self]; exact h6) (fun _ _ _ => rfl) (fun _ _ _ => rfl)
theorem RT_s {J : IT} {b : Int32} (h : fits .byte (.int b) = true) (h7 : J m 7 = b &&& 255) (h5 : (isSg (b &&& 255) = 0 ∧ J m 5 = 4) ∨ (¬ isSg (b &&& 255) = 0 ∧ J m 5 = 2)) : RT J m (kS b) (mG b) := by
  have e := fun k (hk : k < 128) => by_k h (k := k) hk
  have hs : ∀ c : Int32, isSg c = 0 ↔ ¬ (c = 58 ∨ c = 59 ∨ c = 60 ∨ c = 62 ∨ c = 61) := fun c => by
    unfold isSg
    by_cases z : c = 58 ∨ c = 59 ∨ c = 60 ∨ c = 62 ∨ c = 61
    · rw [if_pos z]; exact ⟨fun q => absurd q (by decide), fun q => absurd z q⟩
    · rw [if_neg z]; exact ⟨fun _ => z, fun _ => rfl⟩
  have n2 : ∀ k : Nat, k < 128 → (nI k = 58 ∨ nI k = 59 ∨ nI k = 60 ∨ nI k = 62 ∨ nI k = 61) → b = nI k → J m 5 = 2 ∧ J m 7 = nI k := fun k hk hz eb => by
    have ec := (e k hk).mpr eb
    rw [ec] at h5 h7
    exact ⟨h5.elim (fun z => absurd hz ((hs _).mp z.1)) (fun z => z.2), h7⟩
  by_cases b1 : b = 58
  · obtain ⟨j5, j7⟩ := n2 58 (by decide) (Or.inl rfl) b1
    rw [b1]; exact Or.inr (Or.inr (Or.inr (Or.inr (Or.inr (Or.inl ⟨rfl, j5, j7⟩)))))
  by_cases b2 : b = 59
  · obtain ⟨j5, j7⟩ := n2 59 (by decide) (Or.inr (Or.inl rfl)) b2
    rw [b2]; exact Or.inr (Or.inr (Or.inr (Or.inr (Or.inr (Or.inr (Or.inl ⟨rfl, j5, j7⟩))))))
  by_cases b3 : b = 60
  · obtain ⟨j5, j7⟩ := n2 60 (by decide) (Or.inr (Or.inr (Or.inl rfl))) b3
    rw [b3]; exact Or.inr (Or.inr (Or.inr (Or.inr (Or.inl ⟨rfl, j5, Or.inl ⟨rfl, j7⟩⟩))))
  by_cases b4 : b = 61
  · obtain ⟨j5, j7⟩ := n2 61 (by decide) (Or.inr (Or.inr (Or.inr (Or.inr rfl)))) b4
    rw [b4]; exact Or.inr (Or.inr (Or.inr (Or.inr (Or.inl ⟨rfl, j5, Or.inr (Or.inl ⟨rfl, j7⟩)⟩))))
  by_cases b5 : b = 62
  · obtain ⟨j5, j7⟩ := n2 62 (by decide) (Or.inr (Or.inr (Or.inr (Or.inl rfl)))) b5
    rw [b5]; exact Or.inr (Or.inr (Or.inr (Or.inr (Or.inl ⟨rfl, j5, Or.inr (Or.inr ⟨rfl, j7⟩)⟩))))
  have hk : kS b = 1 := by unfold kS; rw [if_neg b1, if_neg b2, if_neg b3, if_neg b4, if_neg b5]
  rw [hk]
  refine Or.inr (Or.inl ⟨rfl, h5.elim (fun z => z.2) (fun z => absurd ((hs _).mpr ?_) z.1)⟩)
  rintro (y | y | y | y | y)
  · exact b1 ((e 58 (by decide)).mp y)
  · exact b2 ((e 59 (by decide)).mp y)
  · exact b3 ((e 60 (by decide)).mp y)
  · exact b5 ((e 62 (by decide)).mp y)
  · exact b4 ((e 61 (by decide)).mp y)
theorem t9_advance (hL : LM S P m) (hF : RF I m n f) (h3 : I m 3 = nI p) (hp : p ≤ n) (h : ∀ J : IT, J m 4 = nI (tkL f n p) → J m 3 = nI (tkN f n p) → RT J m (tqK f n (tkL f n p)) (tqM f n (tkL f n p)) → (∀ j, (j < 3 ∨ 8 < j) → J m j = I m j) → (∀ a j, a ≠ m → J a j = I a j) → Q none S P J) : T g MX9_advance 0 0 [.ref m] S P I Q := by
  have hn := hF.1.2
  refine T_of rfl (Nat.le_of_ble_eq_true rfl) ?_
  have loop : ∀ r q J, q + r = n → rnE bkB f n p = rnE bkB f n q → J m 3 = nI q → (∀ j, j ≠ 3 → J m j = I m j) → (∀ a j, a ≠ m → J a j = I a j) → B g MX9_advance 0 0 0 [(0, .ref m)] [] S P J Q := by
    intro r
    induction r with
    | zero =>
      intro q J a0 a3 a4 a6 a7
      have hFJ : RF J m n f := hF.mv (a6 2 (by decide)) (fun j _ => a7 _ j (by omega))
      have eL : tkL f n p = q := a3.trans (rnE_stop (Or.inl (by omega)))
      rw [tkN, eL] at h
      unfold tqN tqK tqM at h
      have hnq : n ≤ q := by omega
      rw [if_pos hnq, if_pos hnq, if_pos hnq] at h
      have hc := hFJ.c (q := q) (by omega) a4
      have eb : byA J m (J m 3) = -1 := by rw [a4]; exact hFJ.out (by omega) (by omega)
      have hF2 : RF (u2 J m 4 (J m 3)) m n f := hFJ.mv (u2_k (by decide)) (fun j _ => u2_a (by omega))
      have eb2 : byA (u2 J m 4 (J m 3)) m (J m 3) = -1 := by rw [a4] at hF2 ⊢; exact hF2.out (by omega) (by omega)
      refine s_X9_advance_0 ⟨hL.t, hL, hc, ?_⟩
      rw [eb]
      refine ⟨fun z => absurd z (by decide), fun _ => ⟨hL, hc, fun _ => ⟨hL, ⟨hc.1, by rw [u2_k (by decide)]; exact hc.2⟩, ?_⟩, fun z => absurd z (by decide)⟩⟩
      rw [eb2]
      refine ⟨fun z => absurd z (by decide), fun _ => ?_⟩
      rw [a4]
      refine h _ ((u2_k (by decide)).trans (u2_s _ _ _ _)) ?_ (Or.inl ⟨rfl, u2_s _ _ _ _⟩) (fun j hj => ?_) (fun a j ha => ?_)
      · rw [u2_k (by decide), u2_k (by decide)]; exact a4
      · rw [u2_k (by omega), u2_k (by omega)]; exact a6 j (by omega)
      · rw [u2_a ha, u2_a ha]; exact a7 a j ha
    | succ r ih =>
      intro q J a0 a3 a4 a6 a7
      have hFJ : RF J m n f := hF.mv (a6 2 (by decide)) (fun j _ => a7 _ j (by omega))
      have hb := (hF.2 q (by omega)).2
      have hc := hFJ.c (q := q) (by omega) a4
      have eb : byA J m (J m 3) = f q &&& 255 := by rw [a4]; exact hFJ.in (by omega)
      have nxt : bkB (f q) = true → B g MX9_advance 0 0 0 [(0, .ref m)] [] S P (u2 J m 3 (J m 3 + 1)) Q := fun hk => by
        rw [a4, nI_1]
        exact ih (q + 1) _ (by omega) (by rw [a3]; exact rnE_step (by omega) hk) (u2_s _ _ _ _) (fun j hj => (u2_k hj).trans (a6 j hj)) (fun a j ha => (u2_a ha).trans (a7 a j ha))
      refine s_X9_advance_0 ⟨hL.t, hL, hc, ?_⟩
      rw [eb]
      refine ⟨fun z => nxt ((by_bk hb).symm.trans (decide_eq_true (Or.inl z))), fun z1 => ⟨hL, hc, fun z2 => ⟨hL, ⟨hc.1, by rw [u2_k (by decide)]; exact hc.2⟩, ?_⟩, fun z => nxt ((by_bk hb).symm.trans (decide_eq_true (Or.inr z)))⟩⟩
      have nk : bkB (f q) = false := (by_bk hb).symm.trans (decide_eq_false (fun z => z.elim z1 z2))
      have eL : tkL f n p = q := a3.trans (rnE_stop (Or.inr nk))
      rw [tkN, eL] at h
      unfold tqN tqK tqM at h
      have hnq : ¬ n ≤ q := by omega
      rw [if_neg hnq, if_neg hnq, if_neg hnq] at h
      rw [a4]
      have hF2 : RF (u2 J m 4 (nI q)) m n f := hFJ.mv (u2_k (by decide)) (fun j _ => u2_a (by omega))
      have eb2 : byA (u2 J m 4 (nI q)) m (nI q) = f q &&& 255 := hF2.in (by omega)
      have l4 : u2 J m 4 (nI q) m 4 = nI q := u2_s _ _ _ _
      have l3 : u2 J m 4 (nI q) m 3 = nI q := (u2_k (by decide)).trans a4
      have lI : ∀ j, j ≠ 3 → j ≠ 4 → u2 J m 4 (nI q) m j = I m j := fun j h1 h2 => (u2_k h2).trans (a6 j h1)
      have lA : ∀ a j, a ≠ m → u2 J m 4 (nI q) a j = I a j := fun a j ha => (u2_a ha).trans (a7 a j ha)
      rw [eb2]
      generalize u2 J m 4 (nI q) = W at hF2 l4 l3 lI lA ⊢
      refine ⟨fun _ => ⟨fun z => ?_, fun z => ?_⟩, fun z => absurd (by_pos hb) z⟩
      · have nl : ¬ ltB (f q) = true := by rw [(by_lt hb).symm.trans (lt0.mp z)]; decide
        rw [if_neg nl, if_neg nl, if_neg nl] at h
        refine ⟨fun y => ?_, fun y => ?_⟩
        · have nd : ¬ dgB (f q) = true := by rw [(by_dg hb).symm.trans (dg0.mp y)]; decide
          rw [if_neg nd, if_neg nd, if_neg nd] at h
          rw [nI_1]
          have fin : ∀ s : Int32, ((isSg (f q &&& 255) = 0 ∧ s = 4) ∨ (¬ isSg (f q &&& 255) = 0 ∧ s = 2)) → Q none S P (u2 (u2 (u2 W m 3 (nI (q + 1))) m 7 (f q &&& 255)) m 5 s) := by
            intro s hs
            refine h _ ?_ ?_ (RT_s hb ?_ ?_) (fun j hj => ?_) (fun a j ha => ?_)
            · rw [u2_k (by decide), u2_k (by decide), u2_k (by decide)]; exact l4
            · rw [u2_k (by decide), u2_k (by decide), u2_s]
            · rw [u2_k (by decide), u2_s]
            · rw [u2_s]; exact hs
            · rw [u2_k (by omega), u2_k (by omega), u2_k (by omega)]; exact lI j (by omega) (by omega)
            · rw [u2_a ha, u2_a ha, u2_a ha]; exact lA a j ha
          exact ⟨fun u => fin 4 (Or.inl ⟨u, rfl⟩), fun u => fin 2 (Or.inr ⟨u, rfl⟩)⟩
        · have nd := (by_dg hb).symm.trans (dg1.mp y)
          rw [if_pos nd, if_pos nd, if_pos nd] at h
          refine t9_num hL (n := n) (f := f) (q := q) (hF2.mv (u2_k (by decide)) (fun j _ => u2_a (by omega))) ((u2_k (by decide)).trans l4) ((u2_k (by decide)).trans l3) (u2_s _ _ _ _) (by omega) (fun V b1 b2 b3 b4 => ?_)
          exact h V ((b3 4 (by decide) (by decide) (by decide)).trans ((u2_k (by decide)).trans l4)) b1 b2 (fun j hj => (b3 j (by omega) (by omega) (by omega)).trans ((u2_k (by omega)).trans (lI j (by omega) (by omega)))) (fun a j ha => (b4 a j ha).trans ((u2_a ha).trans (lA a j ha)))
      · have nl := (by_lt hb).symm.trans (lt1.mp z)
        rw [if_pos nl, if_pos nl, if_pos nl] at h
        refine t9_word hL (n := n) (f := f) (q := q) hF2 l4 l3 (by omega) nl (by omega) (fun V b1 b2 b3 b4 => ?_)
        exact h V ((b3 4 (by decide) (by decide) (by decide)).trans l4) b1 b2 (fun j hj => (b3 j (by omega) (by omega) (by omega)).trans (lI j (by omega) (by omega))) (fun a j ha => (b4 a j ha).trans (lA a j ha))
  exact loop (n - p) p I (by omega) rfl h3 (fun _ _ => rfl) (fun _ _ _ => rfl)
end ADV
