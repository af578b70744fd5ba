theorem dJ0_length_8abf5_0 : decode cJ0_length_8abf5 0 = .ok (.aload_n 0, 1) := by decide +kernel
theorem dJ0_length_8abf5_1 : decode cJ0_length_8abf5 1 = .ok (.getfield 9, 3) := by decide +kernel
theorem dJ0_length_8abf5_4 : decode cJ0_length_8abf5 4 = .ok (.arraylength, 1) := by decide +kernel
theorem dJ0_length_8abf5_5 : decode cJ0_length_8abf5 5 = .ok (.aload_n 0, 1) := by decide +kernel
theorem dJ0_length_8abf5_6 : decode cJ0_length_8abf5 6 = .ok (.invokevirtual 335, 3) := by decide +kernel
theorem dJ0_length_8abf5_9 : decode cJ0_length_8abf5 9 = .ok (.ishr, 1) := by decide +kernel
theorem dJ0_length_8abf5_10 : decode cJ0_length_8abf5 10 = .ok (.ireturn, 1) := by decide +kernel
theorem dJ0_coder_7d493_0 : decode cJ0_coder_7d493 0 = .ok (.getstatic 38, 3) := by decide +kernel
theorem dJ0_coder_7d493_3 : decode cJ0_coder_7d493 3 = .ok (.ifCond .eq 10, 3) := by decide +kernel
theorem dJ0_coder_7d493_6 : decode cJ0_coder_7d493 6 = .ok (.aload_n 0, 1) := by decide +kernel
theorem dJ0_coder_7d493_7 : decode cJ0_coder_7d493 7 = .ok (.getfield 15, 3) := by decide +kernel
theorem dJ0_coder_7d493_10 : decode cJ0_coder_7d493 10 = .ok (.goto 4, 3) := by decide +kernel
theorem dJ0_coder_7d493_13 : decode cJ0_coder_7d493 13 = .ok (.iconst 1, 1) := by decide +kernel
theorem dJ0_coder_7d493_14 : decode cJ0_coder_7d493 14 = .ok (.ireturn, 1) := by decide +kernel
theorem dJ0_charAt_5068e_0 : decode cJ0_charAt_5068e 0 = .ok (.aload_n 0, 1) := by decide +kernel
theorem dJ0_charAt_5068e_1 : decode cJ0_charAt_5068e 1 = .ok (.invokevirtual 492, 3) := by decide +kernel
theorem dJ0_charAt_5068e_4 : decode cJ0_charAt_5068e 4 = .ok (.ifCond .eq 12, 3) := by decide +kernel
theorem dJ0_charAt_5068e_7 : decode cJ0_charAt_5068e 7 = .ok (.aload_n 0, 1) := by decide +kernel
theorem dJ0_charAt_5068e_8 : decode cJ0_charAt_5068e 8 = .ok (.getfield 9, 3) := by decide +kernel
theorem dJ0_charAt_5068e_11 : decode cJ0_charAt_5068e 11 = .ok (.iload_n 1, 1) := by decide +kernel
theorem dJ0_charAt_5068e_12 : decode cJ0_charAt_5068e 12 = .ok (.invokestatic 495, 3) := by decide +kernel
theorem dJ0_charAt_5068e_15 : decode cJ0_charAt_5068e 15 = .ok (.ireturn, 1) := by decide +kernel
theorem dJ0_charAt_5068e_16 : decode cJ0_charAt_5068e 16 = .ok (.aload_n 0, 1) := by decide +kernel
theorem dJ0_charAt_5068e_17 : decode cJ0_charAt_5068e 17 = .ok (.getfield 9, 3) := by decide +kernel
theorem dJ0_charAt_5068e_20 : decode cJ0_charAt_5068e 20 = .ok (.iload_n 1, 1) := by decide +kernel
theorem dJ0_charAt_5068e_21 : decode cJ0_charAt_5068e 21 = .ok (.invokestatic 498, 3) := by decide +kernel
theorem dJ0_charAt_5068e_24 : decode cJ0_charAt_5068e 24 = .ok (.ireturn, 1) := by decide +kernel
theorem dJ0_isLatin1_aae02_0 : decode cJ0_isLatin1_aae02 0 = .ok (.getstatic 38, 3) := by decide +kernel
theorem dJ0_isLatin1_aae02_3 : decode cJ0_isLatin1_aae02 3 = .ok (.ifCond .eq 14, 3) := by decide +kernel
theorem dJ0_isLatin1_aae02_6 : decode cJ0_isLatin1_aae02 6 = .ok (.aload_n 0, 1) := by decide +kernel
theorem dJ0_isLatin1_aae02_7 : decode cJ0_isLatin1_aae02 7 = .ok (.getfield 15, 3) := by decide +kernel
theorem dJ0_isLatin1_aae02_10 : decode cJ0_isLatin1_aae02 10 = .ok (.ifCond .ne 7, 3) := by decide +kernel
theorem dJ0_isLatin1_aae02_13 : decode cJ0_isLatin1_aae02 13 = .ok (.iconst 1, 1) := by decide +kernel
theorem dJ0_isLatin1_aae02_14 : decode cJ0_isLatin1_aae02 14 = .ok (.goto 4, 3) := by decide +kernel
theorem dJ0_isLatin1_aae02_17 : decode cJ0_isLatin1_aae02 17 = .ok (.iconst 0, 1) := by decide +kernel
theorem dJ0_isLatin1_aae02_18 : decode cJ0_isLatin1_aae02 18 = .ok (.ireturn, 1) := by decide +kernel
theorem dJ1_charAt_3b067_0 : decode cJ1_charAt_3b067 0 = .ok (.iload_n 1, 1) := by decide +kernel
theorem dJ1_charAt_3b067_1 : decode cJ1_charAt_3b067 1 = .ok (.aload_n 0, 1) := by decide +kernel
theorem dJ1_charAt_3b067_2 : decode cJ1_charAt_3b067 2 = .ok (.arraylength, 1) := by decide +kernel
theorem dJ1_charAt_3b067_3 : decode cJ1_charAt_3b067 3 = .ok (.invokestatic 9, 3) := by decide +kernel
theorem dJ1_charAt_3b067_6 : decode cJ1_charAt_3b067 6 = .ok (.aload_n 0, 1) := by decide +kernel
theorem dJ1_charAt_3b067_7 : decode cJ1_charAt_3b067 7 = .ok (.iload_n 1, 1) := by decide +kernel
theorem dJ1_charAt_3b067_8 : decode cJ1_charAt_3b067 8 = .ok (.baload, 1) := by decide +kernel
theorem dJ1_charAt_3b067_9 : decode cJ1_charAt_3b067 9 = .ok (.sipush 255, 3) := by decide +kernel
theorem dJ1_charAt_3b067_12 : decode cJ1_charAt_3b067 12 = .ok (.iand, 1) := by decide +kernel
theorem dJ1_charAt_3b067_13 : decode cJ1_charAt_3b067 13 = .ok (.i2c, 1) := by decide +kernel
theorem dJ1_charAt_3b067_14 : decode cJ1_charAt_3b067 14 = .ok (.ireturn, 1) := by decide +kernel
theorem dJ0_checkIndex_df160_0 : decode cJ0_checkIndex_df160 0 = .ok (.iload_n 0, 1) := by decide +kernel
theorem dJ0_checkIndex_df160_1 : decode cJ0_checkIndex_df160 1 = .ok (.iload_n 1, 1) := by decide +kernel
theorem dJ0_checkIndex_df160_2 : decode cJ0_checkIndex_df160 2 = .ok (.getstatic 1053, 3) := by decide +kernel
theorem dJ0_checkIndex_df160_5 : decode cJ0_checkIndex_df160 5 = .ok (.invokestatic 1059, 3) := by decide +kernel
theorem dJ0_checkIndex_df160_8 : decode cJ0_checkIndex_df160 8 = .ok (.pop, 1) := by decide +kernel
theorem dJ0_checkIndex_df160_9 : decode cJ0_checkIndex_df160 9 = .ok (.return_, 1) := by decide +kernel
theorem dJ3_checkIndex_8e157_0 : decode cJ3_checkIndex_8e157 0 = .ok (.iload_n 0, 1) := by decide +kernel
theorem dJ3_checkIndex_8e157_1 : decode cJ3_checkIndex_8e157 1 = .ok (.ifCond .lt 8, 3) := by decide +kernel
theorem dJ3_checkIndex_8e157_4 : decode cJ3_checkIndex_8e157 4 = .ok (.iload_n 0, 1) := by decide +kernel
theorem dJ3_checkIndex_8e157_5 : decode cJ3_checkIndex_8e157 5 = .ok (.iload_n 1, 1) := by decide +kernel
theorem dJ3_checkIndex_8e157_6 : decode cJ3_checkIndex_8e157 6 = .ok (.if_icmp .lt 10, 3) := by decide +kernel
theorem dJ3_checkIndex_8e157_9 : decode cJ3_checkIndex_8e157 9 = .ok (.aload_n 2, 1) := by decide +kernel
theorem dJ3_checkIndex_8e157_10 : decode cJ3_checkIndex_8e157 10 = .ok (.iload_n 0, 1) := by decide +kernel
theorem dJ3_checkIndex_8e157_11 : decode cJ3_checkIndex_8e157 11 = .ok (.iload_n 1, 1) := by decide +kernel
theorem dJ3_checkIndex_8e157_12 : decode cJ3_checkIndex_8e157 12 = .ok (.invokestatic 95, 3) := by decide +kernel
theorem dJ3_checkIndex_8e157_15 : decode cJ3_checkIndex_8e157 15 = .ok (.athrow, 1) := by decide +kernel
theorem dJ3_checkIndex_8e157_16 : decode cJ3_checkIndex_8e157 16 = .ok (.iload_n 0, 1) := by decide +kernel
theorem dJ3_checkIndex_8e157_17 : decode cJ3_checkIndex_8e157 17 = .ok (.ireturn, 1) := by decide +kernel
abbrev MJ0_length_8abf5 : MT := (yJ0_length_8abf5, cJ0_length_8abf5, 1, some .int, 1, 20)
abbrev MJ0_coder_7d493 : MT := (yJ0_coder_7d493, cJ0_coder_7d493, 1, some .byte, 0, 0)
abbrev MJ0_charAt_5068e : MT := (yJ0_charAt_5068e, cJ0_charAt_5068e, 2, some .char, 4, 85)
abbrev MJ0_isLatin1_aae02 : MT := (yJ0_isLatin1_aae02, cJ0_isLatin1_aae02, 1, some .boolean, 0, 0)
abbrev MJ1_charAt_3b067 : MT := (yJ1_charAt_3b067, cJ1_charAt_3b067, 2, some .char, 2, 43)
abbrev MJ0_checkIndex_df160 : MT := (yJ0_checkIndex_df160, cJ0_checkIndex_df160, 2, none, 1, 22)
abbrev MJ3_checkIndex_8e157 : MT := (yJ3_checkIndex_8e157, cJ3_checkIndex_8e157, 3, some .int, 0, 0)
theorem mvs_J0_length_8abf5 : MVs MJ0_length_8abf5 0 := ⟨⟨gw_at 444 (by decide +kernel) rfl, gw_at 66 (by decide +kernel) rfl, ⟨by decide, by decide⟩, by decide +kernel⟩, gw_at 442 (by decide +kernel) rfl, gw_at 443 (by decide +kernel) rfl, rfl⟩
theorem mvs_J0_coder_7d493 : MVs MJ0_coder_7d493 0 := ⟨⟨gw_at 448 (by decide +kernel) rfl, gw_at 66 (by decide +kernel) rfl, ⟨by decide, by decide⟩, by decide +kernel⟩, gw_at 446 (by decide +kernel) rfl, gw_at 447 (by decide +kernel) rfl, rfl⟩
theorem mvs_J0_charAt_5068e : MVs MJ0_charAt_5068e 1 := ⟨⟨gw_at 454 (by decide +kernel) rfl, gw_at 66 (by decide +kernel) rfl, ⟨by decide, by decide⟩, by decide +kernel⟩, gw_at 452 (by decide +kernel) rfl, gw_at 453 (by decide +kernel) rfl, rfl⟩
theorem mvs_J0_isLatin1_aae02 : MVs MJ0_isLatin1_aae02 0 := ⟨⟨gw_at 458 (by decide +kernel) rfl, gw_at 66 (by decide +kernel) rfl, ⟨by decide, by decide⟩, by decide +kernel⟩, gw_at 456 (by decide +kernel) rfl, gw_at 457 (by decide +kernel) rfl, rfl⟩
theorem ms_J1_charAt_3b067 : MS MJ1_charAt_3b067 2 := ⟨⟨gw_at 461 (by decide +kernel) rfl, gw_at 67 (by decide +kernel) rfl, ⟨by decide, by decide⟩, by decide +kernel⟩, gw_at 460 (by decide +kernel) rfl⟩
theorem ms_J0_checkIndex_df160 : MS MJ0_checkIndex_df160 2 := ⟨⟨gw_at 464 (by decide +kernel) rfl, gw_at 66 (by decide +kernel) rfl, ⟨by decide, by decide⟩, by decide +kernel⟩, gw_at 463 (by decide +kernel) rfl⟩
theorem ms_J3_checkIndex_8e157 : MS MJ3_checkIndex_8e157 3 := ⟨⟨gw_at 469 (by decide +kernel) rfl, gw_at 68 (by decide +kernel) rfl, ⟨by decide, by decide⟩, by decide +kernel⟩, gw_at 468 (by decide +kernel) rfl⟩
theorem lk_J0_335 : Cond.methodLink RJ0 335 yJ0_coder_7d493 ∈ gws := gw_at 445 (by decide +kernel) rfl
theorem lk_J0_492 : Cond.methodLink RJ0 492 yJ0_isLatin1_aae02 ∈ gws := gw_at 455 (by decide +kernel) rfl
theorem lk_J0_495 : Cond.methodLink RJ0 495 yJ1_charAt_3b067 ∈ gws := gw_at 459 (by decide +kernel) rfl
theorem lk_J1_9 : Cond.methodLink RJ1 9 yJ0_checkIndex_df160 ∈ gws := gw_at 462 (by decide +kernel) rfl
theorem lk_J0_1059 : Cond.methodLink RJ0 1059 yJ3_checkIndex_8e157 ∈ gws := gw_at 467 (by decide +kernel) rfl
theorem lk_X6_98 : Cond.methodLink RX6 98 yJ0_length_8abf5 ∈ gws := gw_at 441 (by decide +kernel) rfl
theorem lk_X6_102 : Cond.methodLink RX6 102 yJ0_charAt_5068e ∈ gws := gw_at 451 (by decide +kernel) rfl
theorem fs_38 : Cond.fieldLink RJ0 38 "java/lang/String" "COMPACT_STRINGS" "Z" ∈ gws := gw_at 449 (by decide +kernel) rfl
theorem fs_1053 : Cond.fieldLink RJ0 1053 "jdk/internal/util/Preconditions" "SIOOBE_FORMATTER" "Ljava/util/function/BiFunction;" ∈ gws := gw_at 465 (by decide +kernel) rfl
theorem fs_9 : Cond.fieldLink RJ0 9 "java/lang/String" "value" "[B" ∈ gws := gw_at 1136 (by decide +kernel) rfl
theorem fs_15 : Cond.fieldLink RJ0 15 "java/lang/String" "coder" "B" ∈ gws := gw_at 1137 (by decide +kernel) rfl
theorem tln_lt {i : Nat} (hi : i < 12) : t_ln.getD i 0 < 8 ∧ 2 ≤ t_ln.getD i 0 := by
  have : ∀ i, i < 12 → t_ln.getD i 0 < 8 ∧ 2 ≤ t_ln.getD i 0 := by decide
  exact this i hi
def tch (i k : Nat) : Int32 := (t_by.getD i []).getD k 0
theorem tch_ok {i k : Nat} (hi : i < 12) (hk : k < t_ln.getD i 0) : 97 ≤ tch i k ∧ tch i k ≤ 122 ∧ tch i k &&& 255 = tch i k := by
  have : ∀ i, i < 12 → ∀ k, k < 8 → k < t_ln.getD i 0 → 97 ≤ tch i k ∧ tch i k ≤ 122 ∧ tch i k &&& 255 = tch i k := by decide +kernel
  exact this i hi k (by have := (tln_lt hi).1; omega) hk
section STRS
variable {g : GT} {S : ST} {P : PT} {I : IT} {Q : QT}
theorem t_chk3 {k n : Int32} {t : Nat} (h0 : ¬ k < 0) (h1 : k < n) (h : Q (some (.int k)) S P I) : T g MJ3_checkIndex_8e157 0 0 [.int k, .int n, rv t] S P I Q := by
  have body : ∀ v : Value, B g MJ3_checkIndex_8e157 0 0 0 [(0, .int k), (1, .int n), (2, v)] [] S P I Q := by
    intro v
    refine B.iload_n 0 dJ3_checkIndex_8e157_0 rfl rfl ?_
    refine B.if_lt 9 dJ3_checkIndex_8e157_1 (by decide) (fun q => absurd q h0) (fun _ => ?_)
    refine B.iload_n 0 dJ3_checkIndex_8e157_4 rfl rfl ?_
    refine B.iload_n 1 dJ3_checkIndex_8e157_5 rfl rfl ?_
    refine B.icmp_lt 16 dJ3_checkIndex_8e157_6 (by decide) (fun _ => ?_) (fun q => absurd h1 q)
    refine B.iload_n 0 dJ3_checkIndex_8e157_16 rfl rfl ?_
    exact B.ireturn dJ3_checkIndex_8e157_17 rfl rfl h
  cases t with
  | zero => exact T_of rfl (Nat.le_of_ble_eq_true rfl) (body _)
  | succ t => exact T_of rfl (Nat.le_of_ble_eq_true rfl) (body _)
theorem t_chk0 {k n : Int32} (h0 : ¬ k < 0) (h1 : k < n) (h : Q none S P I) : T g MJ0_checkIndex_df160 0 0 [.int k, .int n] S P I Q := by
  refine T_of rfl (Nat.le_of_ble_eq_true rfl) ?_
  show B g MJ0_checkIndex_df160 0 0 0 [(0, .int k), (1, .int n)] [] S P I _
  refine B.iload_n 0 dJ0_checkIndex_df160_0 rfl rfl ?_
  refine B.iload_n 1 dJ0_checkIndex_df160_1 rfl rfl ?_
  refine B.getsF dJ0_checkIndex_df160_2 fs_1053 (fun t => ?_)
  refine B.callS (M' := MJ3_checkIndex_8e157) (rc := 0) (rs := 0) (mc := 0) (ms := 0) (st := []) [.int k, .int n, rv t] dJ0_checkIndex_df160_5 ms_J3_checkIndex_8e157 lk_J0_1059 ⟨Nat.le_of_ble_eq_true rfl, Nat.le_of_ble_eq_true rfl⟩ rfl rfl (Nat.le_of_ble_eq_true rfl) (t_chk3 h0 h1 ?_)
  show B g MJ0_checkIndex_df160 0 0 8 [(0, .int k), (1, .int n)] [.int k] S P I _
  refine B.pop dJ0_checkIndex_df160_8 rfl ?_
  exact B.return_ dJ0_checkIndex_df160_9 rfl h
theorem t_chr1 {i k : Nat} (hi : i < 12) (hk : k < t_ln.getD i 0) (h : Q (some (.int (tch i k))) S P I) : T g MJ1_charAt_3b067 0 0 [.ref (gV g i), .int (nI k)] S P I Q := by
  have hl := (tln_lt hi).1
  refine T_of rfl (Nat.le_of_ble_eq_true rfl) ?_
  show B g MJ1_charAt_3b067 0 0 0 [(0, .ref (gV g i)), (1, .int (nI k))] [] S P I _
  refine B.iload_n 1 dJ1_charAt_3b067_0 rfl rfl ?_
  refine B.aload_n 0 dJ1_charAt_3b067_1 rfl rfl ?_
  refine B.alenS dJ1_charAt_3b067_2 hi ?_
  refine B.callS (M' := MJ0_checkIndex_df160) (rc := 0) (rs := 0) (mc := 0) (ms := 0) (st := []) [.int (nI k), .int (nI (t_ln.getD i 0))] dJ1_charAt_3b067_3 ms_J0_checkIndex_df160 lk_J1_9 ⟨Nat.le_of_ble_eq_true rfl, Nat.le_of_ble_eq_true rfl⟩ rfl rfl (Nat.le_of_ble_eq_true rfl) (t_chk0 (nI_pos (by omega)) (nI_lt hk (by omega)) ?_)
  show B g MJ1_charAt_3b067 0 0 6 [(0, .ref (gV g i)), (1, .int (nI k))] [] S P I _
  refine B.aload_n 0 dJ1_charAt_3b067_6 rfl rfl ?_
  refine B.iload_n 1 dJ1_charAt_3b067_7 rfl rfl ?_
  refine B.baloadS dJ1_charAt_3b067_8 hi (ix_n hk (by omega)) ?_
  refine B.sipush 255 dJ1_charAt_3b067_9 (by decide) ?_
  refine B.iand dJ1_charAt_3b067_12 ?_
  refine B.i2c dJ1_charAt_3b067_13 ?_
  rw [sc_c2]
  have e := (tch_ok hi hk).2.2
  unfold tch at e h
  refine B.ireturn dJ1_charAt_3b067_14 rfl (sc_nar _) ?_
  rw [e]
  exact h
theorem t_coder {i : Nat} (hi : i < 12) (h : Q (some (.int 0)) S P I) : T g MJ0_coder_7d493 0 0 [.ref (gK g i)] S P I Q := by
  refine T_of rfl (Nat.le_of_ble_eq_true rfl) ?_
  show B g MJ0_coder_7d493 0 0 0 [(0, .ref (gK g i))] [] S P I _
  refine B.getsC dJ0_coder_7d493_0 fs_38 ?_
  refine B.if_eq 13 dJ0_coder_7d493_3 (by decide) (fun q => absurd q (by decide)) (fun _ => ?_)
  refine B.aload_n 0 dJ0_coder_7d493_6 rfl rfl ?_
  refine B.getSc dJ0_coder_7d493_7 hi fs_15 ?_
  refine B.goto_ 14 dJ0_coder_7d493_10 (by decide) ?_
  exact B.ireturn dJ0_coder_7d493_14 rfl rfl h
theorem t_latin {i : Nat} (hi : i < 12) (h : Q (some (.int 1)) S P I) : T g MJ0_isLatin1_aae02 0 0 [.ref (gK g i)] S P I Q := by
  refine T_of rfl (Nat.le_of_ble_eq_true rfl) ?_
  show B g MJ0_isLatin1_aae02 0 0 0 [(0, .ref (gK g i))] [] S P I _
  refine B.getsC dJ0_isLatin1_aae02_0 fs_38 ?_
  refine B.if_eq 17 dJ0_isLatin1_aae02_3 (by decide) (fun q => absurd q (by decide)) (fun _ => ?_)
  refine B.aload_n 0 dJ0_isLatin1_aae02_6 rfl rfl ?_
  refine B.getSc dJ0_isLatin1_aae02_7 hi fs_15 ?_
  refine B.if_ne 17 dJ0_isLatin1_aae02_10 (by decide) (fun q => absurd rfl q) (fun _ => ?_)
  refine B.iconst 1 dJ0_isLatin1_aae02_13 (by decide) ?_
  refine B.goto_ 18 dJ0_isLatin1_aae02_14 (by decide) ?_
  exact B.ireturn dJ0_isLatin1_aae02_18 rfl rfl h
theorem t_slen {i : Nat} (hi : i < 12) (h : Q (some (.int (nI (t_ln.getD i 0)))) S P I) : T g MJ0_length_8abf5 0 0 [.ref (gK g i)] S P I Q := by
  have hl := (tln_lt hi).1
  refine T_of rfl (Nat.le_of_ble_eq_true rfl) ?_
  show B g MJ0_length_8abf5 0 0 0 [(0, .ref (gK g i))] [] S P I _
  refine B.aload_n 0 dJ0_length_8abf5_0 rfl rfl ?_
  refine B.getSv dJ0_length_8abf5_1 hi fs_9 ?_
  refine B.alenS dJ0_length_8abf5_4 hi ?_
  refine B.aload_n 0 dJ0_length_8abf5_5 rfl rfl ?_
  refine B.callStr (M' := MJ0_coder_7d493) (rc := 0) (rs := 0) (mc := 0) (ms := 0) (st := [.int (nI (t_ln.getD i 0))]) [] hi dJ0_length_8abf5_6 mvs_J0_coder_7d493 lk_J0_335 ⟨Nat.le_of_ble_eq_true rfl, Nat.le_of_ble_eq_true rfl⟩ rfl rfl (Nat.le_of_ble_eq_true rfl) (t_coder hi ?_)
  show B g MJ0_length_8abf5 0 0 9 [(0, .ref (gK g i))] [.int 0, .int (nI (t_ln.getD i 0))] S P I _
  refine B.ishr dJ0_length_8abf5_9 ?_
  rw [sc_shr0 (by omega)]
  exact B.ireturn dJ0_length_8abf5_10 rfl rfl h
theorem t_schr {i k : Nat} (hi : i < 12) (hk : k < t_ln.getD i 0) (h : Q (some (.int (tch i k))) S P I) : T g MJ0_charAt_5068e 0 0 [.ref (gK g i), .int (nI k)] S P I Q := by
  have e := (tch_ok hi hk).2.2
  refine T_of rfl (Nat.le_of_ble_eq_true rfl) ?_
  show B g MJ0_charAt_5068e 0 0 0 [(0, .ref (gK g i)), (1, .int (nI k))] [] S P I _
  refine B.aload_n 0 dJ0_charAt_5068e_0 rfl rfl ?_
  refine B.callStr (M' := MJ0_isLatin1_aae02) (rc := 0) (rs := 0) (mc := 0) (ms := 0) (st := []) [] hi dJ0_charAt_5068e_1 mvs_J0_isLatin1_aae02 lk_J0_492 ⟨Nat.le_of_ble_eq_true rfl, Nat.le_of_ble_eq_true rfl⟩ rfl rfl (Nat.le_of_ble_eq_true rfl) (t_latin hi ?_)
  show B g MJ0_charAt_5068e 0 0 4 [(0, .ref (gK g i)), (1, .int (nI k))] [.int 1] S P I _
  refine B.if_eq 16 dJ0_charAt_5068e_4 (by decide) (fun q => absurd q (by decide)) (fun _ => ?_)
  refine B.aload_n 0 dJ0_charAt_5068e_7 rfl rfl ?_
  refine B.getSv dJ0_charAt_5068e_8 hi fs_9 ?_
  refine B.iload_n 1 dJ0_charAt_5068e_11 rfl rfl ?_
  refine B.callS (M' := MJ1_charAt_3b067) (rc := 0) (rs := 0) (mc := 0) (ms := 0) (st := []) [.ref (gV g i), .int (nI k)] dJ0_charAt_5068e_12 ms_J1_charAt_3b067 lk_J0_495 ⟨Nat.le_of_ble_eq_true rfl, Nat.le_of_ble_eq_true rfl⟩ rfl rfl (Nat.le_of_ble_eq_true rfl) (t_chr1 hi hk ?_)
  show B g MJ0_charAt_5068e 0 0 15 [(0, .ref (gK g i)), (1, .int (nI k))] [.int (tch i k)] S P I _
  exact B.ireturn dJ0_charAt_5068e_15 rfl (by rw [← e]; exact sc_nar _) h
/-- wordIs: the bytes from 'first' to 'next' are the text -/
theorem t_wordIs {i k t q e : Nat} (hi : i < 12) (hk : sT S k = 7) (hp : P k 0 = t + 1) (ht : LT S P t) (h4 : I k 4 = nI q) (h5 : I k 5 = nI e) (hqe : q ≤ e) (he : e ≤ 300)
    (hy : e - q = t_ln.getD i 0 → (∀ j, j < t_ln.getD i 0 → I (t + 1) (q + j) = tch i j) → Q (some (.int 1)) S P I) (hn : ¬ (e - q = t_ln.getD i 0 ∧ ∀ j, j < t_ln.getD i 0 → I (t + 1) (q + j) = tch i j) → Q (some (.int 0)) S P I) : T g MX6_wordIs 0 0 [.ref k, .ref (gK g i)] S P I Q := by
  have hl := (tln_lt hi).1
  refine T_of rfl (Nat.le_of_ble_eq_true rfl) ?_
  show B g MX6_wordIs 0 0 0 [(0, .ref k), (1, .ref (gK g i))] [] S P I _
  refine B.aload_n 1 dX6_wordIs_0 rfl rfl ?_
  refine B.callStr (M' := MJ0_length_8abf5) (rc := 0) (rs := 0) (mc := 0) (ms := 0) (st := []) [] hi dX6_wordIs_1 mvs_J0_length_8abf5 lk_X6_98 ⟨Nat.le_of_ble_eq_true rfl, Nat.le_of_ble_eq_true rfl⟩ rfl rfl (Nat.le_of_ble_eq_true rfl) (t_slen hi ?_)
  show B g MX6_wordIs 0 0 4 [(0, .ref k), (1, .ref (gK g i))] [.int (nI (t_ln.getD i 0))] S P I _
  refine B.aload_n 0 dX6_wordIs_4 rfl rfl ?_
  refine B.getI dX6_wordIs_5 fl_6_25 hk ?_
  refine B.aload_n 0 dX6_wordIs_8 rfl rfl ?_
  refine B.getI dX6_wordIs_9 fl_6_21 hk ?_
  refine B.isub dX6_wordIs_12 ?_
  rw [h4, h5, pk_sub hqe]
  refine B.icmp_eq 18 dX6_wordIs_13 (by decide) (fun q1 => ?_) (fun q1 => ?_)
  · have eL : t_ln.getD i 0 = e - q := nI_inj (by omega) (by omega) q1
    refine B.iconst 0 dX6_wordIs_18 (by decide) ?_
    refine B.istore_n (lv' := [(0, .ref k), (1, .ref (gK g i)), (2, .int 0)]) dX6_wordIs_19 rfl (by decide) rfl ?_
    have loop : ∀ n j, j + n = t_ln.getD i 0 → (∀ y, y < j → I (t + 1) (q + y) = tch i y) → B g MX6_wordIs 0 0 20 [(0, .ref k), (1, .ref (gK g i)), (2, .int (nI j))] [] S P I Q := by
      intro n
      induction n with
      | zero =>
        intro j hj hd
        refine B.iload_n 2 dX6_wordIs_20 rfl rfl ?_
        refine B.aload_n 1 dX6_wordIs_21 rfl rfl ?_
        refine B.callStr (M' := MJ0_length_8abf5) (rc := 0) (rs := 0) (mc := 0) (ms := 0) (st := [.int (nI j)]) [] hi dX6_wordIs_22 mvs_J0_length_8abf5 lk_X6_98 ⟨Nat.le_of_ble_eq_true rfl, Nat.le_of_ble_eq_true rfl⟩ rfl rfl (Nat.le_of_ble_eq_true rfl) (t_slen hi ?_)
        show B g MX6_wordIs 0 0 25 [(0, .ref k), (1, .ref (gK g i)), (2, .int (nI j))] [.int (nI (t_ln.getD i 0)), .int (nI j)] S P I _
        refine B.icmp_ge 58 dX6_wordIs_25 (by decide) (fun _ => ?_) (fun q => absurd (nI_le (by omega) (by omega)) q)
        refine B.iconst 1 dX6_wordIs_58 (by decide) ?_
        exact B.ireturn dX6_wordIs_59 rfl rfl (hy eL.symm (fun y hy => hd y (by omega)))
      | succ n ih =>
        intro j hj hd
        refine B.iload_n 2 dX6_wordIs_20 rfl rfl ?_
        refine B.aload_n 1 dX6_wordIs_21 rfl rfl ?_
        refine B.callStr (M' := MJ0_length_8abf5) (rc := 0) (rs := 0) (mc := 0) (ms := 0) (st := [.int (nI j)]) [] hi dX6_wordIs_22 mvs_J0_length_8abf5 lk_X6_98 ⟨Nat.le_of_ble_eq_true rfl, Nat.le_of_ble_eq_true rfl⟩ rfl rfl (Nat.le_of_ble_eq_true rfl) (t_slen hi ?_)
        show B g MX6_wordIs 0 0 25 [(0, .ref k), (1, .ref (gK g i)), (2, .int (nI j))] [.int (nI (t_ln.getD i 0)), .int (nI j)] S P I _
        refine B.icmp_ge 58 dX6_wordIs_25 (by decide) (fun q => absurd q (nI_ge (by omega) (by omega))) (fun _ => ?_)
        refine B.aload_n 1 dX6_wordIs_28 rfl rfl ?_
        refine B.iload_n 2 dX6_wordIs_29 rfl rfl ?_
        refine B.callStr (M' := MJ0_charAt_5068e) (rc := 0) (rs := 0) (mc := 0) (ms := 0) (st := []) [.int (nI j)] hi dX6_wordIs_30 mvs_J0_charAt_5068e lk_X6_102 ⟨Nat.le_of_ble_eq_true rfl, Nat.le_of_ble_eq_true rfl⟩ rfl rfl (Nat.le_of_ble_eq_true rfl) (t_schr hi (by omega) ?_)
        show B g MX6_wordIs 0 0 33 [(0, .ref k), (1, .ref (gK g i)), (2, .int (nI j))] [.int (tch i j)] S P I _
        refine B.aload_n 0 dX6_wordIs_33 rfl rfl ?_
        refine B.getP dX6_wordIs_34 fl_6_31 hk hp ?_
        refine B.getP dX6_wordIs_37 fl_6_44 ht.1.1 ht.2.1 ?_
        refine B.aload_n 0 dX6_wordIs_40 rfl rfl ?_
        refine B.getI dX6_wordIs_41 fl_6_21 hk ?_
        refine B.iload_n 2 dX6_wordIs_44 rfl rfl ?_
        refine B.iadd dX6_wordIs_45 ?_
        refine B.baload dX6_wordIs_46 ht.1.2 (ixe (j := q + j) (by rw [h4]; exact nI_add q j) ht.2.2 (by omega) (by decide)) ?_
        refine B.icmp_eq 52 dX6_wordIs_47 (by decide) (fun q2 => ?_) (fun q2 => ?_)
        · refine B.iinc (lv' := [(0, .ref k), (1, .ref (gK g i)), (2, .int (nI j + 1))]) 2 (nI j + 1) dX6_wordIs_52 rfl rfl (by decide) rfl ?_
          refine B.goto_ 20 dX6_wordIs_55 (by decide) ?_
          rw [nI_1]
          refine ih (j + 1) (by omega) (fun y hy => ?_)
          by_cases ey : y = j
          · subst ey; exact q2.symm
          · exact hd y (by omega)
        · refine B.iconst 0 dX6_wordIs_50 (by decide) ?_
          exact B.ireturn dX6_wordIs_51 rfl rfl (hn (fun z => q2 (z.2 j (by omega)).symm))
    exact loop (t_ln.getD i 0) 0 (by omega) (fun y hy => absurd hy (Nat.not_lt_zero y))
  · refine B.iconst 0 dX6_wordIs_16 (by decide) ?_
    exact B.ireturn dX6_wordIs_17 rfl rfl (hn (fun z => q1 (congrArg nI z.1.symm)))
end STRS

