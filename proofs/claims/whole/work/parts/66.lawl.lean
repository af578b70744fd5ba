section LAWL
variable {g : GT} {sb sl : Nat} {sx : Nat → Int32} {rc rs : Nat} {S : ST} {P : PT} {I : IT} {Q : QT} {x n : Nat}
theorem lw_cmp {a c : Nat} (ha : a ≤ 3072) (hc : c ≤ 5000) : nI a - 6 < nI c ↔ a < c + 6 := by
  by_cases h6 : 6 ≤ a
  · have e : nI a - 6 = nI (a - 6) := pk_sub (a := a) (b := 6) h6
    rw [e, nI_clt (by omega) (by omega)]
    omega
  · have h : a = 0 ∨ a = 1 ∨ a = 2 ∨ a = 3 ∨ a = 4 ∨ a = 5 := by omega
    have h0 : nI a - 6 < 0 := by
      rcases h with rfl | rfl | rfl | rfl | rfl | rfl <;> decide
    have hc0 : (0 : Int32) ≤ nI c := Int32.not_lt.mp (nI_pos (by omega))
    exact ⟨fun _ => by omega, fun _ => Int32.lt_of_lt_of_le h0 hc0⟩
theorem law_sw (hb : sb < gB g) (hsl : sl ≤ 3072) (hi : 6 * n + 5 < sl) (hS : Sim S P I x n) (K : ∀ S' P' I', Sim S' P' I' x (n + 1) → BL g ML_law sb sl sx JT rc rs 900 (LLV sb x (6 * n)) [] S' P' I' Q) (v : Int32) : BL g ML_law sb sl sx JT (rc + 84) (rs + 1130) 33 (LLV sb x (6 * n)) [.int v] S P I Q := by
  by_cases h : ∃ k : Nat, k ≤ 25 ∧ v = nI k
  · obtain ⟨k, hk, rfl⟩ := h
    match k, hk with
    | 0, _ => exact BL.tableIn 152 dL_law_33 (by decide) (by decide) rfl (by decide) (lc_feed hb hsl hi hS K)
    | 1, _ => exact BL.tableIn 215 dL_law_33 (by decide) (by decide) rfl (by decide) (lc_end hb hsl hi hS K)
    | 2, _ => exact BL.tableIn 238 dL_law_33 (by decide) (by decide) rfl (by decide) (lc_custom hb hsl hi hS K)
    | 3, _ => exact BL.tableIn 251 dL_law_33 (by decide) (by decide) rfl (by decide) (lc_fault hb hsl hi hS K)
    | 4, _ => exact BL.tableIn 274 dL_law_33 (by decide) (by decide) rfl (by decide) (lc_house hb hsl hi hS K)
    | 5, _ => exact BL.tableIn 287 dL_law_33 (by decide) (by decide) rfl (by decide) (lc_shape hb hsl hi hS K)
    | 6, _ => exact BL.tableIn 330 dL_law_33 (by decide) (by decide) rfl (by decide) (lc_glaze hb hsl hi hS K)
    | 7, _ => exact BL.tableIn 363 dL_law_33 (by decide) (by decide) rfl (by decide) (lc_kiln hb hsl hi hS K)
    | 8, _ => exact BL.tableIn 386 dL_law_33 (by decide) (by decide) rfl (by decide) (lc_value hb hsl hi hS K)
    | 9, _ => exact BL.tableIn 429 dL_law_33 (by decide) (by decide) rfl (by decide) (lc_pot hb hsl hi hS K)
    | 10, _ => exact BL.tableIn 482 dL_law_33 (by decide) (by decide) rfl (by decide) (lc_dry hb hsl hi hS K)
    | 11, _ => exact BL.tableIn 505 dL_law_33 (by decide) (by decide) rfl (by decide) (lc_deal hb hsl hi hS K)
    | 12, _ => exact BL.tableIn 518 dL_law_33 (by decide) (by decide) rfl (by decide) (lc_spread hb hsl hi hS K)
    | 13, _ => exact BL.tableIn 531 dL_law_33 (by decide) (by decide) rfl (by decide) (lc_fire hb hsl hi hS K)
    | 14, _ => exact BL.tableIn 564 dL_law_33 (by decide) (by decide) rfl (by decide) (lc_rest hb hsl hi hS K)
    | 15, _ => exact BL.tableIn 587 dL_law_33 (by decide) (by decide) rfl (by decide) (lc_heat hb hsl hi hS K)
    | 16, _ => exact BL.tableIn 610 dL_law_33 (by decide) (by decide) rfl (by decide) (lc_open hb hsl hi hS K)
    | 17, _ => exact BL.tableIn 623 dL_law_33 (by decide) (by decide) rfl (by decide) (lc_about hb hsl hi hS K)
    | 18, _ => exact BL.tableIn 656 dL_law_33 (by decide) (by decide) rfl (by decide) (lc_at hb hsl hi hS K)
    | 19, _ => exact BL.tableIn 689 dL_law_33 (by decide) (by decide) rfl (by decide) (lc_tell hb hsl hi hS K)
    | 20, _ => exact BL.tableIn 722 dL_law_33 (by decide) (by decide) rfl (by decide) (lc_order hb hsl hi hS K)
    | 21, _ => exact BL.tableIn 775 dL_law_33 (by decide) (by decide) rfl (by decide) (lc_inTime hb hsl hi hS K)
    | 22, _ => exact BL.tableIn 808 dL_law_33 (by decide) (by decide) rfl (by decide) (lc_forget hb hsl hi hS K)
    | 23, _ => exact BL.tableIn 831 dL_law_33 (by decide) (by decide) rfl (by decide) (lc_count hb hsl hi hS K)
    | 24, _ => exact BL.tableIn 854 dL_law_33 (by decide) (by decide) rfl (by decide) (lc_image hb hsl hi hS K)
    | 25, _ => exact BL.tableIn 877 dL_law_33 (by decide) (by decide) rfl (by decide) (lc_again hb hsl hi hS K)
    | k + 26, hk => exact absurd hk (by omega)
  · refine BL.tableOut 900 dL_law_33 (tsw_out (lo := 0) (hi := 25) (by decide) (by decide) (fun c _ hc e => h ⟨c, hc, e⟩)) (by decide) ?_
    exact BL.less (K S P I hS.up) (by omega) (by omega)
theorem law_loop (hb : sb < gB g) (hsl : sl ≤ 3072) : ∀ (j n : Nat) (S : ST) (P : PT) (I : IT), Sim S P I x n → n ≤ 600 → sl ≤ 6 * n + 6 * j + 5 → BL g ML_law sb sl sx JT (84 * j) (1130 * j) 18 (LLV sb x (6 * n)) [] S P I (fun r _ _ _ => r = some (.int 1)) := by
  intro j
  induction j with
  | zero =>
    intro n S P I hS hn he
    refine BL.iload_n 3 dL_law_18 rfl rfl (BL.aload_n 0 dL_law_19 rfl rfl (BL.slen dL_law_20 hb (BL.bipush 6 dL_law_21 (by decide) (BL.isub dL_law_23 (BL.icmp_gt 906 dL_law_24 (by decide) (fun _ => ?_) (fun q => absurd ((lw_cmp hsl (by omega)).mpr (by omega)) q))))))
    exact BL.iconst 1 dL_law_906 (by decide) (BL.ireturn dL_law_907 rfl rfl rfl)
  | succ j ih =>
    intro n S P I hS hn he
    refine BL.iload_n 3 dL_law_18 rfl rfl (BL.aload_n 0 dL_law_19 rfl rfl (BL.slen dL_law_20 hb (BL.bipush 6 dL_law_21 (by decide) (BL.isub dL_law_23 (BL.icmp_gt 906 dL_law_24 (by decide) (fun _ => ?_) (fun q => ?_))))))
    · exact BL.iconst 1 dL_law_906 (by decide) (BL.ireturn dL_law_907 rfl rfl rfl)
    · have hi : 6 * n + 5 < sl := by
        have h6 : ¬ sl < 6 * n + 6 := fun h => q ((lw_cmp (a := sl) (c := 6 * n) hsl (by omega)).mpr h)
        omega
      refine BL.aload_n 0 dL_law_27 rfl rfl (BL.iload_n 3 dL_law_28 rfl rfl (BL.sld (j := 6 * n) dL_law_29 hb (ix_n (by omega) (by omega)) (BL.bipush 31 dL_law_30 (by decide) (BL.iand dL_law_32 ?_))))
      refine law_sw (rc := 84 * j) (rs := 1130 * j) hb hsl hi hS (fun S' P' I' hS' => ?_) _
      refine BL.iinc (lv' := LLV sb x (6 * (n + 1))) 3 (nI (6 * (n + 1))) dL_law_900 rfl (nI_add (6 * n) 6) (by decide) rfl (BL.goto_ 18 dL_law_903 (by decide) ?_)
      exact ih (n + 1) S' P' I' hS' (by omega) (by omega)
theorem law_body (hb : sb < gB g) (hsl : sl ≤ 3072) (hn : sN S = x) (hrc : 84 * 512 ≤ rc) (hrs : 1130 * 512 ≤ rs) : BL g ML_law sb sl sx JT (rc + 5 + 1 + 96 + 1) (rs + 4309 + 14 + 2222 + 3) 0 [(0, .ref sb)] [] S P I (fun r _ _ _ => r = some (.int 1)) := by
  refine BL.newobj 8 (RX8, TX8, 3) rfl ck_L_7 nw_8.1 nw_8.2 dL_law_0 ?_
  rw [hn]
  refine BL.dup dL_law_3 rfl ?_
  refine BL.callI (M' := MX8_init) (rc := rc + 5 + 1) (rs := rs + 4309 + 14) (mc := 96) (ms := 2222) (st := [.ref x]) [] dL_law_4 mi_X8_init lk_L_9 ⟨Nat.le_of_ble_eq_true rfl, Nat.le_of_ble_eq_true rfl⟩ rfl rfl (Nat.le_of_ble_eq_true rfl) ?_
  refine t_init8 (by rw [sA_t, hn, if_pos rfl]) (by rw [sA_n, hn]) (fun S1 P1 I1 n1 hY hW h0 _ => ?_)
  refine BL.astore_n (lv' := [(0, .ref sb), (1, .ref x)]) dL_law_7 rfl (by decide) rfl ?_
  refine BL.newobj 9 (RX9, TX9, 14) rfl ck_L_10 nw_9.1 nw_9.2 dL_law_8 ?_
  rw [n1]
  refine BL.dup dL_law_11 rfl ?_
  refine BL.callI (M' := MX9_init) (rc := rc) (rs := rs) (mc := 5) (ms := 4309) (st := [.ref (x + 96)]) [] dL_law_12 mi_X9_init lk_L_12 ⟨Nat.le_of_ble_eq_true rfl, Nat.le_of_ble_eq_true rfl⟩ rfl rfl (Nat.le_of_ble_eq_true rfl) ?_
  refine t_init9 (by rw [sA_t, n1, if_pos rfl]) (by rw [sA_n, n1]) (fun S2 P2 I2 n2 hM hA h2 E2 => ?_)
  have hs : ∀ a, a < x + 96 → sT S2 a = sT S1 a ∧ sL S2 a = sL S1 a ∧ (∀ k, P2 a k = P1 a k) ∧ ∀ k, I2 a k = I1 a k := fun a ha => by
    obtain ⟨b1, b2, b3, b4⟩ := E2 a ha
    have na : a ≠ x + 96 := by omega
    refine ⟨b1.trans ?_, b2.trans ?_, fun k => (b3 k).trans ?_, fun k => (b4 k).trans ?_⟩
    · rw [sA_t, n1, if_neg na]
    · rw [sA_l, n1, if_neg na]
    · exact zP_a na
    · exact zI_a na
  have hS : Sim S2 P2 I2 x 0 := sim_start (hY.ex (fun a h1 h2 => ⟨(hs a h2).1, (hs a h2).2.1, fun _ => (hs a h2).2.2.1⟩)) hM (by omega) (hW.mv (fun a k h1 h2 => (hs a (by omega)).2.2.2 k)) hA (fun k => ((hs (x + 95) (by omega)).2.2.1 k).trans (h0 k)) h2
  refine BL.astore_n (lv' := [(0, .ref sb), (1, .ref x), (2, .ref (x + 96))]) dL_law_15 rfl (by decide) rfl ?_
  refine BL.iconst 0 dL_law_16 (by decide) (BL.istore_n (lv' := LLV sb x (6 * 0)) dL_law_17 rfl (by decide) rfl ?_)
  exact BL.less (law_loop hb hsl 512 0 S2 P2 I2 hS (by omega) (by omega)) hrc hrs
end LAWL
