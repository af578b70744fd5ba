section OPS3
variable {g : GT} {S : ST} {P : PT} {I I' : IT} {x n v : Nat} {A A' : Nat → Int32} {Q : QT}
theorem ush0 {z : Int32} {no : Nat} (h8 : no ≤ 8) : ((z.toUInt32 >>> ((nI no).toUInt32 &&& Int32.toUInt32 31)).toInt32 = 0) ↔ ∃ j, j < 2 ^ no ∧ z = nI j := by
  have hs : (((nI no).toUInt32 &&& Int32.toUInt32 31).toBitVec % 32).toNat = no := by
    have : ∀ i, i < 9 → (((nI i).toUInt32 &&& Int32.toUInt32 31).toBitVec % 32).toNat = i := by decide
    exact this no (by omega)
  have h := pk_ushr z (nI no) no hs
  have hp : 2 ^ no ≤ 256 := by
    have : ∀ i, i < 9 → 2 ^ i ≤ 256 := by decide
    exact this no (by omega)
  constructor
  · intro e
    rw [e] at h
    have h0 : ((0 : Int32)).toBitVec.toNat = 0 := by decide
    rw [h0] at h
    have hz : z.toBitVec.toNat < 2 ^ no := by
      rcases Nat.lt_or_ge z.toBitVec.toNat (2 ^ no) with q | q
      · exact q
      · have := Nat.div_pos q (Nat.pow_pos (n := no) (by decide : 0 < 2))
        omega
    refine ⟨z.toBitVec.toNat, hz, ?_⟩
    apply Int32.toBitVec_inj.mp
    apply BitVec.eq_of_toNat_eq
    rw [pk_tn (by omega)]
  · rintro ⟨j, hj, rfl⟩
    apply Int32.toBitVec_inj.mp
    apply BitVec.eq_of_toNat_eq
    rw [h, pk_tn (by omega), Nat.div_eq_of_lt hj]
    decide
theorem cdl_cong {D U D' U' : Nat → Int32} {z : Int32} {no : Nat} (hD : ∀ i, i < no → D i = D' i) (hU : ∀ i, i < no → U i = U' i) : ∀ (l : List Nat) (day : Int32), (∀ o ∈ l, o < no) → cdl D U z l day = cdl D' U' z l day
  | [], _, _ => rfl
  | o :: t, day, hl => by
    have hoo := hl o List.mem_cons_self
    have ih := fun day => cdl_cong (z := z) hD hU t day (fun q hq => hl q (List.mem_cons_of_mem _ hq))
    rw [cdl, cdl, hD o hoo, hU o hoo, ih, ih]
theorem cdl_cmm2 {D U D' U' : Nat → Int32} {z : Int32} {no : Nat} {d u : Nat → Nat} (h8 : no ≤ 8) (hD : ∀ i, i < no → D i = nI (d i) ∧ d i ≤ 30) (hU : ∀ i, i < no → U i = nI (u i) ∧ u i ≤ 200) (hD' : ∀ i, i < no → D' i = nI (d i)) (hU' : ∀ i, i < no → U' i = nI (u i)) : cdl D U z (sl u no) 0 = cmm D' U' z no := by
  rw [cdl_cong (fun i hi => (hD i hi).1.trans (hD' i hi).symm) (fun i hi => (hU i hi).1.trans (hU' i hi).symm) _ _ (fun o ho => (sl_mem u no o).mp ho)]
  exact cdl_cmm h8 (fun i hi => ⟨hD' i hi, (hD i hi).2⟩) (fun i hi => ⟨hU' i hi, (hU i hi).2⟩)
theorem wo_cong {w w' : Nat → Int32} {z : Int32} : ∀ {no : Nat}, (∀ i, i < no → w i = w' i) → wo w z no = wo w' z no
  | 0, _ => rfl
  | no + 1, h => by rw [wo, wo, wo_cong (fun i hi => h i (by omega)), h no (by omega)]
theorem bst_cong {wv wv' : Nat → Int32} {cd cd' : Nat → Bool} (h1 : ∀ s, wv s = wv' s) (h2 : ∀ s, cd s = cd' s) (n : Nat) : bst wv cd n = bst wv' cd' n := by
  have e1 : wv = wv' := funext h1
  have e2 : cd = cd' := funext h2
  rw [e1, e2]
theorem sim_inTime (hS : Sim S P I x n) (z w : Int32) : SimT g MX8_inTime MX9_inTime [.int z, .int w] x n S P I := by
  obtain ⟨hX, hR, hI, hd⟩ := id hS
  have hV := hX.v
  have hM := hX.m
  obtain ⟨nh, np, nc, nl, tl, rm, rk, rh, rp, rs, rc, rt⟩ := id hR
  have h8 := rm.1.2.2
  have up : ∀ r : Int32, (some (.int r) : Option Value) = some (.int r) ∧ (∃ z : Int32, (some (.int r) : Option Value) = some (.int z)) ∧ Sim S P I x (n + 1) := fun r => ⟨rfl, ⟨_, rfl⟩, hS.up⟩
  refine T_of rfl (Nat.le_of_ble_eq_true rfl) (s_X8_inTime_0 ⟨hX.1.1, _, hX.1.2.1, hV.t, fun q => ?_, fun q => ?_⟩)
  · rw [rm.1.2.1] at q
    exact T_of rfl (Nat.le_of_ble_eq_true rfl) (s_X9_inTime_0 ⟨hM.t, _, hM.p, hM.a, 0, hM.ix rfl (by decide), fun _ => up _, fun z => absurd (by rw [rm.1.1]; exact q) z⟩)
  rw [rm.1.2.1] at q
  obtain ⟨j, hj, rfl⟩ := wi_dec (by omega) q
  have q9 : ¬ wi (nI j) 0 (I (x + 96 + 1) 0 - 1) = 0 := by rw [rm.1.1]; exact q
  obtain ⟨a, b, c, d, no, dd, uu, e⟩ := (rh j (by omega)).1 hj
  have eo9 : I (x + 96 + 1) (60 + 30 * j + 4) = nI no := e.1.1
  have eo8 := e.1.2.1
  have ho := e.1.2.2
  have hH := hV.ho (i := j) (by omega)
  have hp : 2 ^ no ≤ 256 := by
    have : ∀ i, i < 9 → 2 ^ i ≤ 256 := by decide
    exact this no (by omega)
  have hp0 : 0 < 2 ^ no := Nat.pow_pos (by decide)
  refine ⟨_, hV.p4, hV.t9, j, ixl hV.l9 (by omega) (by decide), _, hV.ph (by omega), hH.1.1, fun p1 => ?_, fun p1 => ?_⟩
  · rw [eo8] at p1
    refine T_of rfl (Nat.le_of_ble_eq_true rfl) (s_X9_inTime_0 ⟨hM.t, _, hM.p, hM.a, 0, hM.ix rfl (by decide), fun z => absurd z q9, fun _ => ⟨60 + 30 * j + 4, hM.ix (n60 j 4) (by omega), fun _ => up _, fun z => ?_⟩⟩)
    exfalso
    rw [eo9, shl1 ho] at z
    obtain ⟨k, hk, e2⟩ := wi_dec (by omega) z
    exact p1 ((ush0 ho).mpr ⟨k, hk, e2⟩)
  · rw [eo8] at p1
    obtain ⟨k, hk, rfl⟩ := (ush0 ho).mp p1
    have z9 : ¬ wi (nI k) 0 ((1 : Int32) <<< (I (x + 96 + 1) (60 + 30 * j + 4) &&& 31) - 1) = 0 := by
      rw [eo9, shl1 ho, nI_sub1 (by omega)]
      exact wi_n0.mpr ⟨nI_pos' (by omega), nI_le (by omega) (by omega)⟩
    have hcc : cdl (I (hA (x + 1) j + 1)) (I (hA (x + 1) j + 2)) (nI k) (sl uu no) 0 = cmm (fun i => I (x + 96 + 1) (60 + 30 * j + (5 + 3 * i))) (fun i => I (x + 96 + 1) (60 + 30 * j + (6 + 3 * i))) (nI k) no := by
      have hD : ∀ i, i < no → I (hA (x + 1) j + 1) i = nI (dd i) ∧ dd i ≤ 30 := fun i hi => ⟨(e.2.1 i hi).1.2.1, (e.2.1 i hi).1.2.2⟩
      have hU : ∀ i, i < no → I (hA (x + 1) j + 2) i = nI (uu i) ∧ uu i ≤ 200 := fun i hi => ⟨(e.2.1 i hi).2.1.2.1, (e.2.1 i hi).2.1.2.2⟩
      exact cdl_cmm2 ho hD hU (fun i hi => (e.2.1 i hi).1.1) (fun i hi => (e.2.1 i hi).2.1.1)
    refine t_canDo hH eo8 ho (sl uu no) (sl_len uu no) (fun r hr => Nat.lt_of_lt_of_le (sl_lt uu hr) ho) (fun r hr => e.2.2 r hr) (s_X8_inTime_40 ⟨fun w0 => ?_, fun w0 => ?_⟩)
    · rw [hcc] at w0
      refine T_of rfl (Nat.le_of_ble_eq_true rfl) (s_X9_inTime_0 ⟨hM.t, _, hM.p, hM.a, 0, hM.ix rfl (by decide), fun z => absurd z q9, fun _ => ⟨60 + 30 * j + 4, hM.ix (n60 j 4) (by omega), fun z => absurd z z9, fun _ => t9_can hM eo9 ho (by omega) (s_X9_inTime_32 ⟨fun _ => up _, fun z => absurd w0 z⟩)⟩⟩)
    · rw [hcc] at w0
      refine T_of rfl (Nat.le_of_ble_eq_true rfl) (s_X9_inTime_0 ⟨hM.t, _, hM.p, hM.a, 0, hM.ix rfl (by decide), fun z => absurd z q9, fun _ => ⟨60 + 30 * j + 4, hM.ix (n60 j 4) (by omega), fun z => absurd z z9, fun _ => t9_can hM eo9 ho (by omega) (s_X9_inTime_32 ⟨fun z => absurd z w0, fun _ => up _⟩)⟩⟩)
theorem n4s (c s : Nat) : nI c * 4 + nI s = nI (4 * c + s) := by
  show nI c * nI 4 + nI s = _
  rw [pk_mul, nI_add, Nat.mul_comm]
theorem n4t (c s : Nat) : 4 * nI c + nI s = nI (4 * c + s) := by
  show nI 4 * nI c + nI s = _
  rw [pk_mul, nI_add]
theorem n16 (c s : Nat) : (16 + 4 * nI c) + nI s = nI (16 + (4 * c + s)) := by
  show (nI 16 + nI 4 * nI c) + nI s = _
  rw [pk_mul, nI_add, nI_add]
  congr 1
  omega
theorem sim_value (hS : Sim S P I x n) (z w t : Int32) : SimT g MX8_value MX9_value [.int z, .int w, .int t] x n S P I := by
  obtain ⟨hX, hR, hI, hd⟩ := id hS
  have hV := hX.v
  have hM := hX.m
  obtain ⟨nh, np, nc, nl, tl, rm, rk, rh, rp, rs, rc, rt⟩ := id hR
  have h6 := rm.2.2.1.2.2.2
  have up : ∀ r : Int32, (some (.int r) : Option Value) = some (.int r) ∧ (∃ z : Int32, (some (.int r) : Option Value) = some (.int z)) ∧ Sim S P I x (n + 1) := fun r => ⟨rfl, ⟨_, rfl⟩, hS.up⟩
  refine T_of rfl (Nat.le_of_ble_eq_true rfl) (s_X8_value_0 ⟨hX.1.1, _, hX.1.2.1, hV.t, _, hV.p9, hV.kp, fun q => ?_, fun q => ⟨fun q1 => ?_, fun q1 => ⟨fun q2 => ?_, fun q2 => ?_⟩⟩⟩)
  all_goals
    rw [rm.2.2.1.2.1] at q
    have q' := q
    rw [← rm.2.2.1.1] at q'
  · exact T_of rfl (Nat.le_of_ble_eq_true rfl) (s_X9_value_0 ⟨hM.t, _, hM.p, hM.a, 2, hM.ix rfl (by decide), fun _ => up _, fun z => absurd q' z⟩)
  · exact T_of rfl (Nat.le_of_ble_eq_true rfl) (s_X9_value_0 ⟨hM.t, _, hM.p, hM.a, 2, hM.ix rfl (by decide), fun z => absurd z q', fun _ => ⟨fun _ => up _, fun z => absurd q1 z⟩⟩)
  · obtain ⟨c, hc, rfl⟩ := wi_dec (by omega) q
    obtain ⟨s, -, hs, rfl⟩ := wi_nI (a := 0) (b := 3) (by decide) (by decide) (wi_ne q1)
    obtain ⟨vl, hv1, hv2, rfl⟩ := wi_nI (a := 1) (b := 99) (by decide) (by decide) (wi_ne q2)
    refine ⟨_, hV.ki.2.1.2.2.1, hV.ki.1.2.2.2.1, 4 * c + s, ixe (n4s c s) hV.ki.2.2.2.2.1 (by omega) (by decide), ?_⟩
    refine T_of rfl (Nat.le_of_ble_eq_true rfl) (s_X9_value_0 ⟨hM.t, _, hM.p, hM.a, 2, hM.ix rfl (by decide), fun z => absurd (by rw [u2_a (by omega)] at z; exact z) q', fun _ => ⟨fun z => absurd z q1, fun _ => ⟨fun _ => ⟨16 + (4 * c + s), hM.ix (n16 c s) (by omega), rfl, ⟨_, rfl⟩, ?_⟩, fun z => absurd z q2⟩⟩⟩)
    refine hS.step (fun p hp => Or.inl (by unfold pA; repeat rw [u2_a (by omega)])) (fun a k ha => ?_) (fun k hk => ?_) (fun k => ?_) ⟨nh, np, nc, nl, tl, rm.cong (fun j => ?_) (fun j => ?_) (fun j _ => ?_) (fun j _ => ?_) (fun j _ => ?_) (fun k hk => ?_), ⟨fun j hj => ?_, fun k hk => ?_⟩, rh.cong (Nat.le_succ n) (fun a j h1 h2 => ?_) (fun k h1 h2 => ?_), rp.cong rm.2.1.2.2 (fun a j h1 h2 => ?_) (fun k h1 h2 => ?_), rs.cong rm.2.1.2.2 (fun j _ => ?_) (fun p hp => ?_), rc.cong ?_ (fun j _ => ?_) (fun j _ => ?_) (fun j _ => ?_) (fun j _ => ?_) (fun j _ => ?_) ?_ (fun k h1 h2 => ?_), rt.cong ?_ (fun j _ => ?_) ?_ (fun k h1 h2 => ?_)⟩
    · rw [u2_a (by omega), u2_a (by omega)]
    · rw [u2_k (by omega), u2_a (by omega)]
    · rw [u2_a (by omega), u2_a (by omega)]
    · rw [u2_a (by omega), u2_a (by omega)]
    · rw [u2_a (by omega), u2_a (by omega)]
    · rw [u2_a (by omega), u2_a (by omega)]
    · rw [u2_a (by omega), u2_a (by omega)]
    · rw [u2_a (by omega), u2_a (by omega)]
    · rw [u2_k (by omega), u2_a (by omega)]
    · rw [u2_k (by omega), u2_a (by omega), u2_a (by omega), u2_a (by omega)]
      have := rk.1 j hj
      exact ⟨this.1, this.2.1, by omega⟩
    · rw [u2_a (a := x + 96 + 1) (b := x + 1 + 16) (by omega)]
      by_cases e : k = 4 * c + s
      · subst e
        rw [u2_s, u2_s]
        exact ⟨rfl, vl, rfl, hv1, hv2⟩
      · rw [u2_k (by omega), u2_k e, u2_a (by omega)]; exact rk.2 k hk
    · rw [u2_a (by omega), u2_a (by omega)]
    · rw [u2_k (by omega), u2_a (by omega)]
    · rw [u2_a (by omega), u2_a (by omega)]
    · rw [u2_k (by omega), u2_a (by omega)]
    · rw [u2_a (by omega), u2_a (by omega)]
    · rw [u2_k (by omega), u2_a (by omega)]
    · rw [u2_a (by omega), u2_a (by omega)]
    · rw [u2_a (by omega), u2_a (by omega)]
    · rw [u2_a (by omega), u2_a (by omega)]
    · rw [u2_a (by omega), u2_a (by omega)]
    · rw [u2_a (by omega), u2_a (by omega)]
    · rw [u2_a (by omega), u2_a (by omega)]
    · rw [u2_k (by omega), u2_a (by omega)]
    · rw [u2_k (by omega), u2_a (by omega)]
    · rw [u2_a (by omega), u2_a (by omega)]
    · rw [u2_a (by omega), u2_a (by omega)]
    · rw [u2_k (by omega), u2_a (by omega)]
    · rw [u2_k (by omega), u2_a (by omega)]
  · exact T_of rfl (Nat.le_of_ble_eq_true rfl) (s_X9_value_0 ⟨hM.t, _, hM.p, hM.a, 2, hM.ix rfl (by decide), fun z => absurd z q', fun _ => ⟨fun z => absurd z q1, fun _ => ⟨fun z => absurd q2 z, fun _ => up _⟩⟩⟩)
theorem sim_at (hS : Sim S P I x n) (z w : Int32) : SimT g MX8_at MX9_at [.int z, .int w] x n S P I := by
  obtain ⟨hX, hR, hI, hd⟩ := id hS
  have hV := hX.v
  have hM := hX.m
  obtain ⟨nh, np, nc, nl, tl, rm, rk, rh, rp, rs, rc, rt⟩ := id hR
  have h6 := rm.2.2.1.2.2.2
  have hnp := rm.2.1.2.2
  have up : ∀ r : Int32, (some (.int r) : Option Value) = some (.int r) ∧ (∃ z : Int32, (some (.int r) : Option Value) = some (.int z)) ∧ Sim S P I x (n + 1) := fun r => ⟨rfl, ⟨_, rfl⟩, hS.up⟩
  refine T_of rfl (Nat.le_of_ble_eq_true rfl) (s_X8_at_0 ⟨hX.1.1, _, hX.1.2.1, hV.t, _, hV.p9, hV.kp, fun q => ?_, fun q => ⟨fun q1 => ?_, fun q1 => ?_⟩⟩)
  all_goals
    rw [rm.2.2.1.2.1] at q
    have q' := q
    rw [← rm.2.2.1.1] at q'
  · exact T_of rfl (Nat.le_of_ble_eq_true rfl) (s_X9_at_0 ⟨hM.t, _, hM.p, hM.a, 2, hM.ix rfl (by decide), fun _ => up _, fun z => absurd q' z⟩)
  · exact T_of rfl (Nat.le_of_ble_eq_true rfl) (s_X9_at_0 ⟨hM.t, _, hM.p, hM.a, 2, hM.ix rfl (by decide), fun z => absurd z q', fun _ => ⟨fun _ => up _, fun z => absurd q1 z⟩⟩)
  · obtain ⟨c, hc, rfl⟩ := wi_dec (by omega) q
    obtain ⟨s, -, hs, rfl⟩ := wi_nI (a := 0) (b := 3) (by decide) (by decide) (wi_ne q1)
    refine ⟨_, hV.ki.2.1.2.2.2, hV.ki.1.2.2.2.2, 4 * c + s, ixe (n4s c s) hV.ki.2.2.2.2.2 (by omega) (by decide), ?_⟩
    refine T_of rfl (Nat.le_of_ble_eq_true rfl) (s_X9_at_0 ⟨hM.t, _, hM.p, hM.a, 2, hM.ix rfl (by decide), fun z => absurd z q', fun _ => ⟨fun z => absurd z q1, fun _ => t9_at0 hM rm.2.1.1 hnp (fun r hr => s_X9_at_18 ⟨?_, ⟨_, rfl⟩, hS.up⟩)⟩⟩)
    rw [n4t] at hr
    show some (Value.int r) = some (Value.int (I (x + 1 + 17) (4 * c + s)))
    rcases rs (4 * c + s) (by omega) with ⟨e1, e2⟩ | ⟨p, hp, e1, e2, e3⟩
    · rcases hr with ⟨e4, -⟩ | ⟨p, hp, -, e4, -⟩
      · rw [e1, e4]
      · exact absurd e4 (e2 p hp)
    · rcases hr with ⟨-, e4⟩ | ⟨p', hp', e4, e5, -⟩
      · exact absurd e2 (e4 p hp)
      · rw [e1, e4, e3 p' hp' e5]
end OPS3
