section OPS1
variable {g : GT} {S : ST} {P : PT} {I : IT} {x n : Nat}
theorem LX.v (h : LX S P x) : LV S P (x + 1) := h.2.1
theorem LX.m (h : LX S P x) : LM S P (x + 96) := h.2.2.2.2.2.2.1
theorem wi_ne {z a b : Int32} (h : ¬ wi z a b = 0) : a ≤ z ∧ z ≤ b := wi_n0.mp h
theorem wi_eq {z a b : Int32} (h : wi z a b = 0) (h1 : a ≤ z) : ¬ z ≤ b := fun q => wi_0.mp h ⟨h1, q⟩
theorem sim_end (hS : Sim S P I x n) (z : Int32) : SimT g MX8_end MX9_end [.int z] x n S P I := by
  obtain ⟨hX, hR, hI, hd⟩ := id hS
  have hV := hX.v
  have hM := hX.m
  obtain ⟨nh, np, nc, nl, tl, rm, rk, rh, rp, rs, rc, rt⟩ := id hR
  have ht := rt.1.2.2
  refine T_of rfl (Nat.le_of_ble_eq_true rfl) (s_X8_end_0 ⟨hX.1.1, _, hX.1.2.1, hV.t, _, hV.p0, hV.tp.1.1, fun q => ?_, fun q => ?_⟩)
  · rw [rt.1.2.1] at q
    obtain ⟨j, -, hj, rfl⟩ := wi_nI (a := 0) (by decide) (by omega) (wi_ne q)
    refine T_of rfl (Nat.le_of_ble_eq_true rfl) (s_X9_end_0 ⟨fun q2 => absurd q2 (nI_pos (by omega)), fun q2 => ⟨hM.t, _, hM.p, hM.a, 7, hM.ix rfl (by decide), fun q3 => ⟨rfl, ⟨_, rfl⟩, ?_⟩, fun q3 => ?_⟩⟩)
    · refine hS.step (fun p hp => Or.inl (by unfold pA; repeat rw [u2_a (by omega)])) (fun a k ha => ?_) (fun k hk => ?_) (fun k => ?_) (hR.tw (fun a k h1 h2 h3 h4 => ?_) (fun k h1 h2 => ?_) (fun tl' h7 => ⟨j, ⟨?_, ?_, by omega⟩, fun k hk => ?_, fun k hk => ?_⟩))
      · rw [u2_a (by omega), u2_a (by omega)]
      · rw [u2_k (by omega), u2_a (by omega)]
      · rw [u2_a (by omega), u2_a (by omega)]
      · rw [u2_a (by omega), u2_a (by omega)]
      · rw [u2_k (by omega), u2_a (by omega)]
      · rw [u2_s]
      · rw [u2_a (by omega), u2_s]
      · rw [u2_k (by omega), u2_a (by omega), u2_a (by omega), u2_a (by omega)]; exact rt.2.1 k (by omega)
      · rw [u2_a (by omega), u2_a (by omega)]; exact rt.2.2 k hk
    · rw [u2_a (by omega), rt.1.1] at q3; exact absurd (nI_le hj (by omega)) q3
  · rw [rt.1.2.1] at q
    refine T_of rfl (Nat.le_of_ble_eq_true rfl) (s_X9_end_0 ⟨fun q2 => ⟨rfl, ⟨_, rfl⟩, hS.up⟩, fun q2 => ⟨hM.t, _, hM.p, hM.a, 7, hM.ix rfl (by decide), fun q3 => ?_, fun q3 => ⟨rfl, ⟨_, rfl⟩, hS.up⟩⟩⟩)
    rw [rt.1.1] at q3
    exact absurd q3 (wi_eq q (Int32.not_lt.mp q2))
theorem sim_fault (hS : Sim S P I x n) (z : Int32) : SimT g MX8_fault MX9_fault [.int z] x n S P I := by
  obtain ⟨hX, hR, hI, hd⟩ := id hS
  have hV := hX.v
  have hM := hX.m
  obtain ⟨nh, np, nc, nl, tl, rm, rk, rh, rp, rs, rc, rt⟩ := id hR
  refine T_of rfl (Nat.le_of_ble_eq_true rfl) (s_X8_fault_0 ⟨fun q => ⟨hX.1.1, _, hX.1.2.1, hV.t, ?_⟩, fun q => ⟨hX.1.1, _, hX.1.2.1, hV.t, ?_⟩, fun q q1 => ?_⟩)
  · refine T_of rfl (Nat.le_of_ble_eq_true rfl) (s_X9_fault_0 ⟨fun q2 => absurd q q2, fun q2 => ⟨hM.t, _, hM.p, hM.a, 8, hM.ix rfl (by decide), ?_, ⟨_, rfl⟩, hS.up⟩⟩)
    rw [rm.2.2.2.1.2.1]
  · refine T_of rfl (Nat.le_of_ble_eq_true rfl) (s_X9_fault_0 ⟨fun q2 => ⟨fun q3 => absurd q q3, fun q3 => ⟨hM.t, _, hM.p, hM.a, 9, hM.ix rfl (by decide), ?_, ⟨_, rfl⟩, hS.up⟩⟩, fun q2 => ?_⟩)
    · rw [rm.2.2.2.1.2.2.1]
    · rw [q] at q2; exact absurd q2 (by decide)
  · exact T_of rfl (Nat.le_of_ble_eq_true rfl) (s_X9_fault_0 ⟨fun q2 => ⟨fun q3 => ⟨rfl, ⟨_, rfl⟩, hS.up⟩, fun q3 => absurd q3 q1⟩, fun q2 => absurd q2 q⟩)
theorem sim_shape (hS : Sim S P I x n) (z w t : Int32) : SimT g MX8_shape MX9_shape [.int z, .int w, .int t] x n S P I := by
  obtain ⟨hX, hR, hI, hd⟩ := id hS
  have hV := hX.v
  have hM := hX.m
  obtain ⟨nh, np, nc, nl, tl, rm, rk, rh, rp, rs, rc, rt⟩ := id hR
  refine T_of rfl (Nat.le_of_ble_eq_true rfl) (s_X8_shape_0 ⟨fun q => ?_, fun q => ⟨fun q1 => ?_, fun q1 => ⟨fun q2 => ?_, fun q2 => ?_⟩⟩⟩)
  · exact T_of rfl (Nat.le_of_ble_eq_true rfl) (s_X9_shape_0 ⟨fun _ => ⟨rfl, ⟨_, rfl⟩, hS.up⟩, fun z => absurd q z⟩)
  · exact T_of rfl (Nat.le_of_ble_eq_true rfl) (s_X9_shape_0 ⟨fun _ => ⟨rfl, ⟨_, rfl⟩, hS.up⟩, fun _ => ⟨fun _ => ⟨rfl, ⟨_, rfl⟩, hS.up⟩, fun z => absurd q1 z⟩⟩)
  · obtain ⟨j, -, hj, rfl⟩ := wi_nI (a := 0) (b := 4) (by decide) (by decide) (wi_ne q)
    refine ⟨hX.1.1, _, hX.1.2.1, hV.t, _, hV.p6, hV.t10, j, ixl hV.l10 (by omega) (by decide), _, hV.p7, hV.t11, j, ixl hV.l11 (by omega) (by decide), ?_⟩
    have e1 : (40 : Int32) + 2 * nI j = nI (40 + 2 * j) := by
      show nI 40 + nI 2 * nI j = _
      rw [pk_mul, nI_add]
    refine T_of rfl (Nat.le_of_ble_eq_true rfl) (s_X9_shape_0 ⟨fun z => absurd z q, fun _ => ⟨fun z => absurd z q1, fun _ => ⟨fun _ => ⟨hM.t, _, hM.p, hM.a, 40 + 2 * j, hM.ix e1 (by omega), 41 + 2 * j, hM.ix (by rw [e1, nI_1]; congr 1; omega) (by omega), rfl, ⟨_, rfl⟩, ?_⟩, fun z => absurd z q2⟩⟩⟩)
    refine hS.step (fun p hp => Or.inl (by unfold pA; repeat rw [u2_a (by omega)])) (fun a k ha => ?_) (fun k hk => ?_) (fun k => ?_) (hR.sg (fun a k h1 h2 h3 h4 h5 => ?_) (fun k h1 h2 => ?_) (fun s hs => ⟨?_, ?_⟩) (fun s hs => ?_))
    · rw [u2_a (by omega), u2_a (by omega), u2_a (by omega), u2_a (by omega)]
    · rw [u2_k (by omega), u2_k (by omega), u2_a (by omega), u2_a (by omega)]
    · rw [u2_a (by omega), u2_a (by omega), u2_a (by omega), u2_a (by omega)]
    · rw [u2_a (by omega), u2_a (by omega), u2_a (by omega), u2_a (by omega)]
    · rw [u2_k (by omega), u2_k (by omega), u2_a (by omega), u2_a (by omega)]
    · rw [u2_k (by omega), u2_a (a := x + 96 + 1) (b := x + 1 + 10) (by omega), u2_a (a := x + 96 + 1) (b := x + 1 + 10) (by omega), u2_a (a := x + 1 + 11) (b := x + 1 + 10) (by omega)]
      by_cases e : s = j
      · subst e; rw [u2_s, u2_s]
      · rw [u2_k (by omega), u2_k e, u2_a (by omega), u2_a (by omega)]; exact (rm.2.2.2.2.1 s hs).1
    · rw [u2_a (a := x + 96 + 1) (b := x + 1 + 11) (by omega), u2_a (a := x + 96 + 1) (b := x + 1 + 11) (by omega)]
      by_cases e : s = j
      · subst e; rw [u2_s, u2_s]
      · rw [u2_k (by omega), u2_k (by omega), u2_k e, u2_a (by omega), u2_a (by omega), u2_a (by omega)]; exact (rm.2.2.2.2.1 s hs).2
    · rw [u2_k (by omega), u2_k (by omega), u2_a (by omega), u2_a (by omega), u2_a (by omega), u2_a (by omega), u2_a (by omega), u2_a (by omega)]; exact rm.2.2.2.2.2 s hs
  · exact T_of rfl (Nat.le_of_ble_eq_true rfl) (s_X9_shape_0 ⟨fun _ => ⟨rfl, ⟨_, rfl⟩, hS.up⟩, fun _ => ⟨fun _ => ⟨rfl, ⟨_, rfl⟩, hS.up⟩, fun _ => ⟨fun z => absurd q2 z, fun _ => ⟨rfl, ⟨_, rfl⟩, hS.up⟩⟩⟩⟩)
theorem sim_glaze (hS : Sim S P I x n) (z w : Int32) : SimT g MX8_glaze MX9_glaze [.int z, .int w] x n S P I := by
  obtain ⟨hX, hR, hI, hd⟩ := id hS
  have hV := hX.v
  have hM := hX.m
  obtain ⟨nh, np, nc, nl, tl, rm, rk, rh, rp, rs, rc, rt⟩ := id hR
  refine T_of rfl (Nat.le_of_ble_eq_true rfl) (s_X8_glaze_0 ⟨fun q => ?_, fun q => ⟨fun q1 => ?_, fun q1 => ?_⟩⟩)
  · exact T_of rfl (Nat.le_of_ble_eq_true rfl) (s_X9_glaze_0 ⟨fun _ => ⟨rfl, ⟨_, rfl⟩, hS.up⟩, fun z => absurd q z⟩)
  · obtain ⟨j, -, hj, rfl⟩ := wi_nI (a := 0) (b := 3) (by decide) (by decide) (wi_ne q)
    refine ⟨hX.1.1, _, hX.1.2.1, hV.t, _, hV.p8, hV.t12, j, ixl hV.l12 (by omega) (by decide), ?_⟩
    refine T_of rfl (Nat.le_of_ble_eq_true rfl) (s_X9_glaze_0 ⟨fun z => absurd z q, fun _ => ⟨fun _ => ⟨hM.t, _, hM.p, hM.a, 50 + j, hM.ix (nI_add 50 j) (by omega), rfl, ⟨_, rfl⟩, ?_⟩, fun z => absurd z q1⟩⟩)
    refine hS.step (fun p hp => Or.inl (by unfold pA; repeat rw [u2_a (by omega)])) (fun a k ha => ?_) (fun k hk => ?_) (fun k => ?_) (hR.sg (fun a k h1 h2 h3 h4 h5 => ?_) (fun k h1 h2 => ?_) (fun s hs => ⟨?_, ?_⟩) (fun s hs => ?_))
    · rw [u2_a (by omega), u2_a (by omega)]
    · rw [u2_k (by omega), u2_a (by omega)]
    · rw [u2_a (by omega), u2_a (by omega)]
    · rw [u2_a (by omega), u2_a (by omega)]
    · rw [u2_k (by omega), u2_a (by omega)]
    · rw [u2_k (by omega), u2_a (by omega), u2_a (by omega), u2_a (by omega)]; exact (rm.2.2.2.2.1 s hs).1
    · rw [u2_k (by omega), u2_a (by omega), u2_a (by omega), u2_a (by omega)]; exact (rm.2.2.2.2.1 s hs).2
    · rw [u2_a (a := x + 96 + 1) (b := x + 1 + 12) (by omega)]
      by_cases e : s = j
      · subst e; rw [u2_s, u2_s]
      · rw [u2_k (by omega), u2_k e, u2_a (by omega)]; exact rm.2.2.2.2.2 s hs
  · exact T_of rfl (Nat.le_of_ble_eq_true rfl) (s_X9_glaze_0 ⟨fun _ => ⟨rfl, ⟨_, rfl⟩, hS.up⟩, fun _ => ⟨fun z => absurd q1 z, fun _ => ⟨rfl, ⟨_, rfl⟩, hS.up⟩⟩⟩)
theorem nI_sub1 {k : Nat} (h : 1 ≤ k) : nI k - 1 = nI (k - 1) := pk_sub (a := k) (b := 1) h
theorem wi_dec {z : Int32} {k : Nat} (hk : k < 2 ^ 31) (h : ¬ wi z 0 (nI k - 1) = 0) : ∃ j, j < k ∧ z = nI j := by
  rcases Nat.eq_zero_or_pos k with e | e
  · subst e
    exact absurd (wi_ne h) (fun q => by
      have := Int32.le_trans q.1 q.2
      exact absurd this (by decide))
  · rw [nI_sub1 e] at h
    obtain ⟨j, -, hj, rfl⟩ := wi_nI (a := 0) (by decide) (by omega) (wi_ne h)
    exact ⟨j, by omega, rfl⟩
theorem sim_heat (hS : Sim S P I x n) (z : Int32) : SimT g MX8_heat MX9_heat [.int z] x n S P I := by
  obtain ⟨hX, hR, hI, hd⟩ := id hS
  have hV := hX.v
  have hM := hX.m
  obtain ⟨nh, np, nc, nl, tl, rm, rk, rh, rp, rs, rc, rt⟩ := id hR
  have h6 := rm.2.2.1.2.2.2
  refine T_of rfl (Nat.le_of_ble_eq_true rfl) (s_X8_heat_0 ⟨hX.1.1, _, hX.1.2.1, hV.t, _, hV.p9, hV.kp, fun q => ?_, fun q => ?_⟩)
  · rw [rm.2.2.1.2.1] at q
    exact T_of rfl (Nat.le_of_ble_eq_true rfl) (s_X9_heat_0 ⟨hM.t, _, hM.p, hM.a, 2, hM.ix rfl (by decide), fun _ => ⟨rfl, ⟨_, rfl⟩, hS.up⟩, fun z => absurd (by rw [rm.2.2.1.1]; exact q) z⟩)
  · rw [rm.2.2.1.2.1] at q
    obtain ⟨j, hj, rfl⟩ := wi_dec (by omega) q
    refine ⟨_, hV.ki.2.1.1, hV.ki.1.2.1, j, ixl hV.ki.2.2.1 (by omega) (by decide), ?_⟩
    refine T_of rfl (Nat.le_of_ble_eq_true rfl) (s_X9_heat_0 ⟨hM.t, _, hM.p, hM.a, 2, hM.ix rfl (by decide), fun z => absurd (by rw [rm.2.2.1.1] at z; exact z) q, fun _ => ⟨10 + j, hM.ix (nI_add 10 j) (by omega), ?_, ⟨_, rfl⟩, hS.up⟩⟩)
    rw [(rk.1 j (by omega)).1]
end OPS1
