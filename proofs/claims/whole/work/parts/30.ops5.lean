section OPS5
variable {g : GT} {S : ST} {P : PT} {I : IT} {Q : QT} {x n m v p np nc nh nl c j : Nat} {z : Int32}
def cn9 (A : Nat → Int32) (np nc k : Nat) : Int32 := match k with
  | 0 => A 0
  | 1 => A 1
  | 2 => nI (fb_ct (fun p => decide (¬ A (300 + 8 * p + 4) < 0)) np)
  | 3 => A 3
  | 4 => A 4
  | 5 => A 5
  | 6 => A 6
  | 7 => A 2
  | _ => sm (fun c => A (10 + c)) nc
theorem t9_count (hL : LM S P m) (hn : I (m + 1) 1 = nI np) (h24 : np ≤ 24) (hc : I (m + 1) 2 = nI nc) (h6 : nc ≤ 6)
    (h : ∀ k, k < 9 → z = nI k → Q (some (.int (cn9 (I (m + 1)) np nc k))) S P I) (hd : (∀ k, k < 9 → ¬ z = nI k) → Q (some (.int (-1))) S P I) : T g MX9_count 0 0 [.ref m, .int z] S P I Q := by
  refine T_of rfl (Nat.le_of_ble_eq_true rfl) (s_X9_count_0 ?_)
  have loop : ∀ k i, i + k = nc → B g MX9_count 0 0 4 [(0, .ref m), (1, .int z), (2, .int (sm (fun c => I (m + 1) (10 + c)) i)), (3, .int (nI i))] [] S P I Q := by
    intro k
    induction k with
    | zero =>
      intro i he
      have ei : i = nc := by omega
      subst ei
      refine s_X9_count_4 ⟨hL.t, _, hL.p, hL.a, 2, hL.ix rfl (by decide), fun _ => ⟨fun q => ⟨0, hL.ix rfl (by decide), h 0 (by decide) q⟩, fun q => ⟨1, hL.ix rfl (by decide), h 1 (by decide) q⟩, fun q => t9_standing hL hn h24 (s_X9_count_102 (h 2 (by decide) q)), fun q => ⟨3, hL.ix rfl (by decide), h 3 (by decide) q⟩, fun q => ⟨4, hL.ix rfl (by decide), h 4 (by decide) q⟩, fun q => ⟨5, hL.ix rfl (by decide), h 5 (by decide) q⟩, fun q => ⟨6, hL.ix rfl (by decide), h 6 (by decide) q⟩, fun q => h 7 (by decide) q, fun q => h 8 (by decide) q, fun q0 q1 q2 q3 q4 q5 q6 q7 q8 => hd (fun k hk e => ?_)⟩, fun q => ?_⟩
      · rcases (show k = 0 ∨ k = 1 ∨ k = 2 ∨ k = 3 ∨ k = 4 ∨ k = 5 ∨ k = 6 ∨ k = 7 ∨ k = 8 by omega) with rfl | rfl | rfl | rfl | rfl | rfl | rfl | rfl | rfl
        · exact q0 e
        · exact q1 e
        · exact q2 e
        · exact q3 e
        · exact q4 e
        · exact q5 e
        · exact q6 e
        · exact q7 e
        · exact q8 e
      · rw [hc] at q; exact absurd (nI_le (by omega) (by omega)) q
    | succ k ih =>
      intro i he
      have hs := ih (i + 1) (by omega)
      refine s_X9_count_4 ⟨hL.t, _, hL.p, hL.a, 2, hL.ix rfl (by decide), fun q => ?_, fun q => ⟨10 + i, hL.ix (nI_add 10 i) (by omega), ?_⟩⟩
      · rw [hc] at q; exact absurd q (nI_ge (by omega) (by omega))
      · rw [nI_1 i]; exact hs
  exact loop nc 0 (by omega)
theorem sm_cong {f f' : Nat → Int32} : ∀ {n : Nat}, (∀ i, i < n → f i = f' i) → sm f n = sm f' n
  | 0, _ => rfl
  | n + 1, h => by rw [sm, sm, sm_cong (fun i hi => h i (by omega)), h n (by omega)]
theorem gm_cong {f f' : Nat → Int32} : ∀ {n : Nat}, (∀ i, i ≤ n → f i = f' i) → gm f n = gm f' n
  | 0, h => h 0 (Nat.le_refl 0)
  | n + 1, h => by rw [gm, gm, gm_cong (fun i hi => h i (by omega)), h (n + 1) (Nat.le_refl _)]
theorem stand_ct {np nh nc : Nat} {A : Nat → Int32} (rp : RVp I v A nh np nc) (h6 : nc ≤ 6) : fb_ct (fun p => decide (¬ A (300 + 8 * p + 4) < 0)) np = fb_ct (fun p => decide (¬ I (pA v p) 4 = -1)) np := by
  refine fb_ct_cong (fun p hp => ?_)
  have e2 : A (300 + 8 * p + 4) < 0 ↔ I (pA v p) 4 = -1 := stand9 (rp p hp) h6
  simp only [e2]
theorem sim_count (hS : Sim S P I x n) (z : Int32) : SimT g MX8_count MX9_count [.int z] x n S P I := by
  obtain ⟨hX, hR, hI, hd⟩ := id hS
  have hV := hX.v
  have hM := hX.m
  obtain ⟨nh, np, nc, nl, tl, rm, rk, rh, rp, rs, rc, rt⟩ := id hR
  have hnp := rm.2.1.2.2
  have h6 := rm.2.2.1.2.2.2
  have fin : ∀ k r, k < 9 → z = nI k → cn9 (I (x + 96 + 1)) np nc k = r → T g MX9_count 0 0 [.ref (x + 96), .int z] S P I (fun r2 S2 P2 I2 => r2 = some (.int r) ∧ (∃ z : Int32, (some (.int r) : Option Value) = some (.int z)) ∧ Sim S2 P2 I2 x (n + 1)) := by
    intro k r hk hz hr
    refine t9_count hM rm.2.1.1 hnp rm.2.2.1.1 h6 (fun k' hk' e => ⟨?_, ⟨_, rfl⟩, hS.up⟩) (fun e => absurd hz (e k hk))
    rw [nI_inj (by omega) (by omega) (e.symm.trans hz), hr]
  refine T_of rfl (Nat.le_of_ble_eq_true rfl) (s_X8_count_0 ⟨fun q => ⟨hX.1.1, _, hX.1.2.1, hV.t, fin 0 _ (by decide) q (rm.1.1.trans rm.1.2.1.symm)⟩, fun q => ⟨hX.1.1, _, hX.1.2.1, hV.t, fin 1 _ (by decide) q (rm.2.1.1.trans rm.2.1.2.1.symm)⟩, fun q => ⟨hX.1.1, _, hX.1.2.1, hV.t, t_standingPots hV rm.2.1.2.1 hnp (s_X8_count_75 (fin 2 _ (by decide) q ?_))⟩, fun q => ⟨hX.1.1, _, hX.1.2.1, hV.t, _, hV.p9, hV.kp, fin 3 _ (by decide) q rm.2.2.2.1.2.2.2.1⟩, fun q => ⟨hX.1.1, _, hX.1.2.1, hV.t, _, hV.p9, hV.kp, fin 4 _ (by decide) q rm.2.2.2.1.2.2.2.2⟩, fun q => ⟨hX.1.1, _, hX.1.2.1, hV.t, fin 5 _ (by decide) q rm.2.2.2.1.1⟩, fun q => ⟨hX.1.1, _, hX.1.2.1, hV.t, _, hV.p1, hV.cu.1.1, fin 6 _ (by decide) q (rc.1.1.trans rc.1.2.1.symm)⟩, fun q => ⟨hX.1.1, _, hX.1.2.1, hV.t, _, hV.p9, hV.kp, fin 7 _ (by decide) q (rm.2.2.1.1.trans rm.2.2.1.2.1.symm)⟩, fun q => ⟨hX.1.1, _, hX.1.2.1, hV.t, _, hV.p9, hV.kp, t_heatsTogether hV.ki rm.2.2.1.2.1 h6 (s_X8_count_138 (fin 8 _ (by decide) q ?_))⟩, fun q0 q1 q2 q3 q4 q5 q6 q7 q8 => ?_⟩)
  · simp only [cn9]
    rw [stand_ct rp h6]
  · simp only [cn9]
    exact sm_cong (fun i hi => (rk.1 i (by omega)).1)
  · refine t9_count hM rm.2.1.1 hnp rm.2.2.1.1 h6 (fun k hk e => ?_) (fun e => ⟨rfl, ⟨_, rfl⟩, hS.up⟩)
    exfalso
    rcases (show k = 0 ∨ k = 1 ∨ k = 2 ∨ k = 3 ∨ k = 4 ∨ k = 5 ∨ k = 6 ∨ k = 7 ∨ k = 8 by omega) with rfl | rfl | rfl | rfl | rfl | rfl | rfl | rfl | rfl
    · exact q0 e
    · exact q1 e
    · exact q2 e
    · exact q3 e
    · exact q4 e
    · exact q5 e
    · exact q6 e
    · exact q7 e
    · exact q8 e
/-! spread -/
def sp_a (ev : Nat → Bool) : Nat → Bool
  | 0 => false
  | i + 1 => sp_a ev i || ev i
def sp_l (ev : Nat → Bool) (had : Nat → Int32) : Nat → Int32
  | 0 => 0
  | i + 1 => if ev i then (if sp_a ev i then imin (sp_l ev had i) (had i) else had i) else sp_l ev had i
def sp_g (ev : Nat → Bool) (had : Nat → Int32) : Nat → Int32
  | 0 => 0
  | i + 1 => if ev i then imax (sp_g ev had i) (had i) else sp_g ev had i
theorem sp_no (ev : Nat → Bool) (had : Nat → Int32) : ∀ i, sp_a ev i = false → sp_l ev had i = 0 ∧ sp_g ev had i = 0
  | 0, _ => ⟨rfl, rfl⟩
  | i + 1, h => by
    rw [sp_a, Bool.or_eq_false_iff] at h
    obtain ⟨h1, h2⟩ := sp_no ev had i h.1
    rw [sp_l, sp_g, h.2]
    exact ⟨h1, h2⟩
theorem sp_pos (ev : Nat → Bool) (had : Nat → Int32) : ∀ i, (∀ k, k < i → 0 ≤ had k) → 0 ≤ sp_l ev had i
  | 0, _ => (by decide : (0 : Int32) ≤ 0)
  | i + 1, h => by
    have ih := sp_pos ev had i (fun k hk => h k (by omega))
    have hi := h i (by omega)
    rw [sp_l]
    unfold imin
    split
    · split
      · split
        · exact hi
        · exact ih
      · exact hi
    · exact ih
theorem t_spreadOfHad (hL : LV S P v) (hh : I v 5 = nI nh) (h8 : nh ≤ 8) (ev : Nat → Bool) (had : Nat → Int32) (hev : ∀ i, i < nh → (ev i = false ↔ I (hA v i) 2 = 0)) (hhd : ∀ i, i < nh → had i = I (hA v i) 1) (h : Q (some (.int (sp_g ev had nh - sp_l ev had nh))) S P I) : T g MX7_spreadOfHad 0 0 [.ref v] S P I Q := by
  refine T_of rfl (Nat.le_of_ble_eq_true rfl) (s_X7_spreadOfHad_0 ?_)
  have loop : ∀ k i, i + k = nh → B g MX7_spreadOfHad 0 0 9 [(0, .ref v), (1, .int (if sp_a ev i then 1 else 0)), (2, .int (sp_l ev had i)), (3, .int (sp_g ev had i)), (4, .int (nI i))] [] S P I Q := by
    intro k
    induction k with
    | zero =>
      intro i he
      have ei : i = nh := by omega
      subst ei
      refine s_X7_spreadOfHad_9 ⟨hL.t, fun _ => h, fun q => ?_⟩
      rw [hh] at q; exact absurd (nI_le (by omega) (by omega)) q
    | succ k ih =>
      intro i he
      have hs := ih (i + 1) (by omega)
      rw [sp_a, sp_l, sp_g, hhd i (by omega)] at hs
      refine s_X7_spreadOfHad_9 ⟨hL.t, fun q => ?_, fun q => ⟨_, hL.p4, hL.t9, i, ixl hL.l9 (by omega) (by decide), _, hL.ph (by omega), (hL.ho (by omega)).1.1, fun c => ?_, fun c => ⟨fun c2 => ?_, fun c2 => ?_⟩⟩⟩
      · rw [hh] at q; exact absurd q (nI_ge (by omega) (by omega))
      · have e := (hev i (by omega)).mpr c
        rw [e] at hs
        simp only [Bool.or_false, Bool.false_eq_true, if_false] at hs
        rw [nI_1 i]; exact hs
      · have e : ev i = true := by
          cases e : ev i with
          | true => rfl
          | false => exact absurd ((hev i (by omega)).mp e) c
        have ea : sp_a ev i = false := by
          cases ea : sp_a ev i with
          | false => rfl
          | true => rw [ea] at c2; exact absurd c2 (by decide)
        rw [e, ea] at hs
        rw [nI_1 i]; exact hs
      · have e : ev i = true := by
          cases e : ev i with
          | true => rfl
          | false => exact absurd ((hev i (by omega)).mp e) c
        have ea : sp_a ev i = true := by
          cases ea : sp_a ev i with
          | true => rfl
          | false => rw [ea] at c2; exact absurd rfl c2
        rw [e, ea] at hs
        rw [nI_1 i]; exact hs
  exact loop nh 0 (by omega)
theorem t9_spread (hL : LM S P m) (hh : I (m + 1) 0 = nI nh) (h8 : nh ≤ 8) (ev : Nat → Bool) (had : Nat → Int32) (hev : ∀ i, i < nh → (ev i = false ↔ I (m + 1) (60 + 30 * i + 2) = 0)) (hhd : ∀ i, i < nh → had i = I (m + 1) (60 + 30 * i + 1)) (hpos : ∀ k, k < nh → 0 ≤ had k) (h : Q (some (.int (sp_g ev had nh - sp_l ev had nh))) S P I) : T g MX9_spread 0 0 [.ref m] S P I Q := by
  refine T_of rfl (Nat.le_of_ble_eq_true rfl) (s_X9_spread_0 ?_)
  have loop : ∀ k i, i + k = nh → B g MX9_spread 0 0 6 [(0, .ref m), (1, .int (if sp_a ev i then sp_l ev had i else -1)), (2, .int (sp_g ev had i)), (3, .int (nI i))] [] S P I Q := by
    intro k
    induction k with
    | zero =>
      intro i he
      have ei : i = nh := by omega
      subst ei
      have hp := sp_pos ev had i hpos
      refine s_X9_spread_6 ⟨hL.t, _, hL.p, hL.a, 0, hL.ix rfl (by decide), fun _ => ⟨fun q => ?_, fun q => ?_⟩, fun q => ?_⟩
      · cases ea : sp_a ev i with
        | true => exact h
        | false => rw [ea] at q; exact absurd (show (0 : Int32) ≤ -1 from q) (by decide)
      · cases ea : sp_a ev i with
        | true => rw [ea] at q; exact absurd hp q
        | false =>
          obtain ⟨e1, e2⟩ := sp_no ev had i ea
          rw [e1, e2] at h
          exact h
      · rw [hh] at q; exact absurd (nI_le (by omega) (by omega)) q
    | succ k ih =>
      intro i he
      have hs := ih (i + 1) (by omega)
      have hp := sp_pos ev had i (fun k hk => hpos k (by omega))
      rw [sp_a, sp_l, sp_g, hhd i (by omega)] at hs
      have et : ¬ I (m + 1) (60 + 30 * i + 2) = 0 → ev i = true := fun c => by
        cases e : ev i with
        | true => rfl
        | false => exact absurd ((hev i (by omega)).mp e) c
      refine s_X9_spread_6 ⟨hL.t, _, hL.p, hL.a, 0, hL.ix rfl (by decide), fun q => ?_, fun q => ⟨60 + 30 * i + 2, hL.ix (n60 i 2) (by omega), fun c => ⟨60 + 30 * i + 1, hL.ix (n60 i 1) (by omega), fun c2 => ⟨fun c3 => ?_, fun c3 => ?_⟩, fun c2 => ⟨fun c3 => ⟨fun c4 => ?_, fun c4 => ?_⟩, fun c3 => ⟨fun c4 => ?_, fun c4 => ?_⟩⟩⟩, fun c => ?_⟩⟩
      · rw [hh] at q; exact absurd q (nI_ge (by omega) (by omega))
      all_goals rw [nI_1 i]
      · have ea : sp_a ev i = false := by
          cases ea : sp_a ev i with
          | false => rfl
          | true => rw [ea] at c2; exact absurd hp (Int32.not_le.mpr c2)
        rw [et c, ea] at hs
        simp only [Bool.or_true, if_true, Bool.false_eq_true, if_false] at hs
        unfold imax at hs
        rw [if_neg (Int32.not_lt.mpr c3)] at hs
        exact hs
      · have ea : sp_a ev i = false := by
          cases ea : sp_a ev i with
          | false => rfl
          | true => rw [ea] at c2; exact absurd hp (Int32.not_le.mpr c2)
        rw [et c, ea] at hs
        simp only [Bool.or_true, if_true, Bool.false_eq_true, if_false] at hs
        unfold imax at hs
        rw [if_pos (Int32.not_le.mp c3)] at hs
        exact hs
      all_goals first
        | (have ea : sp_a ev i = true := by
             cases ea : sp_a ev i with
             | true => rfl
             | false => rw [ea] at c2; exact absurd (show ((-1 : Int32)) < 0 by decide) c2
           rw [et c, ea] at hs
           rw [ea] at c3
           try rw [ea]
           simp only [Bool.or_true, if_true] at hs c3
           try simp only [if_true]
           unfold imax imin at hs
           first
             | (rw [if_neg (Int32.not_lt.mpr c4), if_neg (Int32.not_lt.mpr c3)] at hs; exact hs)
             | (rw [if_pos (Int32.not_le.mp c4), if_neg (Int32.not_lt.mpr c3)] at hs; exact hs)
             | (rw [if_neg (Int32.not_lt.mpr c4), if_pos (Int32.not_le.mp c3)] at hs; exact hs)
             | (rw [if_pos (Int32.not_le.mp c4), if_pos (Int32.not_le.mp c3)] at hs; exact hs)
             | (rw [if_neg (Int32.not_lt.mpr c3), if_neg (Int32.not_lt.mpr c4)] at hs; exact hs)
             | (rw [if_neg (Int32.not_lt.mpr c3), if_pos (Int32.not_le.mp c4)] at hs; exact hs)
             | (rw [if_pos (Int32.not_le.mp c3), if_neg (Int32.not_lt.mpr c4)] at hs; exact hs)
             | (rw [if_pos (Int32.not_le.mp c3), if_pos (Int32.not_le.mp c4)] at hs; exact hs))
        | (have e := (hev i (by omega)).mpr c
           rw [e] at hs
           simp only [Bool.or_false, Bool.false_eq_true, if_false] at hs
           exact hs)
  exact loop nh 0 (by omega)
theorem sim_spread (hS : Sim S P I x n) (h31 : 2376 * n < 2 ^ 31) : SimT g MX8_spread MX9_spread [] x n S P I := by
  obtain ⟨hX, hR, hI, hd⟩ := id hS
  have hV := hX.v
  have hM := hX.m
  obtain ⟨nh, np, nc, nl, tl, rm, rk, rh, rp, rs, rc, rt⟩ := id hR
  have h8 := rm.1.2.2
  have e1 : ∀ i, i < nh → I (x + 96 + 1) (60 + 30 * i + 1) = I (hA (x + 1) i) 1 := fun i hi => ((rh i (by omega)).1 hi).2.1.1
  have e2 : ∀ i, i < nh → I (x + 96 + 1) (60 + 30 * i + 2) = I (hA (x + 1) i) 2 := fun i hi => ((rh i (by omega)).1 hi).2.2.1.1
  refine T_of rfl (Nat.le_of_ble_eq_true rfl) (s_X8_spread_0 ⟨hX.1.1, _, hX.1.2.1, hV.t, t_spreadOfHad hV rm.1.2.1 h8 (fun i => decide (¬ I (hA (x + 1) i) 2 = 0)) (fun i => I (hA (x + 1) i) 1) (fun i hi => by simp) (fun i hi => rfl) (s_X8_spread_7 ?_)⟩)
  refine t9_spread hM rm.1.1 h8 (fun i => decide (¬ I (hA (x + 1) i) 2 = 0)) (fun i => I (hA (x + 1) i) 1) (fun i hi => by rw [e2 i hi]; simp) (fun i hi => (e1 i hi).symm) (fun k hk => ?_) ⟨rfl, ⟨_, rfl⟩, hS.up⟩
  obtain ⟨hd, b2, b3⟩ := ((rh k (by omega)).1 hk).2.1.2
  have b2 : I (x + 96 + 1) (60 + 30 * k + 1) = nI hd := b2
  rw [e1 k hk] at b2
  show 0 ≤ I (hA (x + 1) k) 1
  rw [b2]
  exact nI_pos' (by omega)
end OPS5
