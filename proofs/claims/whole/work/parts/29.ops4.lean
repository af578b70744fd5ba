section OPS4
variable {g : GT} {S : ST} {P : PT} {I : IT} {Q : QT} {x n m p np nc nh nl c j : Nat} {z : Int32} {sv : Nat → Int32}
def ab9 (A sv : Nat → Int32) (nl p k : Nat) : Int32 := match k with
  | 0 => A (300 + 8 * p + 0)
  | 1 => A (300 + 8 * p + 1)
  | 2 => A (300 + 8 * p + 2)
  | 3 => A (300 + 8 * p + 3)
  | 4 => if A (300 + 8 * p + 4) < 0 then -1 else A (300 + 8 * p + 4) / 4
  | 5 => if A (300 + 8 * p + 4) < 0 then -1 else A (300 + 8 * p + 4) - A (300 + 8 * p + 4) / 4 * 4
  | 6 => A (300 + 8 * p + 5)
  | 7 => A (300 + 8 * p + 6)
  | _ => pfl A sv nl 0
theorem t9_about (hL : LM S P m) (hn : I (m + 1) 1 = nI np) (h24 : np ≤ 24) (hp : p < np) (hR : RVc I c (I (m + 1)) nl) (hsv : ∀ s, s < 7 → ask9 (fun i => I (m + 1) (300 + 8 * p + i)) s = sv s)
    (h : ∀ k, k < 9 → z = nI k → Q (some (.int (ab9 (I (m + 1)) sv nl p k))) S P I) (hd : (∀ k, k < 9 → ¬ z = nI k) → Q (some (.int (-1))) S P I) : T g MX9_about 0 0 [.ref m, .int (nI p), .int z] S P I Q := by
  have hw : ¬ wi (nI p) 0 (I (m + 1) 1 - 1) = 0 := by
    rw [hn, nI_sub1 (by omega)]
    exact wi_n0.mpr ⟨nI_pos' (by omega), nI_le (by omega) (by omega)⟩
  refine T_of rfl (Nat.le_of_ble_eq_true rfl) (s_X9_about_0 ⟨hL.t, _, hL.p, hL.a, 1, hL.ix rfl (by decide), fun _ => ⟨fun q => ⟨300 + 8 * p + 0, hL.ix (by rw [q]; exact n300 p 0) (by omega), h 0 (by decide) q⟩, fun q => ⟨300 + 8 * p + 1, hL.ix (by rw [q]; exact n300 p 1) (by omega), h 1 (by decide) q⟩, fun q => ⟨300 + 8 * p + 2, hL.ix (by rw [q]; exact n300 p 2) (by omega), h 2 (by decide) q⟩, fun q => ⟨300 + 8 * p + 3, hL.ix (by rw [q]; exact n300 p 3) (by omega), h 3 (by decide) q⟩, fun q => ⟨300 + 8 * p + 4, hL.ix (n300 p 4) (by omega), fun q2 => ?_, fun q2 => ?_⟩, fun q => ⟨300 + 8 * p + 4, hL.ix (n300 p 4) (by omega), fun q2 => ?_, fun q2 => ?_⟩, fun q => ⟨300 + 8 * p + 5, hL.ix (n300 p 5) (by omega), h 6 (by decide) q⟩, fun q => ⟨300 + 8 * p + 6, hL.ix (n300 p 6) (by omega), h 7 (by decide) q⟩, fun q => t9_customOf hL (by omega) hR hsv (s_X9_about_137 (h 8 (by decide) q)), fun q0 q1 q2 q3 q4 q5 q6 q7 q8 => hd (fun k hk e => ?_)⟩, fun e => absurd e hw⟩)
  · have := h 4 (by decide) q
    simp only [ab9, if_pos q2] at this; exact this
  · have := h 4 (by decide) q
    simp only [ab9, if_neg q2] at this; exact this
  · have := h 5 (by decide) q
    simp only [ab9, if_pos q2] at this; exact this
  · have := h 5 (by decide) q
    simp only [ab9, if_neg q2] at this; exact this
  · rcases (show k = 0 ∨ k = 1 ∨ k = 2 ∨ k = 3 ∨ k = 4 ∨ k = 5 ∨ k = 6 ∨ k = 7 ∨ k = 8 by omega) with rfl | rfl | rfl | rfl | rfl | rfl | rfl | rfl | rfl
    · exact q0 e
    · exact q1 e
    · exact q2 e
    · exact q3 e
    · exact q4 e
    · exact q5 e
    · exact q6 e
    · exact q7 e
    · exact q8 e
theorem sim_about (hS : Sim S P I x n) (y z : Int32) : SimT g MX8_about MX9_about [.int y, .int z] x n S P I := by
  obtain ⟨hX, hR, hI, hd⟩ := id hS
  have hV := hX.v
  have hM := hX.m
  obtain ⟨nh, np, nc, nl, tl, rm, rk, rh, rp, rs, rc, rt⟩ := id hR
  have hnp := rm.2.1.2.2
  have h6 := rm.2.2.1.2.2.2
  refine T_of rfl (Nat.le_of_ble_eq_true rfl) (s_X8_about_0 ⟨hX.1.1, _, hX.1.2.1, hV.t, fun q => ?_, fun q => ?_⟩)
  · rw [rm.2.1.2.1] at q
    obtain ⟨p, hp, rfl⟩ := wi_dec (by omega) q
    have hpot := rp p hp
    have hsv := ask_sbj hpot h6
    obtain ⟨c0, c1, c2, c3, c5, c7, cp⟩ := id hpot
    have fin : ∀ k r, k < 9 → z = nI k → ab9 (I (x + 96 + 1)) (sbj I (pA (x + 1) p)) nl p k = r → T g MX9_about 0 0 [.ref (x + 96), .int (nI p), .int z] S P I (fun r2 S2 P2 I2 => r2 = some (.int r) ∧ (∃ z : Int32, (some (.int r) : Option Value) = some (.int z)) ∧ Sim S2 P2 I2 x (n + 1)) := by
      intro k r hk hz hr
      refine t9_about hM rm.2.1.1 hnp hp rc hsv (fun k' hk' e => ⟨?_, ⟨_, rfl⟩, hS.up⟩) (fun e => absurd hz (e k hk))
      rw [nI_inj (by omega) (by omega) (e.symm.trans hz), hr]
    refine ⟨_, hV.p10, hV.t18, p, ixl hV.l18 (by omega) (by decide), _, hV.pp (by omega), fun q => ⟨hV.po (by omega), fin 0 _ (by decide) q c0.1⟩, fun q => ⟨hV.po (by omega), fin 1 _ (by decide) q c1.1⟩, fun q => ⟨hV.po (by omega), fin 2 _ (by decide) q c2.1⟩, fun q => ⟨hV.po (by omega), fin 3 _ (by decide) q c3.1⟩, fun q => ⟨hV.po (by omega), fin 4 _ (by decide) q ?_⟩, fun q => ⟨hV.po (by omega), fin 5 _ (by decide) q ?_⟩, fun q => ⟨hV.po (by omega), fun q2 => fin 6 _ (by decide) q ?_, fun q2 => fin 6 _ (by decide) q ?_⟩, fun q => ⟨hV.po (by omega), fin 7 _ (by decide) q c7⟩, fun q => ⟨_, hV.p1, hV.cu.1.1, t_partFor hV.cu (hV.po (by omega)) rc (fun s _ => rfl) (s_X8_about_139 (fin 8 _ (by decide) q rfl))⟩, fun q0 q1 q2 q3 q4 q5 q6 q7 q8 => ?_⟩
    · simp only [ab9]
      rcases cp with ⟨e1, e2, e3⟩ | ⟨c, s, hc, hs2, e1, e2, e3⟩
      · have e1 : I (x + 96 + 1) (300 + 8 * p + 4) = -1 := e1
        rw [e1, e2, if_pos m1_neg]
      · have e1 : I (x + 96 + 1) (300 + 8 * p + 4) = nI (4 * c + s) := e1
        rw [e1, e2, if_neg (nI_pos (by omega))]
        have := pk_div (a := 4 * c + s) (d := 4) (by omega) (by decide) (by decide)
        rw [show (4 * c + s) / 4 = c by omega] at this
        exact this
    · simp only [ab9]
      rcases cp with ⟨e1, e2, e3⟩ | ⟨c, s, hc, hs2, e1, e2, e3⟩
      · have e1 : I (x + 96 + 1) (300 + 8 * p + 4) = -1 := e1
        rw [e1, e3, if_pos m1_neg]
      · have e1 : I (x + 96 + 1) (300 + 8 * p + 4) = nI (4 * c + s) := e1
        rw [e1, e3, if_neg (nI_pos (by omega))]
        have := pk_rem (a := 4 * c + s) (d := 4) (by omega) (by decide) (by decide)
        rw [show (4 * c + s) % 4 = s by omega] at this
        exact this
    · exact c5.1.trans q2
    · rcases c5.2 with e | e
      · exact absurd (c5.1.symm.trans e) q2
      · exact e
    · refine t9_about hM rm.2.1.1 hnp hp rc hsv (fun k hk e => ?_) (fun e => ⟨rfl, ⟨_, rfl⟩, hS.up⟩)
      exfalso
      rcases (show k = 0 ∨ k = 1 ∨ k = 2 ∨ k = 3 ∨ k = 4 ∨ k = 5 ∨ k = 6 ∨ k = 7 ∨ k = 8 by omega) with rfl | rfl | rfl | rfl | rfl | rfl | rfl | rfl | rfl
      · exact q0 e
      · exact q1 e
      · exact q2 e
      · exact q3 e
      · exact q4 e
      · exact q5 e
      · exact q6 e
      · exact q7 e
      · exact q8 e
  · rw [rm.2.1.2.1] at q
    exact T_of rfl (Nat.le_of_ble_eq_true rfl) (s_X9_about_0 ⟨hM.t, _, hM.p, hM.a, 1, hM.ix rfl (by decide), fun e => absurd (by rw [rm.2.1.1]; exact q) e, fun _ => ⟨rfl, ⟨_, rfl⟩, hS.up⟩⟩)
def tl9 (A : Nat → Int32) (np no j k : Nat) : Int32 := match k with
  | 0 => A (60 + 30 * j + 0)
  | 1 => A (60 + 30 * j + 1)
  | 2 => nI (fb_ct (fun p => decide (A (300 + 8 * p + 0) = nI j)) np)
  | 3 => nI (fb_ct (fun p => decide (A (300 + 8 * p + 0) = nI j ∧ ¬ A (300 + 8 * p + 4) < 0)) np)
  | 4 => A (60 + 30 * j + 4)
  | 5 => wo (fun i => A (60 + 30 * j + (7 + 3 * i))) (nI (bst (fun s => wo (fun i => A (60 + 30 * j + (7 + 3 * i))) (nI s) no) (fun s => cmm (fun i => A (60 + 30 * j + (5 + 3 * i))) (fun i => A (60 + 30 * j + (6 + 3 * i))) (nI s) no) (2 ^ no - 1))) no
  | 6 => nI (bst (fun s => wo (fun i => A (60 + 30 * j + (7 + 3 * i))) (nI s) no) (fun s => cmm (fun i => A (60 + 30 * j + (5 + 3 * i))) (fun i => A (60 + 30 * j + (6 + 3 * i))) (nI s) no) (2 ^ no - 1))
  | _ => A (60 + 30 * j + 3)
theorem t9_tell {no : Nat} (hL : LM S P m) (hh : I (m + 1) 0 = nI nh) (h8 : nh ≤ 8) (hn : I (m + 1) 1 = nI np) (h24 : np ≤ 24) (hj : j < nh) (hno : I (m + 1) (60 + 30 * j + 4) = nI no) (ho : no ≤ 8)
    (h : ∀ k, k < 8 → z = nI k → Q (some (.int (tl9 (I (m + 1)) np no j k))) S P I) (hd : (∀ k, k < 8 → ¬ z = nI k) → Q (some (.int (-1000000000))) S P I) : T g MX9_tell 0 0 [.ref m, .int (nI j), .int z] S P I Q := by
  have hw : ¬ wi (nI j) 0 (I (m + 1) 0 - 1) = 0 := by
    rw [hh, nI_sub1 (by omega)]
    exact wi_n0.mpr ⟨nI_pos' (by omega), nI_le (by omega) (by omega)⟩
  refine T_of rfl (Nat.le_of_ble_eq_true rfl) (s_X9_tell_0 ⟨hL.t, _, hL.p, hL.a, 0, hL.ix rfl (by decide), fun _ => ?_, fun e => absurd e hw⟩)
  have loop : ∀ k i, i + k = np → B g MX9_tell 0 0 19 [(0, .ref m), (1, .int (nI j)), (2, .int z), (3, .int (nI (fb_ct (fun p => decide (I (m + 1) (300 + 8 * p + 0) = nI j)) i))), (4, .int (nI (fb_ct (fun p => decide (I (m + 1) (300 + 8 * p + 0) = nI j ∧ ¬ I (m + 1) (300 + 8 * p + 4) < 0)) i))), (5, .int (nI i))] [] S P I Q := by
    intro k
    induction k with
    | zero =>
      intro i he
      have ei : i = np := by omega
      subst ei
      refine s_X9_tell_19 ⟨hL.t, _, hL.p, hL.a, 1, hL.ix rfl (by decide), fun _ => ⟨fun q => ⟨60 + 30 * j + 0, hL.ix (by rw [q]; exact n60 j 0) (by omega), h 0 (by decide) q⟩, fun q => ⟨60 + 30 * j + 1, hL.ix (by rw [q]; exact n60 j 1) (by omega), h 1 (by decide) q⟩, fun q => h 2 (by decide) q, fun q => h 3 (by decide) q, fun q => ⟨60 + 30 * j + 4, hL.ix (n60 j 4) (by omega), h 4 (by decide) q⟩, fun q => t9_best hL hno ho (by omega) (s_X9_tell_158 ⟨hL.t, t9_worthOf hL hno ho (by omega) (s_X9_tell_161 (h 5 (by decide) q))⟩), fun q => t9_best hL hno ho (by omega) (s_X9_tell_167 (h 6 (by decide) q)), fun q => ⟨60 + 30 * j + 3, hL.ix (n60 j 3) (by omega), h 7 (by decide) q⟩, fun q0 q1 q2 q3 q4 q5 q6 q7 => hd (fun k hk e => ?_)⟩, fun q => ?_⟩
      · rcases (show k = 0 ∨ k = 1 ∨ k = 2 ∨ k = 3 ∨ k = 4 ∨ k = 5 ∨ k = 6 ∨ k = 7 by omega) with rfl | rfl | rfl | rfl | rfl | rfl | rfl | rfl
        · exact q0 e
        · exact q1 e
        · exact q2 e
        · exact q3 e
        · exact q4 e
        · exact q5 e
        · exact q6 e
        · exact q7 e
      · rw [hn] at q; exact absurd (nI_le (by omega) (by omega)) q
    | succ k ih =>
      intro i he
      have hs := ih (i + 1) (by omega)
      refine s_X9_tell_19 ⟨hL.t, _, hL.p, hL.a, 1, hL.ix rfl (by decide), fun q => ?_, fun q => ⟨300 + 8 * i + 0, hL.ix (n300 i 0) (by omega), fun c1 => ⟨fun _ => ?_, fun z => absurd z c1⟩, fun c1 => ⟨fun z => absurd c1 z, fun _ => ⟨300 + 8 * i + 4, hL.ix (n300 i 4) (by omega), fun c2 => ?_, fun c2 => ?_⟩⟩⟩⟩
      · rw [hn] at q; exact absurd q (nI_ge (by omega) (by omega))
      · rw [ct_f (by simp only [c1, decide_false]), ct_f (by simp only [c1, false_and, decide_false])] at hs
        rw [Int32.add_zero, Int32.add_zero, nI_1 i]; exact hs
      · rw [ct_t (by simp only [c1, decide_true]), ct_f (by simp only [c2, not_true_eq_false, and_false, decide_false])] at hs
        rw [Int32.add_zero, nI_1 i]; exact hs
      · rw [ct_t (by simp only [c1, decide_true]), ct_t (by simp only [c1, c2, not_false_eq_true, and_true, decide_true])] at hs
        rw [nI_1 i]; exact hs
  exact loop np 0 (by omega)
theorem stand9 {I : IT} {a nh nc : Nat} {A : Nat → Int32} (h : RVp1 I a A nh nc) (h6 : nc ≤ 6) : A 4 < 0 ↔ I a 4 = -1 := by
  obtain ⟨h0, h1, h2, h3, h5, h7, hp⟩ := h
  rcases hp with ⟨e1, e2, e3⟩ | ⟨c, s, hc, hs2, e1, e2, e3⟩
  · rw [e1, e2]; decide
  · rw [e1, e2]
    exact ⟨fun q => absurd q (nI_pos (by omega)), fun q => absurd q (nI_m1 (by omega))⟩
theorem sim_tell (hS : Sim S P I x n) (y z : Int32) : SimT g MX8_tell MX9_tell [.int y, .int z] x n S P I := by
  obtain ⟨hX, hR, hI, hd⟩ := id hS
  have hV := hX.v
  have hM := hX.m
  obtain ⟨nh, np, nc, nl, tl, rm, rk, rh, rp, rs, rc, rt⟩ := id hR
  have hnp := rm.2.1.2.2
  have h6 := rm.2.2.1.2.2.2
  have h8 := rm.1.2.2
  refine T_of rfl (Nat.le_of_ble_eq_true rfl) (s_X8_tell_0 ⟨hX.1.1, _, hX.1.2.1, hV.t, fun q => ?_, fun q => ?_⟩)
  · rw [rm.1.2.1] at q
    obtain ⟨j, hj, rfl⟩ := wi_dec (by omega) q
    obtain ⟨a, b, c, d, no, dd, uu, e⟩ := (rh j (by omega)).1 hj
    have eo9 : I (x + 96 + 1) (60 + 30 * j + 4) = nI no := e.1.1
    have eo8 := e.1.2.1
    have ho := e.1.2.2
    have hH := hV.ho (i := j) (by omega)
    have fin : ∀ k r, k < 8 → z = nI k → tl9 (I (x + 96 + 1)) np no j k = r → T g MX9_tell 0 0 [.ref (x + 96), .int (nI j), .int z] S P I (fun r2 S2 P2 I2 => r2 = some (.int r) ∧ (∃ z : Int32, (some (.int r) : Option Value) = some (.int z)) ∧ Sim S2 P2 I2 x (n + 1)) := by
      intro k r hk hz hr
      refine t9_tell hM rm.1.1 h8 rm.2.1.1 hnp hj eo9 ho (fun k' hk' e => ⟨?_, ⟨_, rfl⟩, hS.up⟩) (fun e => absurd hz (e k hk))
      rw [nI_inj (by omega) (by omega) (e.symm.trans hz), hr]
    have hbw : ∀ s, wo (I (hA (x + 1) j + 3)) (nI s) no = wo (fun i => I (x + 96 + 1) (60 + 30 * j + (7 + 3 * i))) (nI s) no := fun s => wo_cong (fun i hi => (e.2.1 i hi).2.2.symm)
    have hbc : ∀ s, cdl (I (hA (x + 1) j + 1)) (I (hA (x + 1) j + 2)) (nI s) (sl uu no) 0 = cmm (fun i => I (x + 96 + 1) (60 + 30 * j + (5 + 3 * i))) (fun i => I (x + 96 + 1) (60 + 30 * j + (6 + 3 * i))) (nI s) no := fun s => cdl_cmm2 ho (fun i hi => ⟨(e.2.1 i hi).1.2.1, (e.2.1 i hi).1.2.2⟩) (fun i hi => ⟨(e.2.1 i hi).2.1.2.1, (e.2.1 i hi).2.1.2.2⟩) (fun i hi => (e.2.1 i hi).1.1) (fun i hi => (e.2.1 i hi).2.1.1)
    have hbb := bst_cong hbw hbc (2 ^ no - 1)
    have slb : ∀ r, r < no → (sl uu no).getD r 0 < 8 := fun r hr => Nat.lt_of_lt_of_le (sl_lt uu hr) ho
    refine ⟨_, hV.p4, hV.t9, j, ixl hV.l9 (by omega) (by decide), _, hV.ph (by omega), fun q => ⟨hH.1.1, fin 0 _ (by decide) q a⟩, fun q => ⟨hH.1.1, fin 1 _ (by decide) q b.1⟩, fun q => t_potsOf hV rm.2.1.2.1 hnp (s_X8_tell_91 (fin 2 _ (by decide) q ?_)), fun q => t_potsOf hV rm.2.1.2.1 hnp (s_X8_tell_101 (fin 3 _ (by decide) q ?_)), fun q => ⟨hH.1.1, fin 4 _ (by decide) q (eo9.trans eo8.symm)⟩, fun q => ⟨hH.1.1, t_bestOrders hH eo8 ho (sl uu no) (sl_len uu no) slb (fun r hr => e.2.2 r hr) (s_X8_tell_112 ⟨hH.1.1, t_worthOf hH eo8 ho (s_X8_tell_115 (fin 5 _ (by decide) q ?_))⟩)⟩, fun q => ⟨hH.1.1, t_bestOrders hH eo8 ho (sl uu no) (sl_len uu no) slb (fun r hr => e.2.2 r hr) (s_X8_tell_120 (fin 6 _ (by decide) q ?_))⟩, fun q => ⟨hH.1.1, fin 7 _ (by decide) q d⟩, fun q0 q1 q2 q3 q4 q5 q6 q7 => ?_⟩
    · simp only [tl9]
      congr 1
      refine fb_ct_cong (fun p hp => ?_)
      have e1 : I (x + 96 + 1) (300 + 8 * p + 0) = I (pA (x + 1) p) 0 := (rp p hp).1.1
      rw [e1]
      simp
    · simp only [tl9]
      congr 1
      refine fb_ct_cong (fun p hp => ?_)
      have e1 : I (x + 96 + 1) (300 + 8 * p + 0) = I (pA (x + 1) p) 0 := (rp p hp).1.1
      have e2 : I (x + 96 + 1) (300 + 8 * p + 4) < 0 ↔ I (pA (x + 1) p) 4 = -1 := stand9 (rp p hp) h6
      rw [e1]
      simp [e2]
    · simp only [tl9]
      rw [← hbb, hbw]
    · simp only [tl9]
      rw [hbb]
    · refine t9_tell hM rm.1.1 h8 rm.2.1.1 hnp hj eo9 ho (fun k hk e => ?_) (fun e => ⟨rfl, ⟨_, rfl⟩, hS.up⟩)
      exfalso
      rcases (show k = 0 ∨ k = 1 ∨ k = 2 ∨ k = 3 ∨ k = 4 ∨ k = 5 ∨ k = 6 ∨ k = 7 by omega) with rfl | rfl | rfl | rfl | rfl | rfl | rfl | rfl
      · exact q0 e
      · exact q1 e
      · exact q2 e
      · exact q3 e
      · exact q4 e
      · exact q5 e
      · exact q6 e
      · exact q7 e
  · rw [rm.1.2.1] at q
    exact T_of rfl (Nat.le_of_ble_eq_true rfl) (s_X9_tell_0 ⟨hM.t, _, hM.p, hM.a, 0, hM.ix rfl (by decide), fun e => absurd (by rw [rm.1.1]; exact q) e, fun _ => ⟨rfl, ⟨_, rfl⟩, hS.up⟩⟩)
end OPS4
