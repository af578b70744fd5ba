section OPS7
variable {g : GT} {S : ST} {P : PT} {I I' : IT} {Q : QT} {x n m v p np nc nh nl c j : Nat} {z : Int32} {A A' : Nat → Int32}
theorem t_turn {a : Nat} {y1 y2 y3 y4 : Int32} (ht : sT S a = 4) (h : ∀ J : IT, J a 0 = y1 → J a 1 = y2 → J a 2 = y3 → J a 3 = y4 → J a 4 = -1 → J a 5 = -1 → J a 6 = 0 → J a 7 = 0 → (∀ b k, b ≠ a → J b k = I b k) → Q none S P J) : T g MX3_turn 0 0 [.ref a, .int y1, .int y2, .int y3, .int y4] S P I Q := by
  refine T_of rfl (Nat.le_of_ble_eq_true rfl) (s_X3_turn_0 ⟨ht, h _ ?_ ?_ ?_ ?_ ?_ ?_ ?_ ?_ (fun b k hb => ?_)⟩)
  · rw [u2_k (by decide), u2_k (by decide), u2_k (by decide), u2_k (by decide), u2_k (by decide), u2_k (by decide), u2_k (by decide), u2_s]
  · rw [u2_k (by decide), u2_k (by decide), u2_k (by decide), u2_k (by decide), u2_k (by decide), u2_k (by decide), u2_s]
  · rw [u2_k (by decide), u2_k (by decide), u2_k (by decide), u2_k (by decide), u2_k (by decide), u2_s]
  · rw [u2_k (by decide), u2_k (by decide), u2_k (by decide), u2_k (by decide), u2_s]
  · rw [u2_k (by decide), u2_k (by decide), u2_k (by decide), u2_s]
  · rw [u2_k (by decide), u2_k (by decide), u2_s]
  · rw [u2_k (by decide), u2_s]
  · rw [u2_s]
  · rw [u2_a hb, u2_a hb, u2_a hb, u2_a hb, u2_a hb, u2_a hb, u2_a hb, u2_a hb]
theorem t9_pot_loop {y1 y2 y3 y4 : Int32} (hL : LM S P m) (hp : p < 24) (hj : j < 8) (e1 : y1 = nI j) (h : ∀ J : IT, J (m + 1) (300 + 8 * p + 0) = y1 → J (m + 1) (300 + 8 * p + 1) = y2 → J (m + 1) (300 + 8 * p + 2) = y3 → J (m + 1) (300 + 8 * p + 3) = y4 → J (m + 1) (300 + 8 * p + 4) = -1 → J (m + 1) (300 + 8 * p + 5) = 0 → J (m + 1) (300 + 8 * p + 6) = 0 → J (m + 1) (60 + 30 * j + 2) = 1 → (∀ k, (k < 300 + 8 * p ∨ 300 + 8 * p + 8 ≤ k) → k ≠ 60 + 30 * j + 2 → J (m + 1) k = I (m + 1) k) → (∀ b k, b ≠ m + 1 → J b k = I b k) → Q (some (.int (nI p))) S P J) : B g MX9_pot 0 0 71 [(0, .ref m), (1, .int y1), (2, .int y2), (3, .int y3), (4, .int y4), (5, .int (nI p)), (6, .int 0)] [] S P I Q := by
  have loop : ∀ k i J, i + k = 8 → fil J (m + 1) (fun _ => 0) (300 + 8 * p + i) (300 + 8 * p + 8) = fil I (m + 1) (fun _ => 0) (300 + 8 * p) (300 + 8 * p + 8) → B g MX9_pot 0 0 71 [(0, .ref m), (1, .int y1), (2, .int y2), (3, .int y3), (4, .int y4), (5, .int (nI p)), (6, .int (nI i))] [] S P J Q := by
    intro k
    induction k with
    | zero =>
      intro i J he hf
      have ei : i = 8 := by omega
      subst ei
      rw [fil_0] at hf
      subst hf
      refine s_X9_pot_71 ⟨fun _ => ⟨hL.t, _, hL.p, hL.a, 300 + 8 * p + 0, hL.ix (n300 p 0) (by omega), 300 + 8 * p + 1, hL.ix (n300 p 1) (by omega), 300 + 8 * p + 2, hL.ix (n300 p 2) (by omega), 300 + 8 * p + 3, hL.ix (n300 p 3) (by omega), 300 + 8 * p + 4, hL.ix (n300 p 4) (by omega), 60 + 30 * j + 2, hL.ix (by rw [e1]; exact n60 j 2) (by omega), h _ ?_ ?_ ?_ ?_ ?_ ?_ ?_ ?_ (fun k h1 h2 => ?_) (fun b k hb => ?_)⟩, fun q => absurd (by decide) q⟩
      · rw [u2_k (by omega), u2_k (by omega), u2_k (by omega), u2_k (by omega), u2_k (by omega), u2_s]
      · rw [u2_k (by omega), u2_k (by omega), u2_k (by omega), u2_k (by omega), u2_s]
      · rw [u2_k (by omega), u2_k (by omega), u2_k (by omega), u2_s]
      · rw [u2_k (by omega), u2_k (by omega), u2_s]
      · rw [u2_k (by omega), u2_s]
      · rw [u2_k (by omega), u2_k (by omega), u2_k (by omega), u2_k (by omega), u2_k (by omega), u2_k (by omega), fil_in (by omega) (by omega)]
      · rw [u2_k (by omega), u2_k (by omega), u2_k (by omega), u2_k (by omega), u2_k (by omega), u2_k (by omega), fil_in (by omega) (by omega)]
      · rw [u2_s]
      · rw [u2_k h2, u2_k (by omega), u2_k (by omega), u2_k (by omega), u2_k (by omega), u2_k (by omega)]
        unfold fil
        rw [if_neg (by omega)]
      · rw [u2_a hb, u2_a hb, u2_a hb, u2_a hb, u2_a hb, u2_a hb, fil_a hb]
    | succ k ih =>
      intro i J he hf
      refine s_X9_pot_71 ⟨fun q => absurd q (nI_ge (b := 8) (by omega) (by decide)), fun q => ⟨hL.t, _, hL.p, hL.a, 300 + 8 * p + i, hL.ix (n300 p i) (by omega), ?_⟩⟩
      rw [nI_1]
      refine ih (i + 1) _ (by omega) ?_
      rw [← hf]
      exact fil_s J (m + 1) (fun _ => 0) (i := 300 + 8 * p + i) (by omega)
  exact loop 8 0 I (by omega) rfl
theorem sim_pot (hS : Sim S P I x n) (y1 y2 y3 y4 : Int32) : SimT g MX8_pot MX9_pot [.int y1, .int y2, .int y3, .int y4] x n S P I := by
  obtain ⟨hX, hR, hI, hd⟩ := id hS
  have hV := hX.v
  have hM := hX.m
  obtain ⟨nh, np, nc, nl, tl, rm, rk, rh, rp, rs, rc, rt⟩ := id hR
  have hnp := rm.2.1.2.2
  have h8 := rm.1.2.2
  have up : ∀ r : Int32, (some (.int r) : Option Value) = some (.int r) ∧ (∃ z : Int32, (some (.int r) : Option Value) = some (.int z)) ∧ Sim S P I x (n + 1) := fun r => ⟨rfl, ⟨_, rfl⟩, hS.up⟩
  refine T_of rfl (Nat.le_of_ble_eq_true rfl) (s_X8_pot_0 ⟨hX.1.1, _, hX.1.2.1, hV.t, fun q => ?_, fun q => ⟨fun q1 => ?_, fun q1 => ⟨fun q2 => ?_, fun q2 => ⟨fun q3 => ?_, fun q3 => ⟨fun q4 => ?_, fun q4 => ?_⟩⟩⟩⟩⟩)
  · rw [rm.2.1.2.1] at q
    have : np = 24 := by
      rcases Nat.lt_or_ge np 24 with z | z
      · exact absurd q (nI_ge (b := 24) z (by decide))
      · omega
    exact T_of rfl (Nat.le_of_ble_eq_true rfl) (s_X9_pot_0 ⟨hM.t, _, hM.p, hM.a, 1, hM.ix rfl (by decide), fun _ => up _, fun e => absurd (by rw [rm.2.1.1, this]; rfl) e⟩)
  all_goals
    rw [rm.2.1.2.1] at q
    have hlt : np < 24 := by
      rcases Nat.lt_or_ge np 24 with z | z
      · exact z
      · exact absurd (nI_le (a := 24) z (by omega)) q
    have q9 : ¬ I (x + 96 + 1) 1 = 24 := by
      rw [rm.2.1.1]
      intro e
      have := nI_inj (a := np) (b := 24) (by omega) (by decide) e
      omega
    rw [rm.1.2.1, ← rm.1.1] at q1
  · exact T_of rfl (Nat.le_of_ble_eq_true rfl) (s_X9_pot_0 ⟨hM.t, _, hM.p, hM.a, 1, hM.ix rfl (by decide), fun e => absurd e q9, fun _ => ⟨0, hM.ix rfl (by decide), fun _ => up _, fun e => absurd q1 e⟩⟩)
  · exact T_of rfl (Nat.le_of_ble_eq_true rfl) (s_X9_pot_0 ⟨hM.t, _, hM.p, hM.a, 1, hM.ix rfl (by decide), fun e => absurd e q9, fun _ => ⟨0, hM.ix rfl (by decide), fun e => absurd e q1, fun _ => ⟨fun _ => up _, fun e => absurd q2 e⟩⟩⟩)
  · exact T_of rfl (Nat.le_of_ble_eq_true rfl) (s_X9_pot_0 ⟨hM.t, _, hM.p, hM.a, 1, hM.ix rfl (by decide), fun e => absurd e q9, fun _ => ⟨0, hM.ix rfl (by decide), fun e => absurd e q1, fun _ => ⟨fun e => absurd e q2, fun _ => ⟨fun _ => up _, fun e => absurd q3 e⟩⟩⟩⟩)
  · have q1' := q1
    rw [rm.1.1] at q1'
    obtain ⟨j, hj, rfl⟩ := wi_dec (by omega) q1'
    obtain ⟨s, -, hs, rfl⟩ := wi_nI (a := 0) (b := 4) (by decide) (by decide) (wi_ne q2)
    obtain ⟨gl, -, hgl, rfl⟩ := wi_nI (a := 0) (b := 3) (by decide) (by decide) (wi_ne q3)
    obtain ⟨w, -, hw, rfl⟩ := wi_nI (a := 0) (b := 9) (by decide) (by decide) (wi_ne q4)
    refine ⟨_, hV.p10, hV.t18, np, ixe rm.2.1.2.1 hV.l18 hlt (by decide), _, hV.pp hlt, hV.po hlt, t_turn (hV.po hlt) (fun J a0 a1 a2 a3 a4 a5 a6 a7 a8 => s_X8_pot_77 ⟨hX.1.1, _, hX.1.2.1, hV.t, _, hV.p4, hV.t9, j, ixl hV.l9 (by omega) (by decide), _, hV.ph (by omega), (hV.ho (by omega)).1.1, ?_⟩)⟩
    have ep : pA (x + 1) np = x + 1 + 59 + np := rfl
    have eh : hA (x + 1) j = x + 1 + 19 + 5 * j := rfl
    have e11 : J (x + 1) 11 = nI np := by rw [a8 _ _ (by omega)]; exact rm.2.1.2.1
    rw [e11, nI_1, nI_sub1 (by omega), show np + 1 - 1 = np by omega]
    generalize hK : u2 (u2 J (hA (x + 1) j) 2 1) (x + 1) 11 (nI (np + 1)) = K
    have kA : ∀ k, K (x + 96 + 1) k = I (x + 96 + 1) k := fun k => by rw [← hK, u2_a (by omega), u2_a (by omega)]; exact a8 _ _ (by omega)
    refine T_of rfl (Nat.le_of_ble_eq_true rfl) (s_X9_pot_0 ⟨hM.t, _, hM.p, hM.a, 1, hM.ix rfl (by decide), fun e => absurd (by rw [kA] at e; exact e) q9, fun _ => ⟨0, hM.ix rfl (by decide), fun e => absurd (by rw [kA] at e; exact e) q1, fun _ => ⟨fun e => absurd e q2, fun _ => ⟨fun e => absurd e q3, fun _ => ⟨fun _ => ?_, fun e => absurd e q4⟩⟩⟩⟩⟩)
    rw [kA, rm.2.1.1, nI_1]
    refine t9_pot_loop hM hlt (j := j) (by omega) rfl (fun L b0 b1 b2 b3 b4 b5 b6 b7 b8 b9 => ⟨rfl, ⟨_, rfl⟩, ?_⟩)
    have eI : ∀ a k, a ≠ x + 96 + 1 → a ≠ pA (x + 1) np → (a ≠ hA (x + 1) j ∨ k ≠ 2) → (a ≠ x + 1 ∨ k ≠ 11) → L a k = I a k := fun a k h1 h2 h3 h4 => by
      rw [b9 _ _ h1, u2_a h1, ← hK]
      have : u2 (u2 J (hA (x + 1) j) 2 1) (x + 1) 11 (nI (np + 1)) a k = u2 J (hA (x + 1) j) 2 1 a k := by
        rcases h4 with h4 | h4
        · rw [u2_a h4]
        · rw [u2_k h4]
      rw [this]
      have : u2 J (hA (x + 1) j) 2 1 a k = J a k := by
        rcases h3 with h3 | h3
        · rw [u2_a h3]
        · rw [u2_k h3]
      rw [this]
      exact a8 _ _ h2
    have eA : ∀ k, (k < 300 + 8 * np ∨ 300 + 8 * np + 8 ≤ k) → k ≠ 60 + 30 * j + 2 → k ≠ 1 → L (x + 96 + 1) k = I (x + 96 + 1) k := fun k h1 h2 h3 => by
      rw [b8 k h1 h2, u2_k h3]; exact kA k
    have eP : ∀ k, L (pA (x + 1) np) k = J (pA (x + 1) np) k := fun k => by
      rw [b9 _ _ (by omega), u2_a (by omega), ← hK, u2_a (by omega), u2_a (by omega)]
    have e1 : L (x + 96 + 1) 1 = nI (np + 1) := by rw [b8 1 (by omega) (by omega), u2_s]
    have e11' : L (x + 1) 11 = nI (np + 1) := by rw [b9 _ _ (by omega), u2_a (by omega), ← hK, u2_s]
    have e2' : L (hA (x + 1) j) 2 = 1 := by rw [b9 _ _ (by omega), u2_a (by omega), ← hK, u2_a (by omega), u2_s]
    obtain ⟨⟨a1', a2', a3'⟩, ⟨b1', b2', b3'⟩, ⟨c1, c2, c3⟩, ⟨d1, d2, d3, d4, d5⟩, e, f⟩ := rm
    refine hS.step (fun p hp => if e : p = np then Or.inr (Or.inl (by rw [e, eP]; exact a6)) else Or.inl (eI _ _ (by unfold pA; omega) (by unfold pA; omega) (Or.inr (by decide)) (by unfold pA; omega))) (fun a k ha => eI _ _ (by omega) (by omega) (by omega) (by omega)) (fun k hk => eA k (by omega) (by omega) (by omega)) (fun k => eI _ _ (by omega) (by omega) (by omega) (by omega)) ⟨nh, np + 1, nc, nl, tl, ⟨⟨by rw [eA 0 (by omega) (by omega) (by omega)]; exact a1', by rw [eI _ _ (by omega) (by omega) (by omega) (by omega)]; exact a2', a3'⟩, ⟨e1, e11', by omega⟩, ⟨by rw [eA 2 (by omega) (by omega) (by omega)]; exact c1, by rw [eI _ _ (by omega) (by omega) (by omega) (by omega)]; exact c2, c3⟩, ⟨by rw [eA 5 (by omega) (by omega) (by omega), eI _ _ (by omega) (by omega) (by omega) (by omega)]; exact d1, by rw [eA 8 (by omega) (by omega) (by omega), eI _ _ (by omega) (by omega) (by omega) (by omega)]; exact d2, by rw [eA 9 (by omega) (by omega) (by omega), eI _ _ (by omega) (by omega) (by omega) (by omega)]; exact d3, by rw [eA 3 (by omega) (by omega) (by omega), eI _ _ (by omega) (by omega) (by omega) (by omega)]; exact d4, by rw [eA 4 (by omega) (by omega) (by omega), eI _ _ (by omega) (by omega) (by omega) (by omega)]; exact d5⟩, fun s hs => by rw [eA _ (by omega) (by omega) (by omega), eA _ (by omega) (by omega) (by omega), eI _ _ (by omega) (by omega) (by omega) (by omega), eI _ _ (by omega) (by omega) (by omega) (by omega)]; exact e s hs, fun s hs => by rw [eA _ (by omega) (by omega) (by omega), eI _ _ (by omega) (by omega) (by omega) (by omega)]; exact f s hs⟩, rk.cong (Nat.le_succ n) (fun j _ => eI _ _ (by omega) (by omega) (by omega) (by omega)) (fun j _ => eI _ _ (by omega) (by omega) (by omega) (by omega)) (fun k h1 h2 => eA k (by omega) (by omega) (by omega)), ?_, fun p hp => ?_, fun k hk => ?_, rc.cong (eI _ _ (by omega) (by omega) (by omega) (by omega)) (fun j _ => eI _ _ (by omega) (by omega) (by omega) (by omega)) (fun j _ => eI _ _ (by omega) (by omega) (by omega) (by omega)) (fun j _ => eI _ _ (by omega) (by omega) (by omega) (by omega)) (fun j _ => eI _ _ (by omega) (by omega) (by omega) (by omega)) (fun j _ => eI _ _ (by omega) (by omega) (by omega) (by omega)) (eA 6 (by omega) (by omega) (by omega)) (fun k h1 h2 => eA k (by omega) (by omega) (by omega)), rt.cong (eI _ _ (by omega) (by omega) (by omega) (by omega)) (fun j _ => eI _ _ (by omega) (by omega) (by omega) (by omega)) (eA 7 (by omega) (by omega) (by omega)) (fun k h1 h2 => eA k (by omega) (by omega) (by omega))⟩
    · obtain ⟨r0, r1, r2, r3, no, dd, uu, r4⟩ := (rh j (by omega)).1 hj
      have ek : ∀ k, k ≠ 2 → L (hA (x + 1) j) k = I (hA (x + 1) j) k := fun k hk => eI _ _ (by omega) (by omega) (Or.inr hk) (by omega)
      have eB : ∀ k, k < 30 → k ≠ 2 → L (x + 96 + 1) (60 + 30 * j + k) = I (x + 96 + 1) (60 + 30 * j + k) := fun k hk h2 => eA _ (by omega) (by omega) (by omega)
      refine rh.at (Nat.le_succ n) (by omega) hj (fun a k h1 h2 h3 => eI _ _ (by omega) (by omega) (by omega) (by omega)) (fun k h1 h2 h3 => eA _ (by omega) (by omega) (by omega)) ⟨?_, ⟨?_, ?_⟩, ⟨?_, ?_⟩, ?_, no, dd, uu, r4.cong (ek 4 (by decide)) (fun i _ => eI _ _ (by omega) (by omega) (by omega) (by omega)) (fun i _ => eI _ _ (by omega) (by omega) (by omega) (by omega)) (fun i _ => eI _ _ (by omega) (by omega) (by omega) (by omega)) (fun i _ => eI _ _ (by omega) (by omega) (by omega) (by omega)) (fun k h1 h2 => eB k h2 (by omega))⟩ <;> try dsimp only
      · rw [eB 0 (by decide) (by decide), ek 0 (by decide)]; exact r0
      · rw [eB 1 (by decide) (by decide), ek 1 (by decide)]; exact r1.1
      · obtain ⟨hd, x2, x3⟩ := r1.2
        exact ⟨hd, by rw [eB 1 (by decide) (by decide)]; exact x2, by omega⟩
      · rw [b7, e2']
      · exact Or.inr b7
      · rw [eB 3 (by decide) (by decide), ek 3 (by decide)]; exact r3
    · by_cases ep2 : p = np
      · subst ep2
        refine ⟨⟨?_, j, hj, ?_⟩, ⟨?_, s, by omega, ?_⟩, ⟨?_, gl, by omega, ?_⟩, ⟨?_, w, by omega, ?_⟩, ⟨?_, Or.inl ?_⟩, ?_, Or.inl ⟨?_, ?_, ?_⟩⟩ <;> try dsimp only
        · rw [b0, eP, a0]
        · exact b0
        · rw [b1, eP, a1]
        · exact b1
        · rw [b2, eP, a2]
        · exact b2
        · rw [b3, eP, a3]
        · exact b3
        · rw [b5, eP, a6]
        · exact b5
        · rw [b6, eP, a7]
        · exact b4
        · rw [eP, a4]
        · rw [eP, a5]
      · exact (rp p (by omega)).cong (fun j => eI _ _ (by unfold pA; omega) (by unfold pA; omega) (by unfold pA; omega) (by unfold pA; omega)) (fun k hk => eA _ (by omega) (by omega) (by omega))
    · rw [eI _ _ (by omega) (by omega) (by omega) (by omega)]
      have eq4 : ∀ p, p < np → L (x + 96 + 1) (300 + 8 * p + 4) = I (x + 96 + 1) (300 + 8 * p + 4) := fun p hp => eA _ (by omega) (by omega) (by omega)
      rcases rs k hk with ⟨s1, s2⟩ | ⟨p, hp, s1, s2, s3⟩
      · refine Or.inl ⟨s1, fun p hp => ?_⟩
        by_cases ep2 : p = np
        · subst ep2; rw [b4]; exact fun e => nI_m1 (by omega) e.symm
        · rw [eq4 p (by omega)]; exact s2 p (by omega)
      · refine Or.inr ⟨p, by omega, s1, by rw [eq4 p hp]; exact s2, fun q hq e => ?_⟩
        by_cases ep2 : q = np
        · subst ep2; rw [b4] at e; exact absurd e.symm (nI_m1 (by omega))
        · rw [eq4 q (by omega)] at e; exact s3 q (by omega) e
  · exact T_of rfl (Nat.le_of_ble_eq_true rfl) (s_X9_pot_0 ⟨hM.t, _, hM.p, hM.a, 1, hM.ix rfl (by decide), fun e => absurd e q9, fun _ => ⟨0, hM.ix rfl (by decide), fun e => absurd e q1, fun _ => ⟨fun e => absurd e q2, fun _ => ⟨fun e => absurd e q3, fun _ => ⟨fun e => absurd q4 e, fun _ => up _⟩⟩⟩⟩⟩)
end OPS7
