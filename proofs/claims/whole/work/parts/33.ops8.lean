section OPS8
variable {g : GT} {S : ST} {P : PT} {I I' : IT} {Q : QT} {x n m v p np nc nh nl c j : Nat} {z : Int32} {A A' : Nat → Int32}
theorem t9_begins (hL : LM S P m) (h : ∀ J : IT, J (m + 1) 2 = z → (∀ j, j < 6 → J (m + 1) (10 + j) = 20) → (∀ k, k < 24 → J (m + 1) (16 + k) = kv k) → (∀ k, k ≠ 2 → (k < 10 ∨ 40 ≤ k) → J (m + 1) k = I (m + 1) k) → (∀ a k, a ≠ m + 1 → J a k = I a k) → Q none S P J) : T g MX9_begins 0 0 [.ref m, .int z] S P I Q := by
  refine T_of rfl (Nat.le_of_ble_eq_true rfl) (s_X9_begins_0 ⟨hL.t, _, hL.p, hL.a, 2, hL.ix rfl (by decide), ?_⟩)
  have outer : ∀ k c J, c + k = 6 → J (m + 1) 2 = z → (∀ j, j < c → J (m + 1) (10 + j) = 20) → (∀ k, k < 4 * c → J (m + 1) (16 + k) = kv k) → (∀ k, k ≠ 2 → (k < 10 ∨ 40 ≤ k) → J (m + 1) k = I (m + 1) k) → (∀ a k, a ≠ m + 1 → J a k = I a k) → B g MX9_begins 0 0 9 [(0, .ref m), (1, .int z), (2, .int (nI c))] [] S P J Q := by
    intro k
    induction k with
    | zero =>
      intro c J he a1 a2 a3 a4 a5
      have ec : c = 6 := by omega
      subst ec
      exact s_X9_begins_9 ⟨fun _ => h J a1 a2 (fun k hk => a3 k (by omega)) a4 a5, fun q => absurd (by decide) q⟩
    | succ k ih =>
      intro c J he a1 a2 a3 a4 a5
      refine s_X9_begins_9 ⟨fun q => absurd q (nI_ge (b := 6) (by omega) (by decide)), fun q => ⟨hL.t, _, hL.p, hL.a, 10 + c, hL.ix (nI_add 10 c) (by omega), ?_⟩⟩
      have inner : ∀ k2 s J, s + k2 = 4 → J (m + 1) 2 = z → (∀ j, j < c + 1 → J (m + 1) (10 + j) = 20) → (∀ k, k < 4 * c + s → J (m + 1) (16 + k) = kv k) → (∀ k, k ≠ 2 → (k < 10 ∨ 40 ≤ k) → J (m + 1) k = I (m + 1) k) → (∀ a k, a ≠ m + 1 → J a k = I a k) → B g MX9_begins 0 0 28 [(0, .ref m), (1, .int z), (2, .int (nI c)), (3, .int (nI s))] [] S P J Q := by
        intro k2
        induction k2 with
        | zero =>
          intro s J he2 b1 b2 b3 b4 b5
          have es : s = 4 := by omega
          subst es
          refine s_X9_begins_28 ⟨fun _ => ?_, fun q => absurd (by decide) q⟩
          rw [nI_1]
          exact ih (c + 1) J (by omega) b1 b2 (fun k hk => b3 k (by omega)) b4 b5
        | succ k2 ih2 =>
          intro s J he2 b1 b2 b3 b4 b5
          refine s_X9_begins_28 ⟨fun q => absurd q (nI_ge (b := 4) (by omega) (by decide)), fun q => ⟨hL.t, _, hL.p, hL.a, 16 + (4 * c + s), hL.ix (n16 c s) (by omega), ?_⟩⟩
          rw [nI_1]
          refine ih2 (s + 1) _ (by omega) ?_ (fun j hj => ?_) (fun k hk => ?_) (fun k h1 h2 => ?_) (fun a k ha => ?_)
          · rw [u2_k (by omega)]; exact b1
          · rw [u2_k (by omega)]; exact b2 j hj
          · by_cases e : k = 4 * c + s
            · subst e
              rw [u2_s]
              unfold kv
              rw [show (4 * c + s) / 4 = c by omega, show (4 * c + s) % 4 = s by omega]
            · rw [u2_k (by omega)]; exact b3 k (by omega)
          · rw [u2_k (by omega)]; exact b4 k h1 h2
          · rw [u2_a ha]; exact b5 a k ha
      refine inner 4 0 _ rfl ?_ (fun j hj => ?_) (fun k hk => ?_) (fun k h1 h2 => ?_) (fun a k ha => ?_)
      · rw [u2_k (by omega)]; exact a1
      · by_cases e : j = c
        · subst e; rw [u2_s]
        · rw [u2_k (by omega)]; exact a2 j (by omega)
      · rw [u2_k (by omega)]; exact a3 k (by omega)
      · rw [u2_k (by omega)]; exact a4 k h1 h2
      · rw [u2_a ha]; exact a5 a k ha
  refine outer 6 0 _ rfl (by rw [u2_s]) (fun j hj => absurd hj (Nat.not_lt_zero j)) (fun k hk => absurd hk (by omega)) (fun k h1 h2 => by rw [u2_k h1]) (fun a k ha => by rw [u2_a ha])
theorem kv_nI {k : Nat} (hk : k < 24) : ∃ vl : Nat, kv k = nI vl ∧ 1 ≤ vl ∧ vl ≤ 99 := by
  have : ∀ i, i < 24 → kv i = nI (10 - i / 4 + i % 4) := by decide
  exact ⟨10 - k / 4 + k % 4, this k hk, by omega, by omega⟩
theorem sim_kiln (hS : Sim S P I x n) (z : Int32) : SimT g MX8_kiln MX9_kiln [.int z] x n S P I := by
  obtain ⟨hX, hR, hI, hd⟩ := id hS
  have hV := hX.v
  have hM := hX.m
  obtain ⟨nh, np, nc, nl, tl, rm, rk, rh, rp, rs, rc, rt⟩ := id hR
  have hnp := rm.2.1.2.2
  have h6 := rm.2.2.1.2.2.2
  have up : ∀ r : Int32, (some (.int r) : Option Value) = some (.int r) ∧ (∃ z : Int32, (some (.int r) : Option Value) = some (.int z)) ∧ Sim S P I x (n + 1) := fun r => ⟨rfl, ⟨_, rfl⟩, hS.up⟩
  refine T_of rfl (Nat.le_of_ble_eq_true rfl) (s_X8_kiln_0 ⟨fun q => ?_, fun q => ⟨hX.1.1, _, hX.1.2.1, hV.t, t_standingPots hV rm.2.1.2.1 hnp (s_X8_kiln_17 ⟨fun q1 => ⟨hX.1.1, _, hX.1.2.1, hV.t, _, hV.p9, hV.kp, ?_⟩, fun q1 => ?_⟩)⟩⟩)
  · exact T_of rfl (Nat.le_of_ble_eq_true rfl) (s_X9_kiln_0 ⟨fun _ => up _, fun e => absurd q e⟩)
  · obtain ⟨j, hj1, hj2, rfl⟩ := wi_nI (a := 2) (b := 6) (by decide) (by decide) (wi_ne q)
    have hct : fb_ct (fun p => decide (¬ I (pA (x + 1) p) 4 = -1)) np = 0 := by
      have hle := fb_ct_le (fun p => decide (¬ I (pA (x + 1) p) 4 = -1)) np
      rcases Nat.eq_zero_or_pos (fb_ct (fun p => decide (¬ I (pA (x + 1) p) 4 = -1)) np) with e | e
      · exact e
      · exact absurd q1 (nI_nle e (by omega))
    have hw : ∀ p, p < np → I (pA (x + 1) p) 4 = -1 := fun p hp => by
      have := fb_ct_zero.mp hct p hp
      simpa using this
    have hw9 : fb_ct (fun p => decide (¬ I (x + 96 + 1) (300 + 8 * p + 4) < 0)) np = 0 := (stand_ct rp h6).trans hct
    refine t_build hV.ki (s_X8_kiln_33 ?_)
    generalize hK : fil (fil (u2 I (x + 1 + 13) 0 (nI j)) (x + 1 + 13 + 1) (fun _ => 20) 0 6) (x + 1 + 13 + 3) kv 0 24 = K
    have kI : ∀ a k, a ≠ x + 1 + 14 → a ≠ x + 1 + 16 → (a ≠ x + 1 + 13 ∨ k ≠ 0) → K a k = I a k := fun a k h1 h2 h3 => by
      rw [← hK, fil_a (by omega), fil_a (by omega)]
      rcases h3 with h3 | h3
      · rw [u2_a h3]
      · rw [u2_k h3]
    refine T_of rfl (Nat.le_of_ble_eq_true rfl) (s_X9_kiln_0 ⟨fun e => absurd e q, fun _ => ⟨hM.t, t9_standing hM (by rw [kI _ _ (by omega) (by omega) (by omega)]; exact rm.2.1.1) hnp (s_X9_kiln_14 ⟨fun _ => ⟨hM.t, t9_begins hM (fun L b1 b2 b3 b4 b5 => s_X9_kiln_24 ⟨rfl, ⟨_, rfl⟩, ?_⟩)⟩, fun e => ?_⟩)⟩⟩)
    · have eI : ∀ a k, a ≠ x + 96 + 1 → a ≠ x + 1 + 14 → a ≠ x + 1 + 16 → (a ≠ x + 1 + 13 ∨ k ≠ 0) → L a k = I a k := fun a k h0 h1 h2 h3 => (b5 a k h0).trans (kI a k h1 h2 h3)
      have eA : ∀ k, k ≠ 2 → (k < 10 ∨ 40 ≤ k) → L (x + 96 + 1) k = I (x + 96 + 1) k := fun k h1 h2 => (b4 k h1 h2).trans (kI _ _ (by omega) (by omega) (by omega))
      have l0 : L (x + 1 + 13) 0 = nI j := by rw [b5 _ _ (by omega), ← hK, fil_a (by omega), fil_a (by omega), u2_s]
      have l14 : ∀ c, c < 6 → L (x + 1 + 14) c = 20 := fun c hc => by rw [b5 _ _ (by omega), ← hK, fil_a (by omega)]; exact fil_in (b := x + 1 + 14) (by omega) hc
      have l16 : ∀ k, k < 24 → L (x + 1 + 16) k = kv k := fun k hk => by rw [b5 _ _ (by omega), ← hK]; exact fil_in (b := x + 1 + 16) (by omega) hk
      obtain ⟨⟨a1', a2', a3'⟩, ⟨b1', b2', b3'⟩, ⟨c1, c2, c3⟩, ⟨d1, d2, d3, d4, d5⟩, e, f⟩ := rm
      refine hS.step (fun p hp => Or.inl (eI _ _ (by unfold pA; omega) (by unfold pA; omega) (by unfold pA; omega) (Or.inl (by unfold pA; omega)))) (fun a k ha => eI _ _ (by omega) (by omega) (by omega) (by omega)) (fun k hk => eA k (by omega) (by omega)) (fun k => eI _ _ (by omega) (by omega) (by omega) (by omega)) ⟨nh, np, j, nl, tl, ⟨⟨by rw [eA 0 (by omega) (by omega)]; exact a1', by rw [eI _ _ (by omega) (by omega) (by omega) (by omega)]; exact a2', a3'⟩, ⟨by rw [eA 1 (by omega) (by omega)]; exact b1', by rw [eI _ _ (by omega) (by omega) (by omega) (by omega)]; exact b2', b3'⟩, ⟨b1, l0, hj1, hj2⟩, ⟨by rw [eA 5 (by omega) (by omega), eI _ _ (by omega) (by omega) (by omega) (by omega)]; exact d1, by rw [eA 8 (by omega) (by omega), eI _ _ (by omega) (by omega) (by omega) (by omega)]; exact d2, by rw [eA 9 (by omega) (by omega), eI _ _ (by omega) (by omega) (by omega) (by omega)]; exact d3, by rw [eA 3 (by omega) (by omega), eI _ _ (by omega) (by omega) (by omega) (by omega)]; exact d4, by rw [eA 4 (by omega) (by omega), eI _ _ (by omega) (by omega) (by omega) (by omega)]; exact d5⟩, fun s hs => by rw [eA _ (by omega) (by omega), eA _ (by omega) (by omega), eI _ _ (by omega) (by omega) (by omega) (by omega), eI _ _ (by omega) (by omega) (by omega) (by omega)]; exact e s hs, fun s hs => by rw [eA _ (by omega) (by omega), eI _ _ (by omega) (by omega) (by omega) (by omega)]; exact f s hs⟩, ⟨fun c hc => ?_, fun k hk => ?_⟩, rh.cong (Nat.le_succ n) (fun a j h1 h2 => eI _ _ (by omega) (by omega) (by omega) (by omega)) (fun k h1 h2 => eA k (by omega) (by omega)), fun p hp => ?_, rs.cong hnp (fun j _ => eI _ _ (by omega) (by omega) (by omega) (by omega)) (fun p hp => eA _ (by omega) (by omega)), rc.cong (eI _ _ (by omega) (by omega) (by omega) (by omega)) (fun j _ => eI _ _ (by omega) (by omega) (by omega) (by omega)) (fun j _ => eI _ _ (by omega) (by omega) (by omega) (by omega)) (fun j _ => eI _ _ (by omega) (by omega) (by omega) (by omega)) (fun j _ => eI _ _ (by omega) (by omega) (by omega) (by omega)) (fun j _ => eI _ _ (by omega) (by omega) (by omega) (by omega)) (eA 6 (by omega) (by omega)) (fun k h1 h2 => eA k (by omega) (by omega)), rt.cong (eI _ _ (by omega) (by omega) (by omega) (by omega)) (fun j _ => eI _ _ (by omega) (by omega) (by omega) (by omega)) (eA 7 (by omega) (by omega)) (fun k h1 h2 => eA k (by omega) (by omega))⟩
      · rw [b2 c hc, l14 c hc]
        have e20 : ((20 : Int32)).toInt = 20 := by decide
        exact ⟨rfl, by rw [e20]; omega, by rw [e20]; omega⟩
      · rw [b3 k hk, l16 k hk]
        exact ⟨rfl, kv_nI hk⟩
      · obtain ⟨r0, r1, r2, r3, r5, r7, rpl⟩ := (rp p hp).cong (I' := L) (A' := fun i => L (x + 96 + 1) (300 + 8 * p + i)) (fun j => eI _ _ (by unfold pA; omega) (by unfold pA; omega) (by unfold pA; omega) (by unfold pA; omega)) (fun k hk => eA _ (by omega) (by omega))
        refine ⟨r0, r1, r2, r3, r5, r7, Or.inl ?_⟩
        rcases rpl with e | ⟨c, s, hc, hs, e1, e2, e3⟩
        · exact e
        · rw [eI _ _ (by unfold pA; omega) (by unfold pA; omega) (by unfold pA; omega) (by unfold pA; omega), hw p hp] at e2
          exact absurd e2.symm (nI_m1 (by omega))
    · exfalso
      have ee : fb_ct (fun p => decide (¬ K (x + 96 + 1) (300 + 8 * p + 4) < 0)) np = 0 := by
        rw [← hw9]
        exact fb_ct_cong (fun p hp => by rw [kI _ _ (by omega) (by omega) (by omega)])
      rw [ee] at e
      exact e (by decide)
  · have hpos : 0 < fb_ct (fun p => decide (¬ I (pA (x + 1) p) 4 = -1)) np := by
      rcases Nat.eq_zero_or_pos (fb_ct (fun p => decide (¬ I (pA (x + 1) p) 4 = -1)) np) with e | e
      · rw [e] at q1; exact absurd (by decide) q1
      · exact e
    refine T_of rfl (Nat.le_of_ble_eq_true rfl) (s_X9_kiln_0 ⟨fun e => absurd e q, fun _ => ⟨hM.t, t9_standing hM rm.2.1.1 hnp (s_X9_kiln_14 ⟨fun e => ?_, fun _ => up _⟩)⟩⟩)
    exfalso
    rw [stand_ct rp h6] at e
    have hle := fb_ct_le (fun p => decide (¬ I (pA (x + 1) p) 4 = -1)) np
    exact nI_nle hpos (by omega) e
end OPS8
