section AGAIN
variable {g : GT} {S : ST} {P : PT} {I I' J K L : IT} {Q : QT} {x n m v w p np nc nh nl c j ch o cc t tl a b : Nat} {z : Int32} {A A' f3 : Nat → Int32}
theorem RV.copy (h : RV I v A n) (hc : CP I v J w) (hE : ∀ k, k < 1020 → A' k = A k) : RV J w A' n := by
  obtain ⟨nh, np, nc, nl, tl, rm, rk, rh, rp, rs, rc, rt⟩ := h
  have hnp := rm.2.1.2.2
  obtain ⟨⟨a1, a2, a3⟩, ⟨b1, b2, b3⟩, ⟨w1, w2, w3⟩, ⟨y1, y2, y3, y4, y5⟩, e, f⟩ := rm
  obtain ⟨h0, ⟨ht1, ht2⟩, ⟨hu0, hu1, hu2⟩, ⟨hk0, hk1, hk2⟩, ⟨hs1, hs2⟩, hh, hp⟩ := hc
  refine ⟨nh, np, nc, nl, tl, ⟨⟨by rw [hE 0 (by omega)]; exact a1, by rw [h0 5 (by omega)]; exact a2, a3⟩, ⟨by rw [hE 1 (by omega)]; exact b1, by rw [h0 11 (by omega)]; exact b2, b3⟩, ⟨by rw [hE 2 (by omega)]; exact w1, by rw [hk0 0 (by omega)]; exact w2, w3⟩, ⟨by rw [hE 5 (by omega), h0 12 (by omega)]; exact y1, by rw [hE 8 (by omega), h0 2 (by omega)]; exact y2, by rw [hE 9 (by omega), h0 3 (by omega)]; exact y3, by rw [hE 3 (by omega), hk0 1 (by omega)]; exact y4, by rw [hE 4 (by omega), hk0 2 (by omega)]; exact y5⟩, fun s hs => ?_, fun q hq => ?_⟩, ⟨fun c hc => ?_, fun k hk => ?_⟩, fun q hq => ⟨fun hlt => ?_, fun hge => ?_⟩, fun p hpp => ?_, fun k hk => ?_, ⟨⟨by rw [hE 6 (by omega)]; exact rc.1.1, by rw [hu0]; exact rc.1.2.1, rc.1.2.2⟩, fun l hl => ?_⟩, ⟨⟨by rw [hE 7 (by omega)]; exact rt.1.1, by rw [ht1]; exact rt.1.2.1, rt.1.2.2⟩, fun j hj => ?_, fun j hj => ?_⟩⟩
  · rw [hE _ (by omega), hE _ (by omega), (hs1 s hs).1, (hs1 s hs).2]; exact e s hs
  · rw [hE _ (by omega), hs2 q hq]; exact f q hq
  · rw [hE _ (by omega), hk1 c hc]; exact rk.1 c hc
  · rw [hE _ (by omega), (hk2 k hk).1]; exact rk.2 k hk
  · obtain ⟨t0, t1, t2, t3, no, d, u, ⟨o1, o2, o3⟩, o4, o5⟩ := (rh q hq).1 hlt
    obtain ⟨g1, g2⟩ := hh q hq
    have eB : ∀ i, i < 30 → A' (60 + 30 * q + i) = A (60 + 30 * q + i) := fun i hi => hE _ (by omega)
    refine ⟨?_, ⟨?_, ?_⟩, ?_, ?_, no, d, u, ⟨?_, ?_, o3⟩, fun i hi => ?_, fun r hr => ?_⟩
    · dsimp only; rw [eB 0 (by omega), g1 0 (by omega)]; exact t0
    · dsimp only; rw [eB 1 (by omega), g1 1 (by omega)]; exact t1.1
    · dsimp only; rw [eB 1 (by omega)]; exact t1.2
    · dsimp only; rw [eB 2 (by omega), g1 2 (by omega)]; exact t2
    · dsimp only; rw [eB 3 (by omega), g1 3 (by omega)]; exact t3
    · dsimp only; rw [eB 4 (by omega)]; exact o1
    · rw [g1 4 (by omega)]; exact o2
    · dsimp only; rw [eB _ (by omega), eB _ (by omega), eB _ (by omega), g2 1 i (by omega) (by omega) (by omega), g2 2 i (by omega) (by omega) (by omega), g2 3 i (by omega) (by omega) (by omega)]; exact o4 i hi
    · rw [g2 4 r (by omega) (by omega) (by omega)]; exact o5 r hr
  · obtain ⟨g1, -⟩ := hh q hq
    rw [g1 0 (by omega), g1 1 (by omega), g1 2 (by omega), g1 3 (by omega), g1 4 (by omega)]
    exact (rh q hq).2 hge
  · have hq := rp p hpp
    have u1 := hp p (by omega)
    have u2 : ∀ i, i < 8 → A' (300 + 8 * p + i) = A (300 + 8 * p + i) := fun i hi => hE _ (by omega)
    unfold RVp1 at hq ⊢
    simp only [u1 0 (by decide), u1 1 (by decide), u1 2 (by decide), u1 3 (by decide), u1 4 (by decide), u1 5 (by decide), u1 6 (by decide), u1 7 (by decide), u2 0 (by decide), u2 1 (by decide), u2 2 (by decide), u2 3 (by decide), u2 4 (by decide), u2 5 (by decide), u2 6 (by decide)]
    exact hq
  · rw [(hk2 k hk).2]
    rcases rs k hk with ⟨z1, z2⟩ | ⟨p, z1, z2, z3, z4⟩
    · exact Or.inl ⟨z1, fun p hpp => by rw [hE _ (by omega)]; exact z2 p hpp⟩
    · exact Or.inr ⟨p, z1, z2, by rw [hE _ (by omega)]; exact z3, fun q hq => by rw [hE _ (by omega)]; exact z4 q hq⟩
  · have hl12 : l < 12 := by have := rc.1.2.2; omega
    obtain ⟨c1, nt, c2, c3, c4, c5⟩ := rc.2 l hl
    have eB : ∀ i, i < 18 → A' (500 + 18 * l + i) = A (500 + 18 * l + i) := fun i hi => hE _ (by omega)
    refine ⟨?_, nt, c2, ?_, ?_, fun t ht => ?_⟩
    · dsimp only; rw [eB 17 (by omega)]; exact c1.trans (hu1 l hl12).1.symm
    · dsimp only; rw [eB 0 (by omega)]; exact c3
    · exact (hu1 l hl12).2.trans c4
    · obtain ⟨b, sb, z1, z2, z3, z4, z5, z6, z7⟩ := c5 t ht
      obtain ⟨g1, g2, g3⟩ := hu2 (4 * l + t) (by omega)
      dsimp only at z2 z3 z5 z6 z7 ⊢
      rw [eB (1 + 4 * t) (by omega), eB (2 + 4 * t) (by omega), eB (3 + 4 * t) (by omega), eB (4 + 4 * t) (by omega)]
      exact ⟨b, sb, z1, z2, z3, g1.trans z4, z5, g2.trans z6, z7.trans g3.symm⟩
  · have := rt.1.2.2
    rw [hE _ (by omega), ht2 j (by omega)]; exact rt.2.1 j hj
  · rw [ht2 j hj]; exact rt.2.2 j hj
theorem RV.h2 (h : RV I v A n) : ∀ h, h < 8 → I (hA v h) 2 = 0 ∨ I (hA v h) 2 = 1 := by
  obtain ⟨nh, np, nc, nl, tl, rm, rk, rh, rp, rs, rc, rt⟩ := h
  intro q hq
  by_cases e : q < nh
  · have := ((rh q hq).1 e).2.2.1
    rw [this.1] at this
    exact this.2
  · exact Or.inl ((rh q hq).2 (by omega)).2.2.1
theorem RV.ft (h : RV I v A n) : ∀ j, j < 300 → fits .byte (.int (I (v + 2) j)) = true := by
  obtain ⟨nh, np, nc, nl, tl, rm, rk, rh, rp, rs, rc, rt⟩ := h
  exact rt.2.2
theorem CP.zb (h : CP I v J w) (hz : ZB I v) : ZB J w := fun p hp => by rw [h.2.2.2.2.2.2 p hp 6 (by decide)]; exact hz p hp
theorem n1020 (k i : Nat) : 1020 * (nI k + 1) + nI i = nI (1020 * (k + 1) + i) := by
  have e : 1020 * nI (k + 1) = nI (1020 * (k + 1)) := by rw [Nat.mul_comm]; exact (Int32.mul_comm _ _).trans (pk_mul (k + 1) 1020)
  rw [nI_1, e, nI_add]
theorem t9_again_loop {k : Nat} (hL : LM S P m) (hk : k < 3) (h : ∀ J : IT, (∀ j, j < 1020 → J (m + 1) j = I (m + 1) (1020 * (k + 1) + j)) → (∀ j, 1020 ≤ j → J (m + 1) j = I (m + 1) j) → (∀ a j, a ≠ m + 1 → J a j = I a j) → Q (some (.int 1)) S P J) : B g MX9_again 0 0 22 [(0, .ref m), (1, .int (nI k)), (2, .int 0)] [] S P I Q := by
  have loop : ∀ r i J, i + r = 1020 → (∀ j, j < i → J (m + 1) j = I (m + 1) (1020 * (k + 1) + j)) → (∀ j, 1020 ≤ j → J (m + 1) j = I (m + 1) j) → (∀ a j, a ≠ m + 1 → J a j = I a j) → B g MX9_again 0 0 22 [(0, .ref m), (1, .int (nI k)), (2, .int (nI i))] [] S P J Q := by
    intro r
    induction r with
    | zero =>
      intro i J he a1 a2 a3
      have ei : i = 1020 := by omega
      subst ei
      exact s_X9_again_22 ⟨fun _ => h J a1 a2 a3, fun q => absurd (by decide) q⟩
    | succ r ih =>
      intro i J he a1 a2 a3
      refine s_X9_again_22 ⟨fun q => absurd q (nI_ge (b := 1020) (by omega) (by decide)), fun _ => ⟨hL.t, _, hL.p, hL.a, 1020 * (k + 1) + i, hL.ix (n1020 k i) (by omega), i, hL.ix rfl (by omega), ?_⟩⟩
      rw [nI_1]
      refine ih (i + 1) _ (by omega) (fun j hj => ?_) (fun j hj => ?_) (fun a j ha => ?_)
      · by_cases e : j = i
        · subst e; rw [u2_s]; exact a2 _ (by omega)
        · rw [u2_k e]; exact a1 j (by omega)
      · rw [u2_k (by omega)]; exact a2 j hj
      · rw [u2_a ha]; exact a3 a j ha
  exact loop 1020 0 I (by omega) (fun j hj => absurd hj (Nat.not_lt_zero j)) (fun _ _ => rfl) (fun _ _ _ => rfl)
theorem sim_again (hS : Sim S P I x n) (z : Int32) : SimT g MX8_again MX9_again [.int z] x n S P I := by
  obtain ⟨hX, hR, ⟨hZ, hI⟩, hd⟩ := id hS
  have hV := hX.v
  have hM := hX.m
  have h95 := hX.2.2.2.2.2.1
  refine T_of rfl (Nat.le_of_ble_eq_true rfl) (s_X8_again_0 ⟨fun q => ?_, fun q => ?_⟩)
  · exact T_of rfl (Nat.le_of_ble_eq_true rfl) (s_X9_again_0 ⟨fun _ => ⟨rfl, ⟨_, rfl⟩, hS.up⟩, fun e => absurd q e⟩)
  · obtain ⟨k, hk1, hk2, rfl⟩ := wi_nI (a := 0) (b := 2) (by decide) (by decide) (wi_ne q)
    refine ⟨hX.1.1, _, hX.1.2.2.2, h95.1, k, ixl h95.2 (by omega) (by decide), fun y hy => ?_, fun hy => ?_⟩
    · rcases hI k (by omega) with ⟨e1, -⟩ | ⟨w, e1, e2, e3, e4, e5, e6, e7⟩
      · rw [e1] at hy; cases hy
      · refine ⟨_, hX.1.2.1, w, e1, hV.t, t_copyFrom hV e3 (Or.inl (by omega)) e6.ft e6.h2 e7 (fun J c1 c2 => s_X8_again_33 (T_of rfl (Nat.le_of_ble_eq_true rfl) (s_X9_again_0 ⟨fun e => absurd e q, fun _ => ⟨hM.t, _, hM.2.1.1, hM.2.1.2.1, k, ixl hM.2.1.2.2 (by omega) (by decide), fun _ => t9_again_loop hM (by omega) (fun K d1 d2 d3 => ⟨rfl, ⟨_, rfl⟩, ?_⟩), fun e => ?_⟩⟩)))⟩
        · have eA : ∀ j, J (x + 96 + 1) j = I (x + 96 + 1) j := fun j => c2 _ _ (by omega)
          have eK : ∀ a j, a ≠ x + 97 → K a j = J a j := fun a j ha => d3 a j (by omega)
          have cK : CP I w K (x + 1) := by
            obtain ⟨h0, ⟨ht1, ht2⟩, ⟨hu0, hu1, hu2⟩, ⟨hk0, hk1, hk2⟩, ⟨hs1, hs2⟩, hh, hp⟩ := c1
            refine ⟨fun k hk => by rw [eK _ _ (by omega)]; exact h0 k hk, ⟨by rw [eK _ _ (by omega)]; exact ht1, fun j hj => by rw [eK _ _ (by omega)]; exact ht2 j hj⟩, ⟨by rw [eK _ _ (by omega)]; exact hu0, fun j hj => by rw [eK _ _ (by omega), eK _ _ (by omega)]; exact hu1 j hj, fun j hj => by rw [eK _ _ (by omega), eK _ _ (by omega), eK _ _ (by omega)]; exact hu2 j hj⟩, ⟨fun k hk => by rw [eK _ _ (by omega)]; exact hk0 k hk, fun j hj => by rw [eK _ _ (by omega)]; exact hk1 j hj, fun j hj => by rw [eK _ _ (by omega), eK _ _ (by omega)]; exact hk2 j hj⟩, ⟨fun s hs => by rw [eK _ _ (by omega), eK _ _ (by omega)]; exact hs1 s hs, fun q hq => by rw [eK _ _ (by omega)]; exact hs2 q hq⟩, fun y hy => ⟨fun k hk => by rw [eK _ _ (by unfold hA; omega)]; exact (hh y hy).1 k hk, fun i j h1 h2 hj => by rw [eK _ _ (by unfold hA; omega)]; exact (hh y hy).2 i j h1 h2 hj⟩, fun p hpp k hk => by rw [eK _ _ (by unfold pA; omega)]; exact hp p hpp k hk⟩
          refine hS.step (fun p hp => Or.inr (cK.zb e7 p hp)) (fun a j ha => (eK _ _ (by omega)).trans (c2 _ _ (by omega))) (fun j hj => (d2 j hj).trans (eA j)) (fun j => (eK _ _ (by omega)).trans (c2 _ _ (by omega))) ?_
          have := e6.copy (A' := K (x + 96 + 1)) cK (fun j hj => (d1 j hj).trans (eA _))
          exact this.cong (Nat.le_succ n) (fun _ _ _ _ => rfl) (fun _ _ => rfl)
        · rw [c2 _ _ (by omega), e2] at e; exact absurd e (by decide)
    · rcases hI k (by omega) with ⟨e1, e2⟩ | ⟨w, e1, -⟩
      · exact T_of rfl (Nat.le_of_ble_eq_true rfl) (s_X9_again_0 ⟨fun e => absurd e q, fun _ => ⟨hM.t, _, hM.2.1.1, hM.2.1.2.1, k, ixl hM.2.1.2.2 (by omega) (by decide), fun e => absurd e2 e, fun _ => ⟨rfl, ⟨_, rfl⟩, hS.up⟩⟩⟩)
      · rw [e1] at hy; cases hy
end AGAIN
