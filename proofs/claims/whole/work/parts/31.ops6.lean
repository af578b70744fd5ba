section OPS6
variable {g : GT} {S : ST} {P : PT} {I I' : IT} {Q : QT} {x n m v p np nc nh nl c j : Nat} {z : Int32} {A A' : Nat → Int32}
theorem RVp1.mono {a nh' : Nat} (h : RVp1 I a A nh nc) (hn : nh ≤ nh') : RVp1 I a A nh' nc := by
  obtain ⟨⟨h0, z, hz, e⟩, r⟩ := h
  exact ⟨⟨h0, z, by omega, e⟩, r⟩
theorem t9_house_loop {b : Nat} (hL : LM S P m) (h0 : I (m + 1) 0 = nI nh) (h8 : nh < 8) (h : Q (some (.int (nI (nh + 1) - 1))) S P (u2 (fil I (m + 1) (fun _ => 0) (60 + 30 * nh) (60 + 30 * nh + 30)) (m + 1) 0 (nI (nh + 1)))) : B g MX9_house 0 0 15 [(0, .ref m), (1, .int 0)] [] S P I Q := by
  have loop : ∀ k i J, i + k = 30 → J (m + 1) 0 = nI nh → fil J (m + 1) (fun _ => 0) (60 + 30 * nh + i) (60 + 30 * nh + 30) = fil I (m + 1) (fun _ => 0) (60 + 30 * nh) (60 + 30 * nh + 30) → B g MX9_house 0 0 15 [(0, .ref m), (1, .int (nI i))] [] S P J Q := by
    intro k
    induction k with
    | zero =>
      intro i J he hj hf
      have ei : i = 30 := by omega
      subst ei
      rw [fil_0] at hf
      refine s_X9_house_15 ⟨fun _ => ⟨hL.t, _, hL.p, hL.a, 0, hL.ix rfl (by decide), ?_⟩, fun q => absurd (by decide) q⟩
      rw [u2_s, hj, nI_1, hf]; exact h
    | succ k ih =>
      intro i J he hj hf
      refine s_X9_house_15 ⟨fun q => absurd q (nI_ge (b := 30) (by omega) (by decide)), fun q => ⟨hL.t, _, hL.p, hL.a, 0, hL.ix rfl (by decide), 60 + 30 * nh + i, hL.ix (by rw [hj]; exact n60 nh i) (by omega), ?_⟩⟩
      rw [nI_1]
      refine ih (i + 1) _ (by omega) (by rw [u2_k (by omega)]; exact hj) ?_
      rw [← hf]
      exact fil_s J (m + 1) (fun _ => 0) (i := 60 + 30 * nh + i) (by omega)
  exact loop 30 0 I (by omega) h0 rfl
theorem sim_house (hS : Sim S P I x n) : SimT g MX8_house MX9_house [] x n S P I := by
  obtain ⟨hX, hR, hI, hd⟩ := id hS
  have hV := hX.v
  have hM := hX.m
  obtain ⟨nh, np, nc, nl, tl, rm, rk, rh, rp, rs, rc, rt⟩ := id hR
  have h8 := rm.1.2.2
  have hnp := rm.2.1.2.2
  refine T_of rfl (Nat.le_of_ble_eq_true rfl) (s_X8_house_0 ⟨hX.1.1, _, hX.1.2.1, hV.t, fun q => ?_, fun q => ?_⟩)
  · rw [rm.1.2.1] at q ⊢
    have hlt : nh < 8 := by
      rcases Nat.lt_or_ge nh 8 with z | z
      · exact z
      · exact absurd q (nI_nlt (b := 8) z (by omega))
    rw [nI_1]
    refine T_of rfl (Nat.le_of_ble_eq_true rfl) (s_X9_house_0 ⟨hM.t, _, hM.p, hM.a, 0, hM.ix rfl (by decide), fun q2 => t9_house_loop (b := 0) hM (by rw [u2_a (by omega)]; exact rm.1.1) hlt ⟨rfl, ⟨_, rfl⟩, ?_⟩, fun q2 => ?_⟩)
    · generalize hJ : u2 (fil (u2 I (x + 1) 5 (nI (nh + 1))) (x + 96 + 1) (fun _ => 0) (60 + 30 * nh) (60 + 30 * nh + 30)) (x + 96 + 1) 0 (nI (nh + 1)) = J
      have eI : ∀ a k, a ≠ x + 96 + 1 → (a ≠ x + 1 ∨ k ≠ 5) → J a k = I a k := fun a k h1 h2 => by
        rw [← hJ, u2_a h1, fil_a h1]
        rcases h2 with h2 | h2
        · rw [u2_a h2]
        · rw [u2_k h2]
      have eA : ∀ k, k ≠ 0 → (k < 60 + 30 * nh ∨ 60 + 30 * nh + 30 ≤ k) → J (x + 96 + 1) k = I (x + 96 + 1) k := fun k h1 h2 => by
        rw [← hJ, u2_k h1]
        unfold fil
        rw [if_neg (by omega), u2_a (by omega)]
      have eZ : ∀ i, i < 30 → J (x + 96 + 1) (60 + 30 * nh + i) = 0 := fun i hi => by
        rw [← hJ, u2_k (by omega), fil_in (by omega) (by omega)]
      have e0 : J (x + 96 + 1) 0 = nI (nh + 1) := by rw [← hJ, u2_s]
      have e5 : J (x + 1) 5 = nI (nh + 1) := by rw [← hJ, u2_a (by omega), fil_a (by omega), u2_s]
      obtain ⟨⟨a1, a2, a3⟩, ⟨b1, b2, b3⟩, ⟨c1, c2, c3⟩, ⟨d1, d2, d3, d4, d5⟩, e, f⟩ := rm
      refine hS.step (fun p hp => Or.inl (eI _ _ (by unfold pA; omega) (by unfold pA; omega))) (fun a k ha => eI _ _ (by omega) (by omega)) (fun k hk => eA k (by omega) (by omega)) (fun k => eI _ _ (by omega) (by omega)) ⟨nh + 1, np, nc, nl, tl, ⟨⟨e0, e5, by omega⟩, ⟨by rw [eA 1 (by omega) (by omega)]; exact b1, by rw [eI _ _ (by omega) (by omega)]; exact b2, b3⟩, ⟨by rw [eA 2 (by omega) (by omega)]; exact c1, by rw [eI _ _ (by omega) (by omega)]; exact c2, c3⟩, ⟨by rw [eA 5 (by omega) (by omega), eI _ _ (by omega) (by omega)]; exact d1, by rw [eA 8 (by omega) (by omega), eI _ _ (by omega) (by omega)]; exact d2, by rw [eA 9 (by omega) (by omega), eI _ _ (by omega) (by omega)]; exact d3, by rw [eA 3 (by omega) (by omega), eI _ _ (by omega) (by omega)]; exact d4, by rw [eA 4 (by omega) (by omega), eI _ _ (by omega) (by omega)]; exact d5⟩, fun s hs => by rw [eA _ (by omega) (by omega), eA _ (by omega) (by omega), eI _ _ (by omega) (by omega), eI _ _ (by omega) (by omega)]; exact e s hs, fun s hs => by rw [eA _ (by omega) (by omega), eI _ _ (by omega) (by omega)]; exact f s hs⟩, rk.cong (Nat.le_succ n) (fun j _ => eI _ _ (by omega) (by omega)) (fun j _ => eI _ _ (by omega) (by omega)) (fun k h1 h2 => eA k (by omega) (by omega)), fun h hh => ?_, fun p hp => ((rp p hp).cong (fun j => eI _ _ (by unfold pA; omega) (by unfold pA; omega)) (fun k hk => eA _ (by omega) (by omega))).mono (by omega), rs.cong hnp (fun j _ => eI _ _ (by omega) (by omega)) (fun p hp => eA _ (by omega) (by omega)), rc.cong (eI _ _ (by omega) (by omega)) (fun j _ => eI _ _ (by omega) (by omega)) (fun j _ => eI _ _ (by omega) (by omega)) (fun j _ => eI _ _ (by omega) (by omega)) (fun j _ => eI _ _ (by omega) (by omega)) (fun j _ => eI _ _ (by omega) (by omega)) (eA 6 (by omega) (by omega)) (fun k h1 h2 => eA k (by omega) (by omega)), rt.cong (eI _ _ (by omega) (by omega)) (fun j _ => eI _ _ (by omega) (by omega)) (eA 7 (by omega) (by omega)) (fun k h1 h2 => eA k (by omega) (by omega))⟩
      have ee : ∀ k j, k < 5 → J (hA (x + 1) h + k) j = I (hA (x + 1) h + k) j := fun k j hk => eI _ _ (by unfold hA; omega) (by unfold hA; omega)
      have ee0 := fun j => ee 0 j (by decide)
      simp only [Nat.add_zero] at ee0
      obtain ⟨g1, g2⟩ := rh h hh
      refine ⟨fun hlt2 => ?_, fun hge => ?_⟩
      · by_cases eh : h = nh
        · subst eh
          obtain ⟨z0, z1, z2, z3, z4⟩ := g2 (Nat.le_refl _)
          refine ⟨?_, ⟨?_, 0, ?_, by omega⟩, ⟨?_, Or.inl ?_⟩, ?_, 0, fun _ => 0, fun _ => 0, ⟨?_, ?_, by omega⟩, fun i hi => absurd hi (Nat.not_lt_zero i), fun i hi => absurd hi (Nat.not_lt_zero i)⟩
          · exact (eZ 0 (by omega)).trans ((ee0 0).trans z0).symm
          · exact (eZ 1 (by omega)).trans ((ee0 1).trans z1).symm
          · exact eZ 1 (by omega)
          · exact (eZ 2 (by omega)).trans ((ee0 2).trans z2).symm
          · exact eZ 2 (by omega)
          · exact (eZ 3 (by omega)).trans ((ee0 3).trans z3).symm
          · exact eZ 4 (by omega)
          · exact (ee0 4).trans z4
        · exact (g1 (by omega)).cong (Nat.le_succ n) ee0 (fun j _ => ee 1 j (by decide)) (fun j _ => ee 2 j (by decide)) (fun j _ => ee 3 j (by decide)) (fun j _ => ee 4 j (by decide)) (fun k hk => eA _ (by omega) (by omega))
      · rw [ee0, ee0, ee0, ee0, ee0]
        exact g2 (by omega)
    · rw [u2_a (by omega), rm.1.1] at q2
      have := nI_inj (a := nh) (b := 8) (by omega) (by decide) q2
      omega
  · rw [rm.1.2.1] at q
    have : nh = 8 := by
      rcases Nat.lt_or_ge nh 8 with z | z
      · exact absurd (nI_lt (b := 8) z (by decide)) q
      · omega
    exact T_of rfl (Nat.le_of_ble_eq_true rfl) (s_X9_house_0 ⟨hM.t, _, hM.p, hM.a, 0, hM.ix rfl (by decide), fun q2 => absurd (by rw [rm.1.1, this]; rfl) q2, fun _ => ⟨rfl, ⟨_, rfl⟩, hS.up⟩⟩)
theorem t_dryWaiting (hL : LV S P v) (hn : I v 11 = nI np) (h24 : np ≤ 24) (h : ∀ J : IT, (∀ p, p < np → J (pA v p) 3 = if I (pA v p) 4 = -1 then imax 0 (I (pA v p) 3 - z) else I (pA v p) 3) → (∀ a k, (k ≠ 3 ∨ a < pA v 0 ∨ pA v 24 ≤ a) → J a k = I a k) → Q none S P J) : T g MX7_dryWaiting 0 0 [.ref v, .int z] S P I Q := by
  refine T_of rfl (Nat.le_of_ble_eq_true rfl) (s_X7_dryWaiting_0 ?_)
  have loop : ∀ k i J, i + k = np → (∀ p, p < i → J (pA v p) 3 = if I (pA v p) 4 = -1 then imax 0 (I (pA v p) 3 - z) else I (pA v p) 3) → (∀ p, i ≤ p → J (pA v p) 3 = I (pA v p) 3) → (∀ a k, (k ≠ 3 ∨ a < pA v 0 ∨ pA v 24 ≤ a) → J a k = I a k) → B g MX7_dryWaiting 0 0 2 [(0, .ref v), (1, .int z), (2, .int (nI i))] [] S P J Q := by
    intro k
    induction k with
    | zero =>
      intro i J he a1 a2 a3
      have ec : J v 11 = nI np := by rw [a3 v 11 (by omega)]; exact hn
      refine s_X7_dryWaiting_2 ⟨hL.t, fun _ => h J (fun p hp => a1 p (by omega)) a3, fun q => ?_⟩
      rw [ec] at q; exact absurd (nI_le (by omega) (by omega)) q
    | succ k ih =>
      intro i J he a1 a2 a3
      have ec : J v 11 = nI np := by rw [a3 v 11 (by omega)]; exact hn
      refine s_X7_dryWaiting_2 ⟨hL.t, fun q => ?_, fun q => ⟨_, hL.p10, hL.t18, i, ixl hL.l18 (by omega) (by decide), _, hL.pp (by omega), hL.po (by omega), fun c => ?_, fun c => ?_⟩⟩
      · rw [ec] at q; exact absurd q (nI_ge (by omega) (by omega))
      · rw [a3 _ 4 (by omega)] at c
        rw [nI_1]
        refine ih (i + 1) _ (by omega) (fun p hp => ?_) (fun p hp => ?_) (fun a k hk => ?_)
        · by_cases e : p = i
          · subst e; rw [u2_s, if_pos c, a2 p (Nat.le_refl _)]
          · rw [u2_a (by unfold pA; omega)]; exact a1 p (by omega)
        · rw [u2_a (by unfold pA; omega)]; exact a2 p (by omega)
        · rcases hk with hk | hk
          · rw [u2_k hk]; exact a3 a k (Or.inl hk)
          · rw [u2_a (by unfold pA at hk ⊢; omega)]; exact a3 a k (Or.inr hk)
      · rw [a3 _ 4 (by omega)] at c
        rw [nI_1]
        refine ih (i + 1) _ (by omega) (fun p hp => ?_) (fun p hp => a2 p (by omega)) a3
        by_cases e : p = i
        · subst e; rw [if_neg c]; exact a2 p (Nat.le_refl _)
        · exact a1 p (by omega)
  exact loop np 0 I (by omega) (fun p hp => absurd hp (Nat.not_lt_zero p)) (fun _ _ => rfl) (fun _ _ _ => rfl)
theorem t9_dry_loop (hL : LM S P m) (hn : I (m + 1) 1 = nI np) (h24 : np ≤ 24) (h : ∀ J : IT, (∀ p, p < np → J (m + 1) (300 + 8 * p + 3) = if I (m + 1) (300 + 8 * p + 4) < 0 then (if I (m + 1) (300 + 8 * p + 3) ≤ z then 0 else I (m + 1) (300 + 8 * p + 3) - z) else I (m + 1) (300 + 8 * p + 3)) → (∀ k, (∀ p, p < np → k ≠ 300 + 8 * p + 3) → J (m + 1) k = I (m + 1) k) → (∀ a k, a ≠ m + 1 → J a k = I a k) → Q (some (.int 1)) S P J) : B g MX9_dry 0 0 14 [(0, .ref m), (1, .int z), (2, .int 0)] [] S P I Q := by
  have loop : ∀ k i J, i + k = np → (∀ p, p < i → J (m + 1) (300 + 8 * p + 3) = if I (m + 1) (300 + 8 * p + 4) < 0 then (if I (m + 1) (300 + 8 * p + 3) ≤ z then 0 else I (m + 1) (300 + 8 * p + 3) - z) else I (m + 1) (300 + 8 * p + 3)) → (∀ k, (∀ p, p < i → k ≠ 300 + 8 * p + 3) → J (m + 1) k = I (m + 1) k) → (∀ a k, a ≠ m + 1 → J a k = I a k) → B g MX9_dry 0 0 14 [(0, .ref m), (1, .int z), (2, .int (nI i))] [] S P J Q := by
    intro k
    induction k with
    | zero =>
      intro i J he a1 a2 a3
      have ei : i = np := by omega
      subst ei
      refine s_X9_dry_14 ⟨hL.t, _, hL.p, hL.a, 1, hL.ix rfl (by decide), fun _ => h J a1 a2 a3, fun q => ?_⟩
      rw [a2 1 (fun p _ => by omega), hn] at q; exact absurd (nI_le (by omega) (by omega)) q
    | succ k ih =>
      intro i J he a1 a2 a3
      have e4 : J (m + 1) (300 + 8 * i + 4) = I (m + 1) (300 + 8 * i + 4) := a2 _ (fun p _ => by omega)
      have e3 : J (m + 1) (300 + 8 * i + 3) = I (m + 1) (300 + 8 * i + 3) := a2 _ (fun p _ => by omega)
      have nx : ∀ w, w = (if I (m + 1) (300 + 8 * i + 4) < 0 then (if I (m + 1) (300 + 8 * i + 3) ≤ z then 0 else I (m + 1) (300 + 8 * i + 3) - z) else I (m + 1) (300 + 8 * i + 3)) → B g MX9_dry 0 0 14 [(0, .ref m), (1, .int z), (2, .int (nI i + 1))] [] S P (u2 J (m + 1) (300 + 8 * i + 3) w) Q := by
        intro w hw
        rw [nI_1]
        refine ih (i + 1) _ (by omega) (fun p hp => ?_) (fun k hk => ?_) (fun a k ha => ?_)
        · by_cases e : p = i
          · subst e; rw [u2_s]; exact hw
          · rw [u2_k (by omega)]; exact a1 p (by omega)
        · rw [u2_k (hk i (by omega))]; exact a2 k (fun p hp => hk p (by omega))
        · rw [u2_a ha]; exact a3 a k ha
      refine s_X9_dry_14 ⟨hL.t, _, hL.p, hL.a, 1, hL.ix rfl (by decide), fun q => ?_, fun q => ⟨300 + 8 * i + 4, hL.ix (n300 i 4) (by omega), fun c => ⟨300 + 8 * i + 3, hL.ix (n300 i 3) (by omega), fun c2 => ?_, fun c2 => ?_⟩, fun c => ?_⟩⟩
      · rw [a2 1 (fun p _ => by omega), hn] at q; exact absurd q (nI_ge (by omega) (by omega))
      · rw [e4] at c
        rw [e3] at c2
        exact nx 0 (by rw [if_pos c, if_pos c2])
      · rw [e4] at c
        rw [e3] at c2 ⊢
        exact nx _ (by rw [if_pos c, if_neg c2])
      · rw [e4] at c
        have := nx _ (by rw [if_neg c])
        rw [u2_same e3] at this
        exact this
  exact loop np 0 I (by omega) (fun p hp => absurd hp (Nat.not_lt_zero p)) (fun _ _ => rfl) (fun _ _ _ => rfl)
theorem dry_eq {w k : Nat} (hw : w < 10) (hk : k < 10) : imax 0 (nI w - nI k) = nI (w - k) ∧ (if nI w ≤ nI k then 0 else nI w - nI k) = nI (w - k) := by
  unfold imax
  rcases Nat.lt_or_ge k w with q | q
  · rw [pk_sub (by omega), if_pos (show (0 : Int32) < nI (w - k) from nI_lt (a := 0) (b := w - k) (by omega) (by omega)), if_neg (nI_ge q (by omega))]
    exact ⟨rfl, rfl⟩
  · rw [if_pos (nI_le q (by omega))]
    refine ⟨?_, by rw [show w - k = 0 by omega]; rfl⟩
    rw [show w - k = 0 by omega]
    by_cases e : w = k
    · subst e; rw [pk_sub (Nat.le_refl _), Nat.sub_self]; rfl
    · rw [if_neg (fun z => absurd (pk_sneg (a := w) (b := k) (by omega) (by omega)) (Int32.not_lt.mpr (Int32.le_of_lt z)))]; rfl
theorem sim_dry (hS : Sim S P I x n) (z : Int32) : SimT g MX8_dry MX9_dry [.int z] x n S P I := by
  obtain ⟨hX, hR, hI, hd⟩ := id hS
  have hV := hX.v
  have hM := hX.m
  obtain ⟨nh, np, nc, nl, tl, rm, rk, rh, rp, rs, rc, rt⟩ := id hR
  have hnp := rm.2.1.2.2
  have h6 := rm.2.2.1.2.2.2
  refine T_of rfl (Nat.le_of_ble_eq_true rfl) (s_X8_dry_0 ⟨fun q => ⟨hX.1.1, _, hX.1.2.1, hV.t, t_dryWaiting hV rm.2.1.2.1 hnp (fun J a1 a2 => s_X8_dry_20 (T_of rfl (Nat.le_of_ble_eq_true rfl) (s_X9_dry_0 ⟨fun _ => t9_dry_loop hM ?_ hnp (fun K b1 b2 b3 => ⟨rfl, ⟨_, rfl⟩, ?_⟩), fun e => absurd e q⟩)))⟩, fun q => T_of rfl (Nat.le_of_ble_eq_true rfl) (s_X9_dry_0 ⟨fun e => absurd q e, fun _ => ⟨rfl, ⟨_, rfl⟩, hS.up⟩⟩)⟩)
  · rw [a2 _ _ (by omega)]; exact rm.2.1.1
  · obtain ⟨k, hk1, hk2, rfl⟩ := wi_nI (a := 1) (b := 9) (by decide) (by decide) (wi_ne q)
    have p0 : pA (x + 1) 0 = x + 1 + 59 := rfl
    have p24 : pA (x + 1) 24 = x + 1 + 83 := rfl
    have eJ : ∀ k, J (x + 96 + 1) k = I (x + 96 + 1) k := fun k => a2 _ _ (by omega)
    have eI : ∀ a k, a ≠ x + 96 + 1 → (k ≠ 3 ∨ a < x + 1 + 59 ∨ x + 1 + 83 ≤ a) → K a k = I a k := fun a k h1 h2 => (b3 a k h1).trans (a2 a k h2)
    have eA : ∀ k, (∀ p, p < np → k ≠ 300 + 8 * p + 3) → K (x + 96 + 1) k = I (x + 96 + 1) k := fun k hk => (b2 k hk).trans (eJ k)
    refine hS.step (fun p hp => Or.inl (eI _ _ (by unfold pA; omega) (Or.inl (by decide)))) (fun a k ha => eI _ _ (by omega) (by omega)) (fun k hk => eA k (fun p hp => by omega)) (fun k => eI _ _ (by omega) (by omega)) ⟨nh, np, nc, nl, tl, rm.cong (fun j => eI _ _ (by omega) (by omega)) (fun j => eI _ _ (by omega) (by omega)) (fun j _ => eI _ _ (by omega) (by omega)) (fun j _ => eI _ _ (by omega) (by omega)) (fun j _ => eI _ _ (by omega) (by omega)) (fun k hk => eA k (fun p hp => by omega)), rk.cong (Nat.le_succ n) (fun j _ => eI _ _ (by omega) (by omega)) (fun j _ => eI _ _ (by omega) (by omega)) (fun k h1 h2 => eA k (fun p hp => by omega)), rh.cong (Nat.le_succ n) (fun a j h1 h2 => eI _ _ (by omega) (by omega)) (fun k h1 h2 => eA k (fun p hp => by omega)), fun p hp => ?_, rs.cong hnp (fun j _ => eI _ _ (by omega) (by omega)) (fun p hp => eA _ (fun p hp => by omega)), rc.cong (eI _ _ (by omega) (by omega)) (fun j _ => eI _ _ (by omega) (by omega)) (fun j _ => eI _ _ (by omega) (by omega)) (fun j _ => eI _ _ (by omega) (by omega)) (fun j _ => eI _ _ (by omega) (by omega)) (fun j _ => eI _ _ (by omega) (by omega)) (eA 6 (fun p hp => by omega)) (fun k h1 h2 => eA k (fun p hp => by omega)), rt.cong (eI _ _ (by omega) (by omega)) (fun j _ => eI _ _ (by omega) (by omega)) (eA 7 (fun p hp => by omega)) (fun k h1 h2 => eA k (fun p hp => by omega))⟩
    have hst : I (x + 96 + 1) (300 + 8 * p + 4) < 0 ↔ I (pA (x + 1) p) 4 = -1 := stand9 (rp p hp) h6
    obtain ⟨c0, c1, c2, ⟨c3, w, hw, c3'⟩, c5, c7, cp⟩ := rp p hp
    have c3 : I (x + 96 + 1) (300 + 8 * p + 3) = I (pA (x + 1) p) 3 := c3
    have c3' : I (x + 96 + 1) (300 + 8 * p + 3) = nI w := c3'
    have f3 := b1 p hp
    rw [eJ, eJ] at f3
    have g3 : K (pA (x + 1) p) 3 = if I (pA (x + 1) p) 4 = -1 then imax 0 (I (pA (x + 1) p) 3 - nI k) else I (pA (x + 1) p) 3 := by
      rw [b3 _ _ (by unfold pA; omega)]; exact a1 p hp
    have ek : ∀ i, i ≠ 3 → K (pA (x + 1) p) i = I (pA (x + 1) p) i := fun i hi => eI _ _ (by unfold pA; omega) (Or.inl hi)
    have eB : ∀ i, i < 8 → i ≠ 3 → K (x + 96 + 1) (300 + 8 * p + i) = I (x + 96 + 1) (300 + 8 * p + i) := fun i hi h3 => eA _ (fun p' hp' => by omega)
    unfold RVp1
    simp only [ek 0 (by decide), ek 1 (by decide), ek 2 (by decide), ek 4 (by decide), ek 5 (by decide), ek 6 (by decide), ek 7 (by decide), eB 0 (by decide) (by decide), eB 1 (by decide) (by decide), eB 2 (by decide) (by decide), eB 4 (by decide) (by decide), eB 5 (by decide) (by decide), eB 6 (by decide) (by decide)]
    refine ⟨c0, c1, c2, ?_, c5, c7, cp⟩
    rw [f3, g3, ← c3, c3']
    obtain ⟨d1, d2⟩ := dry_eq (w := w) (k := k) hw (by omega)
    by_cases hs : I (pA (x + 1) p) 4 = -1
    · rw [if_pos (hst.mpr hs), if_pos hs, d1, d2]
      exact ⟨rfl, w - k, by omega, rfl⟩
    · rw [if_neg (fun z => hs (hst.mp z)), if_neg hs]
      exact ⟨rfl, w, hw, rfl⟩
end OPS6
