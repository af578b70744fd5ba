section DEAL2
variable {g : GT} {S : ST} {P : PT} {I I' J K : IT} {Q : QT} {x n m v p np nc nh nl c j ch : Nat} {z lg : Int32} {A A' : Nat → Int32} {ho : Nat → Nat} {D : DS} {val : Nat → Int32}
def ho0 (A : Nat → Int32) (p : Nat) : Nat := (A (300 + 8 * p)).toNatClampNeg
def D0 (A : Nat → Int32) : DS := (fun p => if A (300 + 8 * p + 4) < 0 then 0 else (A (300 + 8 * p + 4)).toNatClampNeg + 1, fun h => A (60 + 30 * h + 1))
theorem D0_p (h6 : nc ≤ 6) (rp : RVp I v A nh np nc) (hp : p < np) : ((D0 A).1 p = 0 ∧ A (300 + 8 * p + 4) = -1 ∧ I (pA v p) 4 = -1 ∧ I (pA v p) 5 = -1) ∨ ∃ k, k < 4 * nc ∧ (D0 A).1 p = k + 1 ∧ A (300 + 8 * p + 4) = nI k ∧ I (pA v p) 4 = nI (k / 4) ∧ I (pA v p) 5 = nI (k % 4) := by
  obtain ⟨c0, c1, c2, c3, c5, c7, cp⟩ := rp p hp
  rcases cp with ⟨q1, q2, q3⟩ | ⟨c, s, hc, hs, q1, q2, q3⟩
  · have q1 : A (300 + 8 * p + 4) = -1 := q1
    left
    refine ⟨?_, q1, q2, q3⟩
    unfold D0
    dsimp only
    rw [q1]; rfl
  · have q1 : A (300 + 8 * p + 4) = nI (4 * c + s) := q1
    right
    refine ⟨4 * c + s, by omega, ?_, q1, by rw [show (4 * c + s) / 4 = c by omega]; exact q2, by rw [show (4 * c + s) % 4 = s by omega]; exact q3⟩
    unfold D0
    dsimp only
    rw [q1, if_neg (nI_pos (by omega)), nI_clamp (by omega)]
theorem D0_e (h6 : nc ≤ 6) (rp : RVp I v A nh np nc) (hp : p < np) {k : Nat} (hk : k < 24) : A (300 + 8 * p + 4) = nI k ↔ (D0 A).1 p = k + 1 := by
  rcases D0_p h6 rp hp with ⟨a, b, -⟩ | ⟨k', hk', a, b, -⟩
  · rw [a, b]; exact ⟨fun z => absurd z.symm (nI_m1 (by omega)), fun z => by omega⟩
  · rw [a, b]; exact ⟨fun z => by rw [nI_inj (by omega) (by omega) z], fun z => by rw [show k' = k by omega]⟩
theorem ho0_e (h8 : nh ≤ 8) (rp : RVp I v A nh np nc) (hp : p < np) : A (300 + 8 * p + 0) = nI (ho0 A p) ∧ I (pA v p) 0 = nI (ho0 A p) ∧ ho0 A p < nh := by
  obtain ⟨⟨c0, z, hz, c0'⟩, c1, c2, c3, c5, c7, cp⟩ := rp p hp
  have c0' : A (300 + 8 * p) = nI z := c0'
  have e : ho0 A p = z := by unfold ho0; rw [c0', nI_clamp (by omega)]
  rw [e]
  exact ⟨c0', c0.symm.trans c0', hz⟩
theorem aDc_0 (h6 : nc ≤ 6) (h8 : nh ≤ 8) (rp : RVp I v A nh np nc) (rs : RVs I v A np) (rh : RVh I v A nh n) : aDc I v np nh (D0 A) := by
  refine ⟨fun p hp => ?_, fun h hh => ?_, fun k hk => ?_⟩
  · rcases D0_p h6 rp hp with ⟨a, b, c, d⟩ | ⟨k', hk', a, b, c, d⟩
    · exact Or.inl ⟨a, c, d⟩
    · exact Or.inr ⟨k', by omega, a, c, d⟩
  · exact (((rh h (by omega)).1 hh).2.1.1).symm
  · rcases rs k hk with ⟨a, b⟩ | ⟨p, hp, a, b, c⟩
    · exact Or.inl ⟨a, fun p hp e => b p hp ((D0_e h6 rp hp hk).mpr e)⟩
    · exact Or.inr ⟨p, hp, a, (D0_e h6 rp hp hk).mp b, fun q hq e => c q hq ((D0_e h6 rp hq hk).mpr e)⟩
theorem sim_deal (hS : Sim S P I x n) : SimT g MX8_deal MX9_deal [] x n S P I := by
  obtain ⟨hX, hR, hI, hd⟩ := id hS
  have hV := hX.v
  have hM := hX.m
  obtain ⟨nh, np, nc, nl, tl, rm, rk, rh, rp, rs, rc, rt⟩ := id hR
  have hnp := rm.2.1.2.2
  have h8 := rm.1.2.2
  have h2 := rm.2.2.1.2.2.1
  have h6 := rm.2.2.1.2.2.2
  have ea : I (x + 1 + 13) 0 = nI nc := rm.2.2.1.2.1
  have eb : I (x + 96 + 1) 2 = nI nc := rm.2.2.1.1
  have eg : gm (fun c => I (x + 96 + 1) (10 + c)) (nc - 1) = gm (I (x + 1 + 13 + 1)) (nc - 1) := gm_cong (fun i hi => (rk.1 i (by omega)).1)
  refine T_of rfl (Nat.le_of_ble_eq_true rfl) (s_X8_deal_0 ⟨hX.1.1, _, hX.1.2.1, hV.t, _, hV.p9, hV.kp, t_greatestHeat hV.ki ea (by omega) h6 (s_X8_deal_10 ⟨fun q => ⟨hX.1.1, _, hX.1.2.1, hV.t, ?_⟩, fun q => ?_⟩)⟩)
  · refine t_dealPlaces (D := D0 (I (x + 96 + 1))) (ho := ho0 (I (x + 96 + 1))) (val := I (x + 1 + 16)) (nh := nh) hV rm.2.1.2.1 hnp h8 ea h6 (fun _ _ => rfl) (fun p hp => (ho0_e h8 rp hp).2) (aDc_0 h6 h8 rp rs rh) (fun k J hk nd dn c1 c2 => s_X8_deal_24 ?_)
    have eJ : J (x + 96 + 1) = I (x + 96 + 1) := funext fun k => c2 _ _ (by omega) (by omega) (fun h hh => by unfold hA; omega)
    have hb : ∀ p, p < np → (D0 (I (x + 96 + 1))).1 p ≤ 4 * nc := fun p hp => by
      rcases D0_p h6 rp hp with ⟨a, -⟩ | ⟨k', hk', a, -⟩ <;> omega
    have ha0 : aDm (I (x + 96 + 1)) np nh (D0 (I (x + 96 + 1))) := by
      refine ⟨fun p hp => ?_, fun h hh => rfl⟩
      rcases D0_p h6 rp hp with ⟨a, b, -⟩ | ⟨k', hk', a, b, -⟩
      · rw [a, b]; rfl
      · rw [a, b, ob_n (by omega), Nat.add_sub_cancel]
    refine T_of rfl (Nat.le_of_ble_eq_true rfl) (s_X9_deal_0 ⟨hM.t, t9_greatestHeat hM (by rw [eJ]; exact eb) (by omega) h6 (s_X9_deal_4 ⟨fun _ => ⟨hM.t, ?_⟩, fun q2 => ?_⟩)⟩)
    · refine t9_next (D := D0 (I (x + 96 + 1))) (ho := ho0 (I (x + 96 + 1))) hM (by rw [eJ]; exact rm.2.1.1) hnp (by rw [eJ]; exact rm.1.1) h8 h6 hb (fun p hp => by rw [eJ]; exact ⟨(ho0_e h8 rp hp).1, (ho0_e h8 rp hp).2.2⟩) (by rw [eJ]; exact ha0) (s_X9_deal_17 ⟨hM.t, t9_place (D := D0 (I (x + 96 + 1))) (val := I (x + 1 + 16)) (nh := nh) hM (by rw [eJ]; exact rm.2.1.1) hnp (by rw [eJ]; exact eb) h6 (fun k hk => by rw [eJ]; exact (rk.2 k hk).1) hb (by rw [eJ]; exact ha0) (s_X9_deal_22 ?_)⟩)
      refine t9_deal_loop (k0 := k) hM (by rw [eJ]; exact rm.2.1.1) hnp (by rw [eJ]; exact rm.1.1) h8 (by rw [eJ]; exact eb) h6 (fun k hk => by rw [eJ]; exact (rk.2 k hk).1) hb (fun p hp => by rw [eJ]; exact ⟨(ho0_e h8 rp hp).1, (ho0_e h8 rp hp).2.2⟩) (by rw [eJ]; exact ha0) nd dn (by omega) (fun K d1 d2 => ⟨rfl, ⟨_, rfl⟩, ?_⟩)
      have hbE := dit_bd (val := I (x + 1 + 16)) (ho := ho0 (I (x + 96 + 1))) hb k
      have hhad := dit_had (val := I (x + 1 + 16)) (ho := ho0 (I (x + 96 + 1))) (np := np) (nh := nh) (nc := nc) (D := D0 (I (x + 96 + 1))) (b := 2376 * n) (fun k hk => by obtain ⟨e, vl, e2, -, h3⟩ := rk.2 k hk; exact ⟨vl, e.symm.trans e2, h3⟩) h6 (fun q hq => by obtain ⟨-, hd, e, h3⟩ := ((rh q (by omega)).1 hq).2.1; exact ⟨hd, e, h3⟩) k
      generalize dit (I (x + 1 + 16)) np nc (ho0 (I (x + 96 + 1))) (D0 (I (x + 96 + 1))) k = E at c1 d1 hbE hhad
      have eK : ∀ a k, a ≠ x + 97 → K a k = J a k := fun a k h1 => d2.2 a k (by omega)
      have eI : ∀ a k, a ≠ x + 97 → a ≠ x + 18 → (a < x + 60 ∨ x + 84 ≤ a ∨ (k ≠ 4 ∧ k ≠ 5)) → (∀ h, h < nh → a ≠ hA (x + 1) h ∨ k ≠ 1) → K a k = I a k := fun a k h1 h2 h3 h4 => (eK a k h1).trans (c2 a k (by omega) (by omega) h4)
      have eA : ∀ k, (∀ p, p < np → k ≠ 300 + 8 * p + 4) → (∀ h, h < nh → k ≠ 60 + 30 * h + 1) → K (x + 96 + 1) k = I (x + 96 + 1) k := fun k h1 h2 => (d2.1 k h1 h2).trans (by rw [eJ])
      refine hS.step (fun p hp => Or.inl (eI _ _ (by unfold pA; omega) (by unfold pA; omega) (Or.inr (Or.inr ⟨by decide, by decide⟩)) (fun h hh => by unfold pA hA; omega))) (fun a k ha => eI _ _ (by omega) (by omega) (by omega) (fun h hh => by unfold hA; omega)) (fun k hk => eA k (fun p hp => by omega) (fun h hh => by omega)) (fun k => eI _ _ (by omega) (by omega) (by omega) (fun h hh => by unfold hA; omega)) ⟨nh, np, nc, nl, tl, ?_, ?_, ?_, ?_, ?_, ?_, ?_⟩
      · exact rm.cong (fun j => eI _ _ (by omega) (by omega) (by omega) (fun h hh => by unfold hA; omega)) (fun j => eI _ _ (by omega) (by omega) (by omega) (fun h hh => by unfold hA; omega)) (fun j _ => eI _ _ (by omega) (by omega) (by omega) (fun h hh => by unfold hA; omega)) (fun j _ => eI _ _ (by omega) (by omega) (by omega) (fun h hh => by unfold hA; omega)) (fun j _ => eI _ _ (by omega) (by omega) (by omega) (fun h hh => by unfold hA; omega)) (fun k hk => eA _ (fun p hp => by omega) (fun h hh => by omega))
      · exact rk.cong (Nat.le_succ n) (fun j _ => eI _ _ (by omega) (by omega) (by omega) (fun h hh => by unfold hA; omega)) (fun j _ => eI _ _ (by omega) (by omega) (by omega) (fun h hh => by unfold hA; omega)) (fun k _ hk => eA _ (fun p hp => by omega) (fun h hh => by omega))
      · intro q hq
        obtain ⟨g1, g2⟩ := rh q hq
        have ee : ∀ k j, k < 5 → k ≠ 0 → K (hA (x + 1) q + k) j = I (hA (x + 1) q + k) j := fun k j hk h0 => eI _ _ (by unfold hA; omega) (by unfold hA; omega) (by unfold hA; omega) (fun h hh => by unfold hA; omega)
        have e0 : ∀ j, j ≠ 1 → K (hA (x + 1) q) j = I (hA (x + 1) q) j := fun j hj => eI _ _ (by unfold hA; omega) (by unfold hA; omega) (by unfold hA; omega) (fun h hh => Or.inr hj)
        refine ⟨fun hlt => ?_, fun hge => ?_⟩
        · obtain ⟨b0, ⟨b1, -⟩, b2, b3, no, d, u, bo⟩ := g1 hlt
          have eB : ∀ i, i < 30 → i ≠ 1 → K (x + 96 + 1) (60 + 30 * q + i) = I (x + 96 + 1) (60 + 30 * q + i) := fun i hi h1 => eA _ (fun p hp => by omega) (fun h hh => by omega)
          have f1 : K (hA (x + 1) q) 1 = E.2 q := (eK _ _ (by unfold hA; omega)).trans (c1.2.1 q hlt)
          have f2 : K (x + 96 + 1) (60 + 30 * q + 1) = E.2 q := d1.2 q hlt
          obtain ⟨z, ez, hz⟩ := hhad q hlt
          refine ⟨?_, ⟨f2.trans f1.symm, z, f2.trans ez, by omega⟩, ?_, ?_, no, d, u, bo.cong (e0 4 (by decide)) (fun j _ => ee 1 j (by decide) (by decide)) (fun j _ => ee 2 j (by decide) (by decide)) (fun j _ => ee 3 j (by decide) (by decide)) (fun j _ => ee 4 j (by decide) (by decide)) (fun k h1 h2 => eB k h2 (by omega))⟩
          · dsimp only; rw [eB 0 (by decide) (by decide), e0 0 (by decide)]; exact b0
          · dsimp only; rw [eB 2 (by decide) (by decide), e0 2 (by decide)]; exact b2
          · dsimp only; rw [eB 3 (by decide) (by decide), e0 3 (by decide)]; exact b3
        · rw [e0 0 (by decide), e0 2 (by decide), e0 3 (by decide), e0 4 (by decide), eI (hA (x + 1) q) 1 (by unfold hA; omega) (by unfold hA; omega) (by unfold hA; omega) (fun h hh => Or.inl (by unfold hA; omega))]
          exact g2 hge
      · intro p hp
        obtain ⟨w0, w1, w2, w3, w5, w7, wp⟩ := rp p hp
        have ek : ∀ i, i ≠ 4 ∧ i ≠ 5 → K (pA (x + 1) p) i = I (pA (x + 1) p) i := fun i hi => eI _ _ (by unfold pA; omega) (by unfold pA; omega) (Or.inr (Or.inr hi)) (fun h hh => by unfold pA hA; omega)
        have eB : ∀ i, i < 8 → i ≠ 4 → K (x + 96 + 1) (300 + 8 * p + i) = I (x + 96 + 1) (300 + 8 * p + i) := fun i hi h3 => eA _ (fun p' hp' => by omega) (fun h hh => by omega)
        have f4 : K (x + 96 + 1) (300 + 8 * p + 4) = ob (E.1 p) := d1.1 p hp
        unfold RVp1
        simp only [ek 0 (by decide), ek 1 (by decide), ek 2 (by decide), ek 3 (by decide), ek 6 (by decide), ek 7 (by decide), eB 0 (by decide) (by decide), eB 1 (by decide) (by decide), eB 2 (by decide) (by decide), eB 3 (by decide) (by decide), eB 5 (by decide) (by decide), eB 6 (by decide) (by decide), f4, eK (pA (x + 1) p) 4 (by unfold pA; omega), eK (pA (x + 1) p) 5 (by unfold pA; omega)]
        refine ⟨w0, w1, w2, w3, w5, w7, ?_⟩
        rcases c1.1 p hp with ⟨y1, y2, y3⟩ | ⟨k', hk', y1, y2, y3⟩
        · exact Or.inl ⟨by rw [y1]; rfl, y2, y3⟩
        · have := hbE p hp
          exact Or.inr ⟨k' / 4, k' % 4, by omega, by omega, by rw [y1, ob_n (by omega), Nat.add_sub_cancel, show 4 * (k' / 4) + k' % 4 = k' by omega], y2, y3⟩
      · intro k' hk'
        have e17 : K (x + 1 + 17) k' = J (x + 1 + 17) k' := eK _ _ (by omega)
        have f4 : ∀ p, p < np → (K (x + 96 + 1) (300 + 8 * p + 4) = nI k' ↔ E.1 p = k' + 1) := fun p hp => by
          have := hbE p hp
          rw [d1.1 p hp]; exact ob_nI (by omega) (by omega)
        rw [e17]
        rcases c1.2.2 k' hk' with ⟨a, b⟩ | ⟨p, hp, a, b, c⟩
        · exact Or.inl ⟨a, fun p hp e => b p hp ((f4 p hp).mp e)⟩
        · exact Or.inr ⟨p, hp, a, (f4 p hp).mpr b, fun q hq e => c q hq ((f4 q hq).mp e)⟩
      · exact rc.cong (eI _ _ (by omega) (by omega) (by omega) (fun h hh => by unfold hA; omega)) (fun j _ => eI _ _ (by omega) (by omega) (by omega) (fun h hh => by unfold hA; omega)) (fun j _ => eI _ _ (by omega) (by omega) (by omega) (fun h hh => by unfold hA; omega)) (fun j _ => eI _ _ (by omega) (by omega) (by omega) (fun h hh => by unfold hA; omega)) (fun j _ => eI _ _ (by omega) (by omega) (by omega) (fun h hh => by unfold hA; omega)) (fun j _ => eI _ _ (by omega) (by omega) (by omega) (fun h hh => by unfold hA; omega)) (eA _ (fun p hp => by omega) (fun h hh => by omega)) (fun k h1 h2 => eA _ (fun p hp => by omega) (fun h hh => by omega))
      · exact rt.cong (eI _ _ (by omega) (by omega) (by omega) (fun h hh => by unfold hA; omega)) (fun j _ => eI _ _ (by omega) (by omega) (by omega) (fun h hh => by unfold hA; omega)) (eA _ (fun p hp => by omega) (fun h hh => by omega)) (fun k h1 h2 => eA _ (fun p hp => by omega) (fun h hh => by omega))
    · rw [eJ, eg] at q2; exact absurd q q2
  · refine T_of rfl (Nat.le_of_ble_eq_true rfl) (s_X9_deal_0 ⟨hM.t, t9_greatestHeat hM eb (by omega) h6 (s_X9_deal_4 ⟨fun q2 => ?_, fun q2 => ⟨rfl, ⟨_, rfl⟩, hS.up⟩⟩)⟩)
    rw [eg] at q2; exact absurd q2 q
end DEAL2
