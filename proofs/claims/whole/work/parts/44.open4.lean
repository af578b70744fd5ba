section OPEN4
variable {g : GT} {S : ST} {P : PT} {I I' J K L : IT} {Q : QT} {x n m v p np nc nh nl c j ch o cc : Nat} {z : Int32} {A A' f3 : Nat → Int32}
def ck0 (I : IT) (v p : Nat) : Int32 := I (pA v p) 6
def wr0 (I : IT) (v p : Nat) : Int32 := I (v + 10) (sh0 I v p)
def rv0 (I : IT) (v p : Nat) : Int32 := rpv (I (pA v p) 7) (I (v + 12) (I (pA v p) 2).toNatClampNeg)
def pt0 (I : IT) (v nl : Nat) (A : Nat → Int32) (p : Nat) : Int32 := pfl A (sbj I (pA v p)) nl 0
theorem POc_0 (h8 : nh ≤ 8) (rp : RVp I v A nh np nc) : POc I v np nh nl A (sd0 I v) (ho0 A) (ck0 I v) (wr0 I v) (pt0 I v nl A) (rv0 I v) := by
  intro p hp
  obtain ⟨o1, o2, o3⟩ := ho0_e h8 rp hp
  obtain ⟨c0, ⟨c1, z, hz, c1'⟩, ⟨c2, y, hy, c2'⟩, c3, ⟨c5, c5'⟩, c7, cp⟩ := rp p hp
  have es : I (pA v p) 1 = nI z := c1.symm.trans c1'
  have eg : I (pA v p) 2 = nI y := c2.symm.trans c2'
  refine ⟨by simp [sd0], ⟨z, y, o2, o3, es, hz, ?_, eg, hy, ?_⟩, rfl, ?_, rfl⟩
  · unfold wr0 sh0; rw [es, nI_clamp (by omega)]
  · unfold rv0; rw [eg, nI_clamp (by omega)]
  · unfold ck0; rw [c5] at c5'; exact c5'
theorem POm_0 (h8 : nh ≤ 8) (h6 : nc ≤ 6) (rm : RVm I v A nh np nc) (rp : RVp I v A nh np nc) : POm A np nh nl (sd0 I v) (ho0 A) (ck0 I v) (wr0 I v) (pt0 I v nl A) (rv0 I v) := by
  intro p hp
  have st := stand9 (rp p hp) h6
  have hsv := ask_sbj (rp p hp) h6
  obtain ⟨o1, o2, o3⟩ := ho0_e h8 rp hp
  obtain ⟨c0, ⟨c1, z, hz, c1'⟩, ⟨c2, y, hy, c2'⟩, c3, ⟨c5, c5'⟩, c7, cp⟩ := rp p hp
  have es : I (pA v p) 1 = nI z := c1.symm.trans c1'
  have eg : I (pA v p) 2 = nI y := c2.symm.trans c2'
  refine ⟨by rw [show A (300 + 8 * p + 4) < 0 ↔ _ from st]; simp [sd0], ⟨z, y, o1, o3, c1', hz, ?_, c2', hy, ?_⟩, c5, ?_, ?_⟩
  · unfold wr0 sh0; rw [es, nI_clamp (by omega)]; exact (rm.2.2.2.2.1 z hz).1
  · unfold rv0; rw [eg, nI_clamp (by omega), rm.2.2.2.2.2 y hy]
    have c7 : A (300 + 8 * p + 6) = I (pA v p) 7 := c7
    rw [c7]
  · unfold ck0; rw [c5] at c5'; exact c5'
  · unfold pt0
    have : ∀ s, ask9 (fun i => A (300 + 8 * p + i)) s = sbj I (pA v p) s := by
      intro s
      by_cases q : s < 7
      · exact hsv s q
      · obtain ⟨s', rfl⟩ : ∃ s', s = s' + 6 := ⟨s - 6, by omega⟩
        exact c7
    rw [funext this]
theorem sim_open (hS : Sim S P I x n) : SimT g MX8_open MX9_open [] x n S P I := by
  obtain ⟨hX, hR, hI, hd⟩ := id hS
  have hV := hX.v
  have hM := hX.m
  obtain ⟨nh, np, nc, nl, tl, rm, rk, rh, rp, rs, rc, rt⟩ := id hR
  have hnp := rm.2.1.2.2
  have h8 := rm.1.2.2
  have h2 := rm.2.2.1.2.2.1
  have h6 := rm.2.2.1.2.2.2
  have ea : I (x + 1 + 13) 0 = nI nc := rm.2.2.1.2.1
  have eb : I (x + 96 + 1) 2 = nI nc := rm.2.2.1.1
  have eg : gm (fun c => I (x + 96 + 1) (10 + c)) (nc - 1) = gm (I (x + 1 + 13 + 1)) (nc - 1) := gm_cong (fun i hi => (rk.1 i (by omega)).1)
  have ec := stand_ct (v := x + 1) rp h6
  refine T_of rfl (Nat.le_of_ble_eq_true rfl) (s_X8_open_0 ⟨hX.1.1, _, hX.1.2.1, hV.t, _, hV.p9, hV.kp, t_greatestHeat hV.ki ea (by omega) h6 (s_X8_open_10 ⟨fun q => ?_, fun q => ⟨hX.1.1, _, hX.1.2.1, hV.t, t_standingPots hV rm.2.1.2.1 hnp (s_X8_open_23 ⟨fun q1 => ⟨hX.1.1, _, hX.1.2.1, hV.t, ?_⟩, fun q1 => ?_⟩)⟩⟩)⟩)
  · refine T_of rfl (Nat.le_of_ble_eq_true rfl) (s_X9_open_0 ⟨hM.t, t9_greatestHeat hM eb (by omega) h6 (s_X9_open_4 ⟨fun q2 => ⟨rfl, ⟨_, rfl⟩, hS.up⟩, fun q2 => ?_⟩)⟩)
    rw [eg] at q2; exact absurd q q2
  · have hP1 := POc_0 (nl := nl) h8 rp
    have hP2 := POm_0 (nl := nl) h8 h6 rm rp
    refine t_giveAllBack (s := (fun h => I (hA (x + 1) h) 0, fun h => I (hA (x + 1) h) 3, 0)) hV rm.1.2.1 h8 rm.2.1.2.1 hnp rc hP1 rfl (fun _ _ => ⟨rfl, rfl⟩) (fun J c1 c2 c7 c3 c4 c5 c6 => s_X8_open_35 ?_)
    have eJ : J (x + 96 + 1) = I (x + 96 + 1) := funext fun k => c6 _ _ (by omega) (by omega) (by omega) (fun h hh => by unfold hA; omega)
    have rcJ : RVc J (x + 1 + 3) (J (x + 96 + 1)) nl := by
      rw [eJ]
      exact rc.cong (c6 _ _ (by omega) (by omega) (by omega) (fun h hh => by unfold hA; omega)) (fun j _ => c6 _ _ (by omega) (by omega) (by omega) (fun h hh => by unfold hA; omega)) (fun j _ => c6 _ _ (by omega) (by omega) (by omega) (fun h hh => by unfold hA; omega)) (fun j _ => c6 _ _ (by omega) (by omega) (by omega) (fun h hh => by unfold hA; omega)) (fun j _ => c6 _ _ (by omega) (by omega) (by omega) (fun h hh => by unfold hA; omega)) (fun j _ => c6 _ _ (by omega) (by omega) (by omega) (fun h hh => by unfold hA; omega)) rfl (fun _ _ _ => rfl)
    refine T_of rfl (Nat.le_of_ble_eq_true rfl) (s_X9_open_0 ⟨hM.t, t9_greatestHeat hM (by rw [eJ]; exact eb) (by omega) h6 (s_X9_open_4 ⟨fun q2 => ?_, fun q2 => ⟨hM.t, t9_standing hM (by rw [eJ]; exact rm.2.1.1) hnp (s_X9_open_14 ⟨fun _ => ?_, fun q3 => ?_⟩)⟩⟩)⟩)
    · rw [eJ, eg] at q2; exact absurd q2 q
    · refine t9_open_a (s := (fun h => I (hA (x + 1) h) 0, fun h => I (hA (x + 1) h) 3, 0)) (cc := x + 1 + 3) hM (by rw [eJ]; exact rm.1.1) h8 (by rw [eJ]; exact rm.2.1.1) hnp (by omega) rcJ (by rw [eJ]; exact hP2) rfl (fun h hh => by rw [eJ]; exact ⟨((rh h (by omega)).1 hh).1, ((rh h (by omega)).1 hh).2.2.2.1⟩) (fun L d1 d2 => ?_)
      have eL : ∀ k, (k < 60 ∨ 300 ≤ k) → L (x + 96 + 1) k = I (x + 96 + 1) k := fun k hk => (d2.1 k (fun h hh => by omega)).trans (by rw [eJ])
      refine t9_open_b (sd := sd0 I (x + 1)) (np := np) hM ((eL 1 (by omega)).trans rm.2.1.1) hnp (fun p hp => by rw [eL _ (by omega)]; exact (hP2 p hp).1) (fun K g1 g2 g3 g4 g5 => ⟨rfl, ⟨_, rfl⟩, ?_⟩)
      have hwl := wcn_le (sd0 I (x + 1)) np
      have eK : ∀ a k, a ≠ x + 97 → K a k = J a k := fun a k h1 => (g5 a k (by omega)).trans (d2.2 a k (by omega))
      have eI : ∀ a k, a ≠ x + 97 → a ≠ x + 18 → (a ≠ x + 1 ∨ (k ≠ 11 ∧ k ≠ 12)) → (a < x + 60 ∨ x + 84 ≤ a) → (∀ h, h < nh → a ≠ hA (x + 1) h ∨ (k ≠ 0 ∧ k ≠ 3)) → K a k = I a k := fun a k h1 h2 h3 h4 h5 => (eK a k h1).trans (c6 a k (by omega) (by omega) (by omega) h5)
      have eA : ∀ k, k ≠ 1 → k ≠ 5 → (k < 300 ∨ 492 ≤ k) → (∀ h, h < nh → k ≠ 60 + 30 * h + 0 ∧ k ≠ 60 + 30 * h + 3) → K (x + 96 + 1) k = I (x + 96 + 1) k := fun k h1 h2 h3 h4 => (g4 k h1 h2 h3).trans ((d2.1 k h4).trans (by rw [eJ]))
      generalize oit nh (sd0 I (x + 1)) (ho0 (I (x + 96 + 1))) (ck0 I (x + 1)) (wr0 I (x + 1)) (pt0 I (x + 1) nl (I (x + 96 + 1))) (rv0 I (x + 1)) (fun h => I (hA (x + 1) h) 0, fun h => I (hA (x + 1) h) 3, 0) np = E at c1 d1
      have pots : ∀ p, p < wcn (sd0 I (x + 1)) np → ∃ q, q < np ∧ I (x + 96 + 1) (300 + 8 * q + 4) = -1 ∧ (∀ k, k < 8 → K (pA (x + 1) p) k = I (pA (x + 1) q) k) ∧ ∀ k, k < 8 → K (x + 96 + 1) (300 + 8 * p + k) = I (x + 96 + 1) (300 + 8 * q + k) := by
        intro p hp
        obtain ⟨q, hq, e1, e2⟩ := fb_ct_kth (p := fun p => !sd0 I (x + 1) p) hp
        have hdq : sd0 I (x + 1) q = false := by simpa using e1
        have e2 : wcn (sd0 I (x + 1)) q = p := e2
        refine ⟨q, hq, ?_, fun k hk => ?_, fun k hk => ?_⟩
        · rcases (rp q hq).2.2.2.2.2.2 with ⟨w, -⟩ | ⟨c, s, hc, hs, w1, w2, w3⟩
          · exact w
          · have := (hP1 q hq).1.mpr hdq
            rw [w2] at this
            exact absurd this (nI_m1 (by omega))
        · have := c2 q hq hdq k hk
          rw [e2] at this
          rw [eK _ _ (by unfold pA; omega)]; exact this
        · have := g1 q hq hdq k hk
          rw [e2] at this
          rw [this]; exact eL _ (by omega)
      obtain ⟨⟨a1, a2, a3⟩, ⟨b1, b2, b3⟩, ⟨w1, w2, w3⟩, ⟨y1, y2, y3, y4, y5⟩, e, f⟩ := rm
      refine hS.step (fun p hp => if q : p < wcn (sd0 I (x + 1)) np then Or.inr (by obtain ⟨q', hq', -, u1, -⟩ := pots p q; rw [u1 6 (by decide)]; have h5 := (rp q' hq').2.2.2.2.1; exact h5.1 ▸ h5.2) else Or.inl ((eK _ _ (by unfold pA; omega)).trans (c7 p (by omega) hp 6))) (fun a k ha => eI _ _ (by omega) (by omega) (by omega) (by omega) (fun h hh => by unfold hA; omega)) (fun k hk => eA k (by omega) (by omega) (by omega) (fun h hh => by omega)) (fun k => eI _ _ (by omega) (by omega) (by omega) (by omega) (fun h hh => by unfold hA; omega)) ⟨nh, wcn (sd0 I (x + 1)) np, nc, nl, tl, ?_, ?_, ?_, ?_, ?_, ?_, ?_⟩
      · refine ⟨⟨by rw [eA 0 (by omega) (by omega) (by omega) (fun h hh => by omega)]; exact a1, by rw [eI _ _ (by omega) (by omega) (by omega) (by omega) (fun h hh => by unfold hA; omega)]; exact a2, a3⟩, ⟨g2, by rw [eK _ _ (by omega)]; exact c3, by omega⟩, ⟨by rw [eA 2 (by omega) (by omega) (by omega) (fun h hh => by omega)]; exact w1, by rw [eI _ _ (by omega) (by omega) (by omega) (by omega) (fun h hh => by unfold hA; omega)]; exact w2, w3⟩, ⟨?_, ?_, ?_, ?_, ?_⟩, fun s hs => ?_, fun q hq => ?_⟩
        · rw [g3, eL 5 (by omega), y1, eK _ _ (by omega), c4]
        · rw [eA 8 (by omega) (by omega) (by omega) (fun h hh => by omega), eI _ _ (by omega) (by omega) (by omega) (by omega) (fun h hh => by unfold hA; omega)]; exact y2
        · rw [eA 9 (by omega) (by omega) (by omega) (fun h hh => by omega), eI _ _ (by omega) (by omega) (by omega) (by omega) (fun h hh => by unfold hA; omega)]; exact y3
        · rw [eA 3 (by omega) (by omega) (by omega) (fun h hh => by omega), eI _ _ (by omega) (by omega) (by omega) (by omega) (fun h hh => by unfold hA; omega)]; exact y4
        · rw [eA 4 (by omega) (by omega) (by omega) (fun h hh => by omega), eI _ _ (by omega) (by omega) (by omega) (by omega) (fun h hh => by unfold hA; omega)]; exact y5
        · rw [eA _ (by omega) (by omega) (by omega) (fun h hh => by omega), eA _ (by omega) (by omega) (by omega) (fun h hh => by omega), eI (x + 1 + 10) _ (by omega) (by omega) (by omega) (by omega) (fun h hh => by unfold hA; omega), eI (x + 1 + 11) _ (by omega) (by omega) (by omega) (by omega) (fun h hh => by unfold hA; omega)]; exact e s hs
        · rw [eA _ (by omega) (by omega) (by omega) (fun h hh => by omega), eI (x + 1 + 12) _ (by omega) (by omega) (by omega) (by omega) (fun h hh => by unfold hA; omega)]; exact f q hq
      · exact rk.cong (Nat.le_succ n) (fun j _ => eI _ _ (by omega) (by omega) (by omega) (by omega) (fun h hh => by unfold hA; omega)) (fun j _ => eI _ _ (by omega) (by omega) (by omega) (by omega) (fun h hh => by unfold hA; omega)) (fun k _ hk => eA _ (by omega) (by omega) (by omega) (fun h hh => by omega))
      · intro q hq
        obtain ⟨k1, k2⟩ := rh q hq
        have ee : ∀ k j, k < 5 → k ≠ 0 → K (hA (x + 1) q + k) j = I (hA (x + 1) q + k) j := fun k j hk h0 => eI _ _ (by unfold hA; omega) (by unfold hA; omega) (by unfold hA; omega) (by unfold hA; omega) (fun h hh => by unfold hA; omega)
        have e0 : ∀ j, j ≠ 0 ∧ j ≠ 3 → K (hA (x + 1) q) j = I (hA (x + 1) q) j := fun j hj => eI _ _ (by unfold hA; omega) (by unfold hA; omega) (by unfold hA; omega) (by unfold hA; omega) (fun h hh => Or.inr hj)
        refine ⟨fun hlt => ?_, fun hge => ?_⟩
        · obtain ⟨t0, t1, t2, t3, no, d, u, bo⟩ := k1 hlt
          have eB : ∀ i, i < 30 → i ≠ 0 ∧ i ≠ 3 → K (x + 96 + 1) (60 + 30 * q + i) = I (x + 96 + 1) (60 + 30 * q + i) := fun i hi h1 => eA _ (by omega) (by omega) (by omega) (fun h hh => by omega)
          have s1 := c1 q hlt
          have s2 := d1 q hlt
          rw [← eK _ _ (by unfold hA; omega), ← eK _ _ (by unfold hA; omega)] at s1
          rw [← g4 _ (by omega) (by omega) (by omega), ← g4 _ (by omega) (by omega) (by omega)] at s2
          refine ⟨s2.1.trans s1.1.symm, ⟨?_, ?_⟩, ?_, s2.2.trans s1.2.symm, no, d, u, bo.cong (e0 4 (by decide)) (fun j _ => ee 1 j (by decide) (by decide)) (fun j _ => ee 2 j (by decide) (by decide)) (fun j _ => ee 3 j (by decide) (by decide)) (fun j _ => ee 4 j (by decide) (by decide)) (fun k h1 h2 => eB k h2 (by omega))⟩
          · dsimp only; rw [eB 1 (by decide) (by decide), e0 1 (by decide)]; exact t1.1
          · dsimp only
            obtain ⟨-, hd, z1, z2⟩ := t1
            exact ⟨hd, by rw [eB 1 (by decide) (by decide)]; exact z1, by omega⟩
          · dsimp only; rw [eB 2 (by decide) (by decide), e0 2 (by decide)]; exact t2
        · have ez : ∀ j, K (hA (x + 1) q) j = I (hA (x + 1) q) j := fun j => eI _ _ (by unfold hA; omega) (by unfold hA; omega) (by unfold hA; omega) (by unfold hA; omega) (fun h hh => Or.inl (by unfold hA; omega))
          rw [ez, ez, ez, ez, ez]; exact k2 hge
      · intro p hp
        obtain ⟨q, hq, -, u1, u2⟩ := pots p hp
        have hrq := rp q hq
        unfold RVp1 at hrq ⊢
        simp only [u1 0 (by decide), u1 1 (by decide), u1 2 (by decide), u1 3 (by decide), u1 4 (by decide), u1 5 (by decide), u1 6 (by decide), u1 7 (by decide), u2 0 (by decide), u2 1 (by decide), u2 2 (by decide), u2 3 (by decide), u2 4 (by decide), u2 5 (by decide), u2 6 (by decide)]
        exact hrq
      · intro k hk
        refine Or.inl ⟨by rw [eK _ _ (by omega)]; exact c5 k hk, fun p hp e => ?_⟩
        obtain ⟨q, hq, u0, u1, u2⟩ := pots p hp
        rw [u2 4 (by decide), u0] at e
        exact nI_m1 (by omega) e.symm
      · exact rc.cong (eI _ _ (by omega) (by omega) (by omega) (by omega) (fun h hh => by unfold hA; omega)) (fun j _ => eI _ _ (by omega) (by omega) (by omega) (by omega) (fun h hh => by unfold hA; omega)) (fun j _ => eI _ _ (by omega) (by omega) (by omega) (by omega) (fun h hh => by unfold hA; omega)) (fun j _ => eI _ _ (by omega) (by omega) (by omega) (by omega) (fun h hh => by unfold hA; omega)) (fun j _ => eI _ _ (by omega) (by omega) (by omega) (by omega) (fun h hh => by unfold hA; omega)) (fun j _ => eI _ _ (by omega) (by omega) (by omega) (by omega) (fun h hh => by unfold hA; omega)) (eA _ (by omega) (by omega) (by omega) (fun h hh => by omega)) (fun k h1 h2 => eA _ (by omega) (by omega) (by omega) (fun h hh => by omega))
      · exact rt.cong (eI _ _ (by omega) (by omega) (by omega) (by omega) (fun h hh => by unfold hA; omega)) (fun j _ => eI _ _ (by omega) (by omega) (by omega) (by omega) (fun h hh => by unfold hA; omega)) (eA _ (by omega) (by omega) (by omega) (fun h hh => by omega)) (fun k h1 h2 => eA _ (by omega) (by omega) (by omega) (fun h hh => by omega))
    · rw [eJ, ec] at q3; exact absurd q3 q1
  · refine T_of rfl (Nat.le_of_ble_eq_true rfl) (s_X9_open_0 ⟨hM.t, t9_greatestHeat hM eb (by omega) h6 (s_X9_open_4 ⟨fun q2 => ⟨rfl, ⟨_, rfl⟩, hS.up⟩, fun q2 => ⟨hM.t, t9_standing hM rm.2.1.1 hnp (s_X9_open_14 ⟨fun q3 => ?_, fun _ => ⟨rfl, ⟨_, rfl⟩, hS.up⟩⟩)⟩⟩)⟩)
    rw [ec] at q3; exact absurd q1 q3
end OPEN4
