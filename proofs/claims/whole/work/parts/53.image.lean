section IMAGE
variable {g : GT} {S S' : ST} {P P' : PT} {I I' J J' K : IT} {Q : QT} {x v w n m k : Nat} {A A' : Nat → Int32}
theorem CP.to (h : CP I v J w) (e1 : ∀ a k, v ≤ a → a < v + 83 → I' a k = I a k) (e2 : ∀ a k, w ≤ a → a < w + 83 → J' a k = J a k) : CP I' v J' w := by
  obtain ⟨h0, ⟨ht1, ht2⟩, ⟨hu0, hu1, hu2⟩, ⟨hk0, hk1, hk2⟩, ⟨hs1, hs2⟩, hh, hp⟩ := h
  have f := fun d k (hd : d < 83) => e1 (v + d) k (by omega) (by omega)
  have q := fun d k (hd : d < 83) => e2 (w + d) k (by omega) (by omega)
  have f0 := fun k => e1 v k (by omega) (by omega)
  have q0 := fun k => e2 w k (by omega) (by omega)
  refine ⟨fun k hk => by rw [q0, f0]; exact h0 k hk, ⟨by rw [q 1 _ (by omega), f 1 _ (by omega)]; exact ht1, fun j hj => by rw [q 2 _ (by omega), f 2 _ (by omega)]; exact ht2 j hj⟩, ⟨by rw [q 3 _ (by omega), f 3 _ (by omega)]; exact hu0, fun j hj => by rw [q 4 _ (by omega), f 4 _ (by omega), q 5 _ (by omega), f 5 _ (by omega)]; exact hu1 j hj, fun j hj => by rw [q 6 _ (by omega), f 6 _ (by omega), q 7 _ (by omega), f 7 _ (by omega), q 8 _ (by omega), f 8 _ (by omega)]; exact hu2 j hj⟩, ⟨fun k hk => by rw [q 13 _ (by omega), f 13 _ (by omega)]; exact hk0 k hk, fun j hj => by rw [q 14 _ (by omega), f 14 _ (by omega)]; exact hk1 j hj, fun j hj => by rw [q 16 _ (by omega), f 16 _ (by omega), q 17 _ (by omega), f 17 _ (by omega)]; exact hk2 j hj⟩, ⟨fun s hs => by rw [q 10 _ (by omega), f 10 _ (by omega), q 11 _ (by omega), f 11 _ (by omega)]; exact hs1 s hs, fun y hy => by rw [q 12 _ (by omega), f 12 _ (by omega)]; exact hs2 y hy⟩, fun y hy => ⟨fun k hk => ?_, fun i j h1 h2 hj => ?_⟩, fun p hpp k hk => ?_⟩
  · rw [e2 _ _ (by unfold hA; omega) (by unfold hA; omega), e1 _ _ (by unfold hA; omega) (by unfold hA; omega)]; exact (hh y hy).1 k hk
  · rw [e2 _ _ (by unfold hA; omega) (by unfold hA; omega), e1 _ _ (by unfold hA; omega) (by unfold hA; omega)]; exact (hh y hy).2 i j h1 h2 hj
  · rw [e2 _ _ (by unfold pA; omega) (by unfold pA; omega), e1 _ _ (by unfold pA; omega) (by unfold pA; omega)]; exact hp p hpp k hk
theorem ZB.mv (h : ZB I v) (e : ∀ a k, v ≤ a → a < v + 83 → I' a k = I a k) : ZB I' v := fun p hp => by rw [e _ _ (by unfold pA; omega) (by unfold pA; omega)]; exact h p hp
theorem IM.mv (h : IM S P I x n k) (hk : k < 3) (hP : P' (x + 95) k = P (x + 95) k) (h2 : I' (x + 96 + 2) k = I (x + 96 + 2) k) (hn : sN S ≤ sN S') (hS : ∀ w, P (x + 95) k = w + 1 → x + 102 ≤ w → w + 83 ≤ sN S → ∀ a, w ≤ a → a < w + 83 → sT S' a = sT S a ∧ sL S' a = sL S a ∧ (∀ k, P' a k = P a k) ∧ ∀ k, I' a k = I a k) (hA : ∀ j, j < 1020 → I' (x + 96 + 1) (1020 * (k + 1) + j) = I (x + 96 + 1) (1020 * (k + 1) + j)) (n' : Nat) (hn' : n ≤ n') : IM S' P' I' x n' k := by
  rcases h with ⟨a, b⟩ | ⟨w, a, b, c, d, e, f, q⟩
  · exact Or.inl ⟨hP.trans a, h2.trans b⟩
  · have z := hS w a d e
    exact Or.inr ⟨w, hP.trans a, h2.trans b, c.ex (fun y h1 h2 => ⟨(z y h1 h2).1, (z y h1 h2).2.1, (z y h1 h2).2.2.1⟩), d, by omega, f.cong hn' (fun y j h1 h2 => (z y h1 h2).2.2.2 j) hA, q.mv (fun y j h1 h2 => (z y h1 h2).2.2.2 j)⟩
theorem t9_image_loop (hL : LM S P m) (hk : k < 3) (h : ∀ J : IT, (∀ j, j < 1020 → J (m + 1) (1020 * (k + 1) + j) = I (m + 1) j) → (∀ j, (j < 1020 * (k + 1) ∨ 1020 * (k + 2) ≤ j) → J (m + 1) j = I (m + 1) j) → (∀ a j, a ≠ m + 1 → J a j = I a j) → Q (some (.int 1)) S P J) : B g MX9_image 0 0 20 [(0, .ref m), (1, .int (nI k)), (2, .int 0)] [] S P I Q := by
  have loop : ∀ r i J, i + r = 1020 → (∀ j, j < i → J (m + 1) (1020 * (k + 1) + j) = I (m + 1) j) → (∀ j, (j < 1020 * (k + 1) ∨ 1020 * (k + 2) ≤ j) → J (m + 1) j = I (m + 1) j) → (∀ a j, a ≠ m + 1 → J a j = I a j) → B g MX9_image 0 0 20 [(0, .ref m), (1, .int (nI k)), (2, .int (nI i))] [] S P J Q := by
    intro r
    induction r with
    | zero =>
      intro i J he a1 a2 a3
      have ei : i = 1020 := by omega
      subst ei
      exact s_X9_image_20 ⟨fun _ => h J a1 a2 a3, fun q => absurd (by decide) q⟩
    | succ r ih =>
      intro i J he a1 a2 a3
      refine s_X9_image_20 ⟨fun q => absurd q (nI_ge (b := 1020) (by omega) (by decide)), fun _ => ⟨hL.t, _, hL.p, hL.a, i, hL.ix rfl (by omega), 1020 * (k + 1) + i, hL.ix (n1020 k i) (by omega), ?_⟩⟩
      rw [nI_1]
      refine ih (i + 1) _ (by omega) (fun j hj => ?_) (fun j hj => ?_) (fun a j ha => ?_)
      · by_cases e : j = i
        · subst e; rw [u2_s]; exact a2 _ (by omega)
        · rw [u2_k (by omega)]; exact a1 j (by omega)
      · rw [u2_k (by omega)]; exact a2 j hj
      · rw [u2_a ha]; exact a3 a j ha
  exact loop 1020 0 I (by omega) (fun j hj => absurd hj (Nat.not_lt_zero j)) (fun _ _ => rfl) (fun _ _ _ => rfl)
theorem image9 (hk : k < 3) (hX : LX S P x) (hR : RV I (x + 1) (I (x + 96 + 1)) n) (hZ : ZB I (x + 1)) (hI : ∀ j, j < 3 → j ≠ k → IM S P I x n j) (hw : P (x + 95) k = w + 1) (hL : LV S P w) (h1 : x + 102 ≤ w) (h2 : w + 83 ≤ sN S) (hc : CP I (x + 1) I w) (hd : ∀ k k' w w', k < 3 → k' < 3 → k ≠ k' → P (x + 95) k = w + 1 → P (x + 95) k' = w' + 1 → w + 83 ≤ w' ∨ w' + 83 ≤ w) : T g MX9_image 0 0 [.ref (x + 96), .int (nI k)] S P I (fun r2 S2 P2 I2 => r2 = some (.int 1) ∧ (∃ z : Int32, (some (.int 1) : Option Value) = some (.int z)) ∧ Sim S2 P2 I2 x (n + 1)) := by
  have hM := hX.m
  refine T_of rfl (Nat.le_of_ble_eq_true rfl) (s_X9_image_0 ⟨fun _ => ⟨hM.t, _, hM.2.1.1, hM.2.1.2.1, k, ixl hM.2.1.2.2 hk (by decide), t9_image_loop hM hk (fun J a1 a2 a3 => ⟨rfl, ⟨1, rfl⟩, ?_⟩)⟩, fun e => ?_⟩)
  · have eI : ∀ a j, a ≠ x + 97 → a ≠ x + 98 → J a j = I a j := fun a j h1 h2 => (a3 a j (by omega)).trans (u2_a (by omega))
    have e97 : ∀ j, u2 I (x + 96 + 2) k 1 (x + 96 + 1) j = I (x + 96 + 1) j := fun j => u2_a (by omega)
    have e98 : ∀ j, j ≠ k → J (x + 96 + 2) j = I (x + 96 + 2) j := fun j hj => (a3 _ j (by omega)).trans (u2_k hj)
    refine ⟨hX, hR.cong (Nat.le_succ n) (fun a j q1 q2 => eI a j (by omega) (by omega)) (fun j hj => (a2 j (by omega)).trans (e97 j)), ⟨hZ.mv (fun a j q1 q2 => eI a j (by omega) (by omega)), fun j hj => ?_⟩, hd⟩
    by_cases e : j = k
    · subst e
      have c2 : CP I (x + 1) J w := hc.to (fun _ _ _ _ => rfl) (fun a j q1 q2 => eI a j (by omega) (by omega))
      have r2 : RV J w (fun i => J (x + 96 + 1) (1020 * (j + 1) + i)) n := hR.copy c2 (fun i hi => (a1 i hi).trans (e97 i))
      exact Or.inr ⟨w, hw, (a3 _ _ (by omega)).trans (u2_s _ _ _ _), hL, h1, h2, r2.cong (Nat.le_succ n) (fun _ _ _ _ => rfl) (fun _ _ => rfl), c2.zb hZ⟩
    · refine (hI j hj e).mv hj rfl (e98 j e) (Nat.le_refl _) (fun w' p1 p2 p3 a q1 q2 => ⟨rfl, rfl, fun _ => rfl, fun i => eI a i (by omega) (by omega)⟩) (fun i hi => (a2 _ (by omega)).trans (e97 _)) (n + 1) (Nat.le_succ n)
  · have : wi (nI k) 0 2 = 1 := by
      unfold wi
      rw [if_pos ⟨nI_pos' (by omega), nI_le (b := 2) (by omega) (by decide)⟩]
    rw [this] at e
    exact absurd e (by decide)
theorem sim_image (hS : Sim S P I x n) (z : Int32) : T g MX8_image 84 1130 [.ref x, .int z] S P I (fun r S1 P1 I1 => T g MX9_image 0 0 [.ref (x + 96), .int z] S1 P1 I1 (fun r2 S2 P2 I2 => r2 = r ∧ (∃ z : Int32, r = some (.int z)) ∧ Sim S2 P2 I2 x (n + 1))) := by
  obtain ⟨hX, hR, ⟨hZ, hI⟩, hd⟩ := id hS
  have hV := hX.v
  have hM := hX.m
  have h95 := hX.2.2.2.2.2.1
  have hN := hX.ly.2.2
  refine T_of rfl (Nat.le_of_ble_eq_true rfl) (s_X8_image_0 (rc := 0) (rs := 0) ⟨fun q => ?_, fun q => ?_⟩)
  · obtain ⟨k, hk1, hk2, rfl⟩ := wi_nI (a := 0) (b := 2) (by decide) (by decide) (wi_ne q)
    refine ⟨hX.1.1, _, hX.1.2.2.2, h95.1, k, ixl h95.2 (by omega) (by decide), fun y hy => ?_, fun hy => ?_⟩
    · rcases hI k (by omega) with ⟨e1, -⟩ | ⟨w, e1, e2, e3, e4, e5, e6, e7⟩
      · rw [e1] at hy; cases hy
      · refine ⟨w, e1, _, hX.1.2.1, e3.t, t_copyFrom e3 hV (Or.inr (by omega)) hR.ft hR.h2 hZ (fun J c1 c2 => s_X8_image_46 (image9 (k := k) (w := w) (by omega) hX ?_ ?_ (fun j hj hjk => ?_) e1 e3 e4 e5 ?_ hd))⟩
        · exact hR.cong (Nat.le_refl n) (fun a j q1 q2 => c2 a j (by omega)) (fun j _ => c2 _ j (by omega))
        · exact hZ.mv (fun a j q1 q2 => c2 a j (by omega))
        · refine (hI j hj).mv hj rfl (c2 _ _ (by omega)) (Nat.le_refl _) (fun w' p1 p2 p3 a q1 q2 => ⟨rfl, rfl, fun _ => rfl, fun i => c2 a i ?_⟩) (fun i hi => c2 _ _ (by omega)) n (Nat.le_refl n)
          have := hd k j w w' (by omega) hj (fun e => hjk e.symm) e1 p1
          omega
        · exact c1.to (fun a j q1 q2 => c2 a j (by omega)) (fun _ _ _ _ => rfl)
    · have hN1 : x + 102 ≤ sN S := hN
      generalize hwN : sN S = w
      rw [hwN] at hN1
      refine t_init7v (v := w) (by rw [sA_t, hwN, if_pos rfl]) (by rw [sA_n, hwN]) (fun S1 P1 I1 L1 w1 n1 E1 => ?_)
      have hs1 : ∀ a, a < w → sT S1 a = sT S a ∧ sL S1 a = sL S a ∧ (∀ k, P1 a k = P a k) ∧ ∀ k, I1 a k = I a k := fun a ha => by
        obtain ⟨b1, b2, b3, b4⟩ := E1 a ha
        have ne : a ≠ w := by omega
        exact ⟨b1.trans (by rw [sA_t, hwN, if_neg ne]), b2.trans (by rw [sA_l, hwN, if_neg ne]), fun k => (b3 k).trans (zP_a ne), fun k => (b4 k).trans (zI_a ne)⟩
      generalize hP2 : p2 P1 (x + 95) k (w + 1) = P2
      have eP : ∀ a j, (a ≠ x + 95 ∨ j ≠ k) → P2 a j = P1 a j := fun a j h => by rw [← hP2]; exact h.elim (fun z => p2_a z) (fun z => p2_k z)
      have hs2 : ∀ a, a < w → a ≠ x + 95 → ∀ j, P2 a j = P a j := fun a ha hne j => (eP a j (Or.inl hne)).trans ((hs1 a ha).2.2.1 j)
      have p95 : P2 (x + 95) k = w + 1 := by rw [← hP2]; exact p2_s _ _ _ _
      have p95j : ∀ j, j ≠ k → P2 (x + 95) j = P (x + 95) j := fun j hj => (eP _ j (Or.inr hj)).trans ((hs1 _ (by omega)).2.2.1 j)
      have hX1 : LX S1 P2 x := hX.ex (fun a q1 q2 => ⟨(hs1 a (by omega)).1, (hs1 a (by omega)).2.1, fun q3 j => hs2 a (by omega) q3 j⟩) (by omega)
      have hL1 : LV S1 P2 w := L1.ex (fun a q1 q2 => ⟨rfl, rfl, fun j => eP a j (Or.inl (by omega))⟩)
      have hV1 : LV S1 P2 (x + 1) := hX1.v
      have h95b := hX1.2.2.2.2.2.1
      have hR1 : RV I1 (x + 1) (I1 (x + 96 + 1)) n := hR.cong (Nat.le_refl n) (fun a j q1 q2 => (hs1 a (by omega)).2.2.2 j) (fun j _ => (hs1 _ (by omega)).2.2.2 j)
      have hZ1 : ZB I1 (x + 1) := hZ.mv (fun a j q1 q2 => (hs1 a (by omega)).2.2.2 j)
      have hd1 : ∀ k k' w w', k < 3 → k' < 3 → k ≠ k' → P2 (x + 95) k = w + 1 → P2 (x + 95) k' = w' + 1 → w + 83 ≤ w' ∨ w' + 83 ≤ w := by
        intro i j a b hi hj hij ea eb
        have old : ∀ j b, j < 3 → j ≠ k → P2 (x + 95) j = b + 1 → b + 83 ≤ w := fun j b hj hjk eb => by
          rw [p95j j hjk] at eb
          rcases hI j hj with ⟨e1, -⟩ | ⟨w', e1, -, -, -, e5, -⟩
          · rw [e1] at eb; cases eb
          · rw [e1] at eb; omega
        by_cases ei : i = k
        · have ejk : j ≠ k := fun e => hij (ei.trans e.symm)
          rw [ei, p95] at ea
          have := old j b hj ejk eb
          omega
        · by_cases ej : j = k
          · rw [ej, p95] at eb
            have := old i a hi ei ea
            omega
          · rw [p95j i ei] at ea
            rw [p95j j ej] at eb
            exact hd i j a b hi hj hij ea eb
      refine s_X8_image_32 ⟨(hs1 _ (by omega)).1.trans h95.1, k, ixl (((hs1 _ (by omega)).2.1).trans h95.2) (by omega) (by decide), L1.t, (hs1 x (by omega)).1.trans hX.1.1, ?_⟩
      rw [hP2]
      refine ⟨_, hX1.1.2.2.2, h95b.1, k, ixl h95b.2 (by omega) (by decide), w, p95, _, hX1.1.2.1, hL1.t, t_copyFrom hL1 hV1 (Or.inr (by omega)) hR1.ft hR1.h2 hZ1 (fun J c1 c2 => s_X8_image_46 (image9 (k := k) (w := w) (by omega) hX1 ?_ ?_ (fun j hj hjk => ?_) p95 hL1 (by omega) (by omega) ?_ hd1))⟩
      · exact hR1.cong (Nat.le_refl n) (fun a j q1 q2 => c2 a j (by omega)) (fun j _ => c2 _ j (by omega))
      · exact hZ1.mv (fun a j q1 q2 => c2 a j (by omega))
      · refine (hI j hj).mv hj (p95j j hjk) ((c2 _ _ (by omega)).trans ((hs1 _ (by omega)).2.2.2 j)) (by omega) (fun w' p1 p2 p3 a q1 q2 => ⟨(hs1 a (by omega)).1, (hs1 a (by omega)).2.1, fun i => hs2 a (by omega) (by omega) i, fun i => (c2 a i (by omega)).trans ((hs1 a (by omega)).2.2.2 i)⟩) (fun i hi => (c2 _ _ (by omega)).trans ((hs1 _ (by omega)).2.2.2 _)) n (Nat.le_refl n)
      · exact c1.to (fun a j q1 q2 => c2 a j (by omega)) (fun _ _ _ _ => rfl)
  · exact T_of rfl (Nat.le_of_ble_eq_true rfl) (s_X9_image_0 ⟨fun e => absurd q e, fun _ => ⟨rfl, ⟨_, rfl⟩, hS.up⟩⟩)
end IMAGE
