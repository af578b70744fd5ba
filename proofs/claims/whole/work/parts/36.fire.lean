section FIRE
variable {g : GT} {S : ST} {P : PT} {I I' J K : IT} {Q : QT} {x n m v p np nc nh nl c j ch : Nat} {z lg : Int32} {A A' : Nat → Int32} {sd : Nat → Bool} {cp sh : Nat → Nat} {tg : Nat → Int32} {s : HS}
def HB (np : Nat) (s : HS) (M : Int) : Prop := (∀ j, j < 6 → 20 ≤ (s.1 j).toInt ∧ (s.1 j).toInt ≤ M) ∧ (∀ p, p < np → (∃ w : Nat, w < 10 ∧ s.2.1 p = nI w) ∧ (s.2.2.1 p = 0 ∨ s.2.2.1 p = 1))
theorem hH_bd {M : Int} {l : Nat} (hM : M < 1073741824) (hl : l ≤ 9) (h6 : nc ≤ 6) (h : ∀ j, j < 6 → 20 ≤ (s.1 j).toInt ∧ (s.1 j).toInt ≤ M) (hj : j < 6) : 20 ≤ (hH nc ch (nI l) s.1 j).toInt ∧ (hH nc ch (nI l) s.1 j).toInt ≤ M + 60 * l := by
  have h0 := h j hj
  unfold hH
  by_cases q : j < nc
  · rw [if_pos q]
    have hb := hn_bd (h := s.1) hM q (fun i hi => h i (by omega))
    have e : ∃ t : Nat, (if j = ch then 60 * nI l else 0).toInt = t ∧ t ≤ 60 * l := by
      by_cases q2 : j = ch
      · rw [if_pos q2]
        refine ⟨60 * l, ?_, Nat.le_refl _⟩
        have : 60 * nI l = nI (60 * l) := by rw [Nat.mul_comm]; exact (Int32.mul_comm _ _).trans (pk_mul l 60)
        rw [this, nI_toInt (by omega)]
      · rw [if_neg q2]; exact ⟨0, by decide, by omega⟩
    obtain ⟨t, e1, e2⟩ := e
    rw [iadd (by rw [e1]; omega) (by rw [e1]; omega), e1]
    omega
  · rw [if_neg q]; omega
theorem HB_step {M : Int} {l : Nat} (hM : M < 1073741824) (hl : l ≤ 9) (h6 : nc ≤ 6) (h : HB np s M) : HB np (hrf nc sd cp tg ch (nI l) s) (M + 60 * l) := by
  refine ⟨fun j hj => hH_bd hM hl h6 h.1 hj, fun p hp => ?_⟩
  obtain ⟨⟨w, hw, ew⟩, hc⟩ := h.2 p hp
  simp only [hrf]
  by_cases q : sd p = true ∧ s.2.2.1 p = 0
  · rw [if_pos q, if_pos q]
    refine ⟨?_, ?_⟩
    · unfold bw
      rw [ew]
      split
      · split
        · exact ⟨w, hw, rfl⟩
        · split
          · exact ⟨w, hw, rfl⟩
          · rename_i q3
            have hw0 : 1 ≤ w := by
              rcases Nat.lt_or_ge w 1 with z | z
              · exact absurd (nI_le (a := w) (b := 0) (by omega) (by decide)) q3
              · exact z
            exact ⟨w - 1, by omega, nI_sub1 hw0⟩
      · exact ⟨w, hw, rfl⟩
    · unfold bcr
      split
      · exact hc
      · exact Or.inr rfl
  · rw [if_neg q, if_neg q]; exact ⟨⟨w, hw, ew⟩, hc⟩
theorem hab_of {M : Int} {l : Nat} (hM : M < 1073741824) (hl : l ≤ 9) (h6 : nc ≤ 6) (h : HB np s M) : ∀ c, c < nc → iabs (hH nc ch (nI l) s.1 c - s.1 c) = d2 (hH nc ch (nI l) s.1 c) (s.1 c) := by
  intro c hc
  have h1 := h.1 c (by omega)
  have h2 := hH_bd (s := s) (nc := nc) (ch := ch) hM hl h6 h.1 (j := c) (by omega)
  exact abs2 (by omega) (by omega)
theorem frC.trans (h1 : frC v np I J) (h2 : frC v np J K) : frC v np I K := fun a k q1 q2 q3 q4 => (h2 a k q1 q2 q3 q4).trans (h1 a k q1 q2 q3 q4)
theorem frM.trans (h1 : frM m np I J) (h2 : frM m np J K) : frM m np I K := ⟨fun k q1 q2 q3 q4 => (h2.1 k q1 q2 q3 q4).trans (h1.1 k q1 q2 q3 q4), fun a k q1 q2 => (h2.2 a k q1 q2).trans (h1.2 a k q1 q2)⟩
theorem PFc.fr (hF : PFc I v np nc sd cp sh tg) (h24 : np ≤ 24) (h : frC v np I J) : PFc J v np nc sd cp sh tg := by
  intro p hp
  have e4 : J (pA v p) 4 = I (pA v p) 4 := h _ _ (by unfold pA; omega) (by unfold pA; omega) (by unfold pA; omega) (by omega)
  have e1 : J (pA v p) 1 = I (pA v p) 1 := h _ _ (by unfold pA; omega) (by unfold pA; omega) (by unfold pA; omega) (by omega)
  rw [e4, e1, h (v + 11) (sh p) (by omega) (by omega) (by omega) (by omega)]
  exact hF p hp
theorem PFm.fr (hF : PFm (I (m + 1)) np nc sd cp sh tg) (h24 : np ≤ 24) (h : frM m np I J) : PFm (J (m + 1)) np nc sd cp sh tg := by
  intro p hp
  obtain ⟨a, b, c, d, e⟩ := hF p hp
  rw [h.1 (300 + 8 * p + 4) (by omega) (by omega) (by omega) (fun q hq => by omega), h.1 (300 + 8 * p + 1) (by omega) (by omega) (by omega) (fun q hq => by omega), h.1 (41 + 2 * sh p) (by omega) (by omega) (by omega) (fun q hq => by omega)]
  exact ⟨a, b, c, d, e⟩
/-- the numbers of a village that an hour speaks of -/
def hs0 (I : IT) (v : Nat) : HS := (I (v + 14), fun p => I (pA v p) 3, fun p => I (pA v p) 6, fun p => I (pA v p) 7, I (v + 13) 1, I (v + 13) 2)
def sd0 (I : IT) (v : Nat) (p : Nat) : Bool := decide (¬ I (pA v p) 4 = -1)
def cp0 (I : IT) (v : Nat) (p : Nat) : Nat := (I (pA v p) 4).toNatClampNeg
def sh0 (I : IT) (v : Nat) (p : Nat) : Nat := (I (pA v p) 1).toNatClampNeg
def tg0 (I : IT) (v : Nat) (p : Nat) : Int32 := I (v + 11) (sh0 I v p)
theorem aC_0 : aC I v np (hs0 I v) := ⟨fun _ _ => rfl, fun _ _ => ⟨rfl, rfl, rfl⟩, rfl, rfl⟩
theorem aM_0 {tl : Nat} (rm : RVm I v A nh np nc) (rk : RVk I v A n) (rp : RVp I v A nh np nc) : aM A np (hs0 I v) := by
  refine ⟨fun j hj => (rk.1 j hj).1, fun p hp => ?_, rm.2.2.2.1.2.2.2.1, rm.2.2.2.1.2.2.2.2⟩
  obtain ⟨c0, c1, c2, ⟨c3, w, hw, c3'⟩, c5, c7, cp⟩ := rp p hp
  exact ⟨c3, c5.1, c7⟩
theorem HB_0 (rk : RVk I v A n) (rp : RVp I v A nh np nc) : HB np (hs0 I v) (20 + 540 * n) := by
  refine ⟨fun j hj => ?_, fun p hp => ?_⟩
  · obtain ⟨e, a, b⟩ := rk.1 j hj
    rw [e] at a b
    exact ⟨a, b⟩
  · obtain ⟨c0, c1, c2, ⟨c3, w, hw, c3'⟩, ⟨c5, c5'⟩, c7, cp⟩ := rp p hp
    exact ⟨⟨w, hw, c3.symm.trans c3'⟩, by rw [c5] at c5'; exact c5'⟩
theorem PFc_0 (rp : RVp I v A nh np nc) (h6 : nc ≤ 6) : PFc I v np nc (sd0 I v) (cp0 I v) (sh0 I v) (tg0 I v) := by
  intro p hp
  obtain ⟨c0, ⟨c1, z, hz, c1'⟩, c2, c3, c5, c7, cp⟩ := rp p hp
  have es : I (pA v p) 1 = nI z := c1.symm.trans c1'
  have e2 : sh0 I v p = z := by unfold sh0; rw [es, nI_clamp (by omega)]
  refine ⟨by simp [sd0], fun hd => ?_, by rw [e2]; exact es, by omega, rfl⟩
  rcases cp with ⟨_, q, _⟩ | ⟨c, s, hc, hs, q1, q2, q3⟩
  · simp [sd0, q] at hd
  · have : cp0 I v p = c := by unfold cp0; rw [q2, nI_clamp (by omega)]
    rw [this]; exact ⟨q2, hc⟩
theorem PFm_0 (rm : RVm I v A nh np nc) (rp : RVp I v A nh np nc) (h6 : nc ≤ 6) : PFm A np nc (sd0 I v) (cp0 I v) (sh0 I v) (tg0 I v) := by
  intro p hp
  have st := stand9 (rp p hp) h6
  obtain ⟨c0, ⟨c1, z, hz, c1'⟩, c2, c3, c5, c7, cp⟩ := rp p hp
  have es : I (pA v p) 1 = nI z := c1.symm.trans c1'
  have e2 : sh0 I v p = z := by unfold sh0; rw [es, nI_clamp (by omega)]
  refine ⟨by rw [show A (300 + 8 * p + 4) < 0 ↔ _ from st]; simp [sd0], fun hd => ?_, by rw [e2]; exact c1', by omega, by unfold tg0; rw [e2]; exact (rm.2.2.2.2.1 z hz).2⟩
  rcases cp with ⟨_, q, _⟩ | ⟨c, s, hc, hs, q1, q2, q3⟩
  · simp [sd0, q] at hd
  · have : cp0 I v p = c := by unfold cp0; rw [q2, nI_clamp (by omega)]
    rw [this]
    refine ⟨?_, hc⟩
    have q1 : A (300 + 8 * p + 4) = nI (4 * c + s) := q1
    rw [q1]
    have := pk_div (a := 4 * c + s) (d := 4) (by omega) (by decide) (by decide)
    rw [show (4 * c + s) / 4 = c by omega] at this
    exact this
theorem hour_end (hS : Sim S P I x n) (hR : RVm I (x + 1) (I (x + 96 + 1)) nh np nc ∧ RVk I (x + 1) (I (x + 96 + 1)) n ∧ RVh I (x + 1) (I (x + 96 + 1)) nh n ∧ RVp I (x + 1) (I (x + 96 + 1)) nh np nc ∧ RVs I (x + 1) (I (x + 96 + 1)) np ∧ (∃ nl, RVc I (x + 1 + 3) (I (x + 96 + 1)) nl) ∧ ∃ tl, RVt I (x + 1) (I (x + 96 + 1)) tl)
    (f1 : frC (x + 1) np I J) (f2 : frM (x + 96) np J K) (hc : aC J (x + 1) np s) (hm : aM (K (x + 96 + 1)) np s) (hb : HB np s (20 + 540 * (n + 1))) : Sim S P K x (n + 1) := by
  obtain ⟨rm, rk, rh, rp, rs, ⟨nl, rc⟩, tl, rt⟩ := hR
  have hnp := rm.2.1.2.2
  have eK : ∀ a k, a ≠ x + 97 → a ≠ x + 101 → K a k = J a k := fun a k h1 h2 => f2.2 a k (by omega) (by omega)
  have eI : ∀ a k, a ≠ x + 97 → a ≠ x + 101 → (a ≠ x + 14 ∨ (k ≠ 1 ∧ k ≠ 2)) → a ≠ x + 15 → a ≠ x + 16 → (a < x + 60 ∨ x + 84 ≤ a ∨ (k ≠ 3 ∧ k ≠ 6 ∧ k ≠ 7)) → K a k = I a k := fun a k h1 h2 h3 h4 h5 h6 => (eK a k h1 h2).trans (f1 a k (by omega) (by omega) (by omega) (by omega))
  have eA : ∀ k, k ≠ 3 → k ≠ 4 → (k < 10 ∨ 16 ≤ k) → (∀ p, p < np → k ≠ 300 + 8 * p + 3 ∧ k ≠ 300 + 8 * p + 5 ∧ k ≠ 300 + 8 * p + 6) → K (x + 96 + 1) k = I (x + 96 + 1) k := fun k h1 h2 h3 h4 => (f2.1 k h1 h2 h3 h4).trans (f1 _ _ (by omega) (by omega) (by omega) (by omega))
  obtain ⟨⟨a1, a2, a3⟩, ⟨b1, b2, b3⟩, ⟨c1, c2, c3⟩, ⟨d1, d2, d3, d4, d5⟩, e, f⟩ := rm
  obtain ⟨hc1, hc2, hc3, hc4⟩ := hc
  obtain ⟨hm1, hm2, hm3, hm4⟩ := hm
  refine hS.step (fun p hp => if q : p < np then Or.inr (by rw [eK _ _ (by unfold pA; omega) (by unfold pA; omega), (hc2 p q).2.1]; exact (hb.2 p q).2) else Or.inl ((eK _ _ (by unfold pA; omega) (by unfold pA; omega)).trans (f1 _ _ (by unfold pA; omega) (by unfold pA; omega) (by unfold pA; omega) (by unfold pA; omega)))) (fun a k ha => eI _ _ (by omega) (by omega) (by omega) (by omega) (by omega) (by omega)) (fun k hk => eA k (by omega) (by omega) (by omega) (fun p hp => by omega)) (fun k => eI _ _ (by omega) (by omega) (by omega) (by omega) (by omega) (by omega)) ⟨nh, np, nc, nl, tl, ?_, ?_, ?_, ?_, ?_, ?_, ?_⟩
  · refine ⟨⟨by rw [eA 0 (by omega) (by omega) (by omega) (fun p hp => by omega)]; exact a1, by rw [eI _ _ (by omega) (by omega) (by omega) (by omega) (by omega) (by omega)]; exact a2, a3⟩, ⟨by rw [eA 1 (by omega) (by omega) (by omega) (fun p hp => by omega)]; exact b1, by rw [eI _ _ (by omega) (by omega) (by omega) (by omega) (by omega) (by omega)]; exact b2, b3⟩, ⟨by rw [eA 2 (by omega) (by omega) (by omega) (fun p hp => by omega)]; exact c1, by rw [eI _ _ (by omega) (by omega) (by omega) (by omega) (by omega) (by omega)]; exact c2, c3⟩, ⟨?_, ?_, ?_, ?_, ?_⟩, fun s hs => ?_, fun q hq => ?_⟩
    · rw [eA 5 (by omega) (by omega) (by omega) (fun p hp => by omega), eI _ _ (by omega) (by omega) (by omega) (by omega) (by omega) (by omega)]; exact d1
    · rw [eA 8 (by omega) (by omega) (by omega) (fun p hp => by omega), eI _ _ (by omega) (by omega) (by omega) (by omega) (by omega) (by omega)]; exact d2
    · rw [eA 9 (by omega) (by omega) (by omega) (fun p hp => by omega), eI _ _ (by omega) (by omega) (by omega) (by omega) (by omega) (by omega)]; exact d3
    · rw [hm3, eK _ _ (by omega) (by omega), hc3]
    · rw [hm4, eK _ _ (by omega) (by omega), hc4]
    · rw [eA _ (by omega) (by omega) (by omega) (fun p hp => by omega), eA _ (by omega) (by omega) (by omega) (fun p hp => by omega), eI (x + 1 + 10) _ (by omega) (by omega) (by omega) (by omega) (by omega) (by omega), eI (x + 1 + 11) _ (by omega) (by omega) (by omega) (by omega) (by omega) (by omega)]; exact e s hs
    · rw [eA _ (by omega) (by omega) (by omega) (fun p hp => by omega), eI (x + 1 + 12) _ (by omega) (by omega) (by omega) (by omega) (by omega) (by omega)]; exact f q hq
  · refine ⟨fun c hc => ?_, fun k hk => ?_⟩
    · rw [hm1 c hc, eK _ _ (by omega) (by omega), hc1 c hc]
      have := hb.1 c hc
      exact ⟨rfl, this.1, this.2⟩
    · rw [eA _ (by omega) (by omega) (by omega) (fun p hp => by omega), eI (x + 1 + 16) _ (by omega) (by omega) (by omega) (by omega) (by omega) (by omega)]; exact rk.2 k hk
  · exact rh.cong (Nat.le_succ n) (fun a j h1 h2 => eI _ _ (by omega) (by omega) (by omega) (by omega) (by omega) (by omega)) (fun k h1 h2 => eA _ (by omega) (by omega) (by omega) (fun p hp => by omega))
  · intro p hp
    obtain ⟨w0, w1, w2, ⟨w3, w, hw, w3'⟩, ⟨w5, w5'⟩, w7, wp⟩ := rp p hp
    obtain ⟨y3, y6, y7⟩ := hc2 p hp
    obtain ⟨z3, z5, z6⟩ := hm2 p hp
    have ek : ∀ i, i ≠ 3 ∧ i ≠ 6 ∧ i ≠ 7 → K (pA (x + 1) p) i = I (pA (x + 1) p) i := fun i hi => eI _ _ (by unfold pA; omega) (by unfold pA; omega) (by unfold pA; omega) (by unfold pA; omega) (by unfold pA; omega) (Or.inr (Or.inr hi))
    have eJ : ∀ i, K (pA (x + 1) p) i = J (pA (x + 1) p) i := fun i => eK _ _ (by unfold pA; omega) (by unfold pA; omega)
    have eB : ∀ i, i < 8 → i ≠ 3 ∧ i ≠ 5 ∧ i ≠ 6 → K (x + 96 + 1) (300 + 8 * p + i) = I (x + 96 + 1) (300 + 8 * p + i) := fun i hi h3 => eA _ (by omega) (by omega) (by omega) (fun p' hp' => by omega)
    unfold RVp1
    simp only [ek 0 (by decide), ek 1 (by decide), ek 2 (by decide), ek 4 (by decide), ek 5 (by decide), eB 0 (by decide) (by decide), eB 1 (by decide) (by decide), eB 2 (by decide) (by decide), eB 4 (by decide) (by decide), z3, z5, z6, eJ, y3, y6, y7]
    obtain ⟨⟨w', hw', ew'⟩, hcr⟩ := hb.2 p hp
    exact ⟨w0, w1, w2, ⟨trivial, w', hw', ew'⟩, ⟨trivial, hcr⟩, trivial, wp⟩
  · exact rs.cong hnp (fun j _ => eI _ _ (by omega) (by omega) (by omega) (by omega) (by omega) (by omega)) (fun p hp => eA _ (by omega) (by omega) (by omega) (fun q hq => by omega))
  · exact rc.cong (eI _ _ (by omega) (by omega) (by omega) (by omega) (by omega) (by omega)) (fun j _ => eI _ _ (by omega) (by omega) (by omega) (by omega) (by omega) (by omega)) (fun j _ => eI _ _ (by omega) (by omega) (by omega) (by omega) (by omega) (by omega)) (fun j _ => eI _ _ (by omega) (by omega) (by omega) (by omega) (by omega) (by omega)) (fun j _ => eI _ _ (by omega) (by omega) (by omega) (by omega) (by omega) (by omega)) (fun j _ => eI _ _ (by omega) (by omega) (by omega) (by omega) (by omega) (by omega)) (eA _ (by omega) (by omega) (by omega) (fun p hp => by omega)) (fun k h1 h2 => eA _ (by omega) (by omega) (by omega) (fun p hp => by omega))
  · exact rt.cong (eI _ _ (by omega) (by omega) (by omega) (by omega) (by omega) (by omega)) (fun j _ => eI _ _ (by omega) (by omega) (by omega) (by omega) (by omega) (by omega)) (eA _ (by omega) (by omega) (by omega) (fun p hp => by omega)) (fun k h1 h2 => eA _ (by omega) (by omega) (by omega) (fun p hp => by omega))
end FIRE
