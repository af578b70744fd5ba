section OPS2
variable {g : GT} {S : ST} {P : PT} {I I' : IT} {x n v : Nat} {A A' : Nat → Int32}
theorem RVh.at {nh j n' : Nat} (h : RVh I v A nh n) (hn : n ≤ n') (hj8 : j < 8) (hj : j < nh) (hI : ∀ a k, v + 19 ≤ a → a < v + 59 → (a < hA v j ∨ hA v j + 4 < a) → I' a k = I a k) (hA2 : ∀ k, 60 ≤ k → k < 300 → (k < 60 + 30 * j ∨ 60 + 30 * j + 30 ≤ k) → A' k = A k) (h1 : RVh1 I' (hA v j) (fun i => A' (60 + 30 * j + i)) n') : RVh I' v A' nh n' := by
  intro q hq
  by_cases e : q = j
  · subst e
    exact ⟨fun _ => h1, fun z => absurd z (by omega)⟩
  · obtain ⟨g1, g2⟩ := h q hq
    have ee : ∀ k i, k < 5 → I' (hA v q + k) i = I (hA v q + k) i := fun k i hk => hI _ _ (by unfold hA; omega) (by unfold hA; omega) (by unfold hA; omega)
    have e0 := fun i => ee 0 i (by decide)
    simp only [Nat.add_zero] at e0
    refine ⟨fun hh => (g1 hh).cong hn e0 (fun i _ => ee 1 i (by decide)) (fun i _ => ee 2 i (by decide)) (fun i _ => ee 3 i (by decide)) (fun i _ => ee 4 i (by decide)) (fun k hk => hA2 _ (by omega) (by omega) (by omega)), fun hh => ?_⟩
    rw [e0, e0, e0, e0, e0]
    exact g2 hh
theorem sim_forget (hS : Sim S P I x n) (z : Int32) : SimT g MX8_forget MX9_forget [.int z] x n S P I := by
  obtain ⟨hX, hR, hI, hd⟩ := id hS
  have hV := hX.v
  have hM := hX.m
  obtain ⟨nh, np, nc, nl, tl, rm, rk, rh, rp, rs, rc, rt⟩ := id hR
  have h8 := rm.1.2.2
  refine T_of rfl (Nat.le_of_ble_eq_true rfl) (s_X8_forget_0 ⟨hX.1.1, _, hX.1.2.1, hV.t, fun q => ?_, fun q => ?_⟩)
  · rw [rm.1.2.1] at q
    obtain ⟨j, hj, rfl⟩ := wi_dec (by omega) q
    refine ⟨_, hV.p4, hV.t9, j, ixl hV.l9 (by omega) (by decide), _, hV.ph (by omega), (hV.ho (by omega)).1.1, ?_⟩
    refine T_of rfl (Nat.le_of_ble_eq_true rfl) (s_X9_forget_0 ⟨hM.t, _, hM.p, hM.a, 0, hM.ix rfl (by decide), fun _ => ⟨60 + 30 * j + 4, hM.ix (n60 j 4) (by omega), rfl, ⟨_, rfl⟩, ?_⟩, fun z => absurd (by rw [u2_a (by unfold hA; omega), rm.1.1] at z; exact z) q⟩)
    have ea : hA (x + 1) j = x + 1 + 19 + 5 * j := rfl
    obtain ⟨a, b, c, d, no, dd, uu, e⟩ := (rh j (by omega)).1 hj
    refine hS.step (fun p hp => Or.inl (by unfold pA; repeat rw [u2_a (by omega)])) (fun a k ha => ?_) (fun k hk => ?_) (fun k => ?_) (hR.hw (fun a k h1 h2 h3 => ?_) (fun k h1 h2 => ?_) (fun nh' q1 q2 q3 q4 => ?_))
    · rw [u2_a (by omega), u2_a (by omega)]
    · rw [u2_k (by omega), u2_a (by omega)]
    · rw [u2_a (by omega), u2_a (by omega)]
    · rw [u2_a (by omega), u2_a (by omega)]
    · rw [u2_k (by omega), u2_a (by omega)]
    · have en : nh' = nh := nI_inj (by omega) (by omega) (q2.symm.trans rm.1.1)
      subst en
      refine q4.at (Nat.le_succ n) (by omega) hj (fun a k h1 h2 h3 => ?_) (fun k h1 h2 h3 => ?_) ⟨?_, ⟨?_, ?_⟩, ?_, ?_, 0, dd, uu, ⟨?_, ?_, by omega⟩, fun i hi => absurd hi (Nat.not_lt_zero i), fun i hi => absurd hi (Nat.not_lt_zero i)⟩ <;> try dsimp only
      · rw [u2_a (by omega), u2_a (by omega)]
      · rw [u2_k (by omega), u2_a (by omega)]
      · rw [u2_k (by omega), u2_a (by omega), u2_a (by omega), u2_k (by omega)]; exact a
      · rw [u2_k (by omega), u2_a (by omega), u2_a (by omega), u2_k (by omega)]; exact b.1
      · obtain ⟨hd, b2, b3⟩ := b.2
        exact ⟨hd, by rw [u2_k (by omega), u2_a (by omega)]; exact b2, by omega⟩
      · rw [u2_k (by omega), u2_a (by omega), u2_a (by omega), u2_k (by omega)]; exact c
      · rw [u2_k (by omega), u2_a (by omega), u2_a (by omega), u2_k (by omega)]; exact d
      · rw [u2_s]; rfl
      · rw [u2_a (by omega), u2_s]; rfl
  · rw [rm.1.2.1] at q
    exact T_of rfl (Nat.le_of_ble_eq_true rfl) (s_X9_forget_0 ⟨hM.t, _, hM.p, hM.a, 0, hM.ix rfl (by decide), fun z => absurd (by rw [rm.1.1]; exact q) z, fun _ => ⟨rfl, ⟨_, rfl⟩, hS.up⟩⟩)
theorem n60c (h i : Nat) : ((60 + 30 * nI h) + 5) + 3 * nI i = nI (60 + 30 * h + (5 + 3 * i)) := by
  show ((nI 60 + nI 30 * nI h) + nI 5) + nI 3 * nI i = _
  rw [pk_mul, nI_add, nI_add, pk_mul, nI_add]
  congr 1
  omega
theorem nI_2 (a : Nat) : nI a + 2 = nI (a + 2) := nI_add a 2
theorem sim_order (hS : Sim S P I x n) (z dy du w : Int32) : SimT g MX8_order MX9_order [.int z, .int dy, .int du, .int w] x n S P I := by
  obtain ⟨hX, hR, hI, hd⟩ := id hS
  have hV := hX.v
  have hM := hX.m
  obtain ⟨nh, np, nc, nl, tl, rm, rk, rh, rp, rs, rc, rt⟩ := id hR
  have h8 := rm.1.2.2
  have up : ∀ r : Int32, (some (.int r) : Option Value) = some (.int r) ∧ (∃ z : Int32, (some (.int r) : Option Value) = some (.int z)) ∧ Sim S P I x (n + 1) := fun r => ⟨rfl, ⟨_, rfl⟩, hS.up⟩
  refine T_of rfl (Nat.le_of_ble_eq_true rfl) (s_X8_order_0 ⟨hX.1.1, _, hX.1.2.1, hV.t, fun q => ?_, fun q => ?_⟩)
  · rw [rm.1.2.1] at q
    exact T_of rfl (Nat.le_of_ble_eq_true rfl) (s_X9_order_0 ⟨hM.t, _, hM.p, hM.a, 0, hM.ix rfl (by decide), fun _ => up _, fun z => absurd (by rw [rm.1.1]; exact q) z⟩)
  rw [rm.1.2.1] at q
  obtain ⟨j, hj, rfl⟩ := wi_dec (by omega) q
  have q9 : ¬ wi (nI j) 0 (I (x + 96 + 1) 0 - 1) = 0 := by rw [rm.1.1]; exact q
  obtain ⟨a, b, c, d, no, dd, uu, e⟩ := (rh j (by omega)).1 hj
  have eo9 : I (x + 96 + 1) (60 + 30 * j + 4) = nI no := e.1.1
  have eo8 := e.1.2.1
  have ho := e.1.2.2
  have hH := hV.ho (i := j) (by omega)
  have ea : hA (x + 1) j = x + 1 + 19 + 5 * j := rfl
  refine ⟨_, hV.p4, hV.t9, j, ixl hV.l9 (by omega) (by decide), _, hV.ph (by omega), hH.1.1, fun p1 => ?_, fun p1 => ⟨fun p2 => ?_, fun p2 => ⟨fun p3 => ?_, fun p3 => ⟨fun p4 => ?_, fun p4 => ?_⟩⟩⟩⟩
  · rw [eo8] at p1
    have : no = 8 := by
      rcases Nat.lt_or_ge no 8 with z | z
      · exact absurd p1 (nI_ge (b := 8) z (by decide))
      · omega
    exact T_of rfl (Nat.le_of_ble_eq_true rfl) (s_X9_order_0 ⟨hM.t, _, hM.p, hM.a, 0, hM.ix rfl (by decide), fun z => absurd z q9, fun _ => ⟨60 + 30 * j + 4, hM.ix (n60 j 4) (by omega), fun _ => up _, fun z => absurd (by rw [eo9, this]; rfl) z⟩⟩)
  all_goals
    rw [eo8] at p1
    have h7 : no < 8 := by
      rcases Nat.lt_or_ge no 8 with z | z
      · exact z
      · exact absurd (nI_le (a := 8) z (by omega)) p1
    have p9 : ¬ I (x + 96 + 1) (60 + 30 * j + 4) = 8 := by
      rw [eo9]
      intro z
      have := nI_inj (a := no) (b := 8) (by omega) (by decide) z
      omega
  · exact T_of rfl (Nat.le_of_ble_eq_true rfl) (s_X9_order_0 ⟨hM.t, _, hM.p, hM.a, 0, hM.ix rfl (by decide), fun z => absurd z q9, fun _ => ⟨60 + 30 * j + 4, hM.ix (n60 j 4) (by omega), fun z => absurd z p9, fun _ => ⟨fun _ => up _, fun z => absurd p2 z⟩⟩⟩)
  · exact T_of rfl (Nat.le_of_ble_eq_true rfl) (s_X9_order_0 ⟨hM.t, _, hM.p, hM.a, 0, hM.ix rfl (by decide), fun z => absurd z q9, fun _ => ⟨60 + 30 * j + 4, hM.ix (n60 j 4) (by omega), fun z => absurd z p9, fun _ => ⟨fun z => absurd z p2, fun _ => ⟨fun _ => up _, fun z => absurd p3 z⟩⟩⟩⟩)
  · obtain ⟨dn, -, hdn, rfl⟩ := wi_nI (a := 1) (b := 30) (by decide) (by decide) (wi_ne p2)
    obtain ⟨un, -, hun, rfl⟩ := wi_nI (a := 1) (b := 200) (by decide) (by decide) (wi_ne p3)
    refine t_takeOrder (no := no) (un := un) hH eo8 h7 uu (fun i hi => ⟨(e.2.1 i hi).2.1.2.1, by have := (e.2.1 i hi).2.1.2.2; omega⟩) (by omega) (sl uu no) (sl_len uu no) (fun r hr => sl_lt uu hr) (fun r hr => e.2.2 r hr) (fun J c1 c2 c3 c4 c5 c6 c7 c8 c9 c10 => s_X8_order_83 ⟨hH.1.1, ?_⟩)
    rw [c8, nI_sub1 (by omega), show no + 1 - 1 = no by omega]
    have em : ∀ k, J (x + 96 + 1) k = I (x + 96 + 1) k := fun k => c10 _ _ (by omega)
    refine T_of rfl (Nat.le_of_ble_eq_true rfl) (s_X9_order_0 ⟨hM.t, _, hM.p, hM.a, 0, hM.ix rfl (by decide), fun z => absurd (by rw [em] at z; exact z) q9, fun _ => ⟨60 + 30 * j + 4, hM.ix (n60 j 4) (by omega), fun z => absurd (by rw [em] at z; exact z) p9, fun _ => ⟨fun z => absurd z p2, fun _ => ⟨fun z => absurd z p3, fun _ => ⟨fun _ => ⟨60 + 30 * j + (5 + 3 * no), hM.ix (by rw [em, eo9]; exact n60c j no) (by omega), 60 + 30 * j + (6 + 3 * no), hM.ix (by rw [em, eo9, n60c, nI_1]; congr 1; omega) (by omega), 60 + 30 * j + (7 + 3 * no), hM.ix (by rw [em, eo9, n60c, nI_2]; congr 1; omega) (by omega), by rw [em, eo9], ⟨_, rfl⟩, ?_⟩, fun z => absurd z p4⟩⟩⟩⟩⟩)
    have e4 : u2 (u2 (u2 J (x + 96 + 1) (60 + 30 * j + (5 + 3 * no)) (nI dn)) (x + 96 + 1) (60 + 30 * j + (6 + 3 * no)) (nI un)) (x + 96 + 1) (60 + 30 * j + (7 + 3 * no)) w (x + 96 + 1) (60 + 30 * j + 4) + 1 = nI (no + 1) := by
      rw [u2_k (by omega), u2_k (by omega), u2_k (by omega), em, eo9, nI_1]
    rw [e4]
    refine hS.step (fun p hp => Or.inl (by unfold pA; rw [u2_a (by omega), u2_a (by omega), u2_a (by omega), u2_a (by omega)]; exact c10 _ _ (by omega))) (fun a k ha => ?_) (fun k hk => ?_) (fun k => ?_) (hR.hw (fun a k h1 h2 h3 => ?_) (fun k h1 h2 => ?_) (fun nh' q1 q2 q3 q4 => ?_))
    · rw [u2_a (by omega), u2_a (by omega), u2_a (by omega), u2_a (by omega)]; exact c10 _ _ (by omega)
    · rw [u2_k (by omega), u2_k (by omega), u2_k (by omega), u2_k (by omega)]; exact c10 _ _ (by omega)
    · rw [u2_a (by omega), u2_a (by omega), u2_a (by omega), u2_a (by omega)]; exact c10 _ _ (by omega)
    · rw [u2_a (by omega), u2_a (by omega), u2_a (by omega), u2_a (by omega)]; exact c10 _ _ (by omega)
    · rw [u2_k (by omega), u2_k (by omega), u2_k (by omega), u2_k (by omega)]; exact c10 _ _ (by omega)
    · have en : nh' = nh := nI_inj (by omega) (by omega) (q2.symm.trans rm.1.1)
      subst en
      have eA : ∀ k, k < 4 → u2 (u2 (u2 (u2 J (x + 96 + 1) (60 + 30 * j + (5 + 3 * no)) (nI dn)) (x + 96 + 1) (60 + 30 * j + (6 + 3 * no)) (nI un)) (x + 96 + 1) (60 + 30 * j + (7 + 3 * no)) w) (x + 96 + 1) (60 + 30 * j + 4) (nI (no + 1)) (x + 96 + 1) (60 + 30 * j + k) = I (x + 96 + 1) (60 + 30 * j + k) := fun k hk => by
        rw [u2_k (by omega), u2_k (by omega), u2_k (by omega), u2_k (by omega)]; exact em _
      have eH : ∀ a k, a ≠ x + 96 + 1 → u2 (u2 (u2 (u2 J (x + 96 + 1) (60 + 30 * j + (5 + 3 * no)) (nI dn)) (x + 96 + 1) (60 + 30 * j + (6 + 3 * no)) (nI un)) (x + 96 + 1) (60 + 30 * j + (7 + 3 * no)) w) (x + 96 + 1) (60 + 30 * j + 4) (nI (no + 1)) a k = J a k := fun a k ha => by
        rw [u2_a ha, u2_a ha, u2_a ha, u2_a ha]
      refine q4.at (Nat.le_succ n) (by omega) hj (fun a k h1 h2 h3 => ?_) (fun k h1 h2 h3 => ?_) ⟨?_, ⟨?_, ?_⟩, ?_, ?_, no + 1, fun i => if i = no then dn else dd i, fun i => if i = no then un else uu i, ⟨?_, ?_, by omega⟩, fun i hi => ?_, fun r hr => ?_⟩ <;> try dsimp only
      · rw [eH _ _ (by omega)]; exact c10 _ _ (by omega)
      · rw [u2_k (by omega), u2_k (by omega), u2_k (by omega), u2_k (by omega)]; exact c10 _ _ (by omega)
      · rw [eA 0 (by omega), eH _ _ (by omega), c9 0 (by decide)]; exact a
      · rw [eA 1 (by omega), eH _ _ (by omega), c9 1 (by decide)]; exact b.1
      · obtain ⟨hd, b2, b3⟩ := b.2
        exact ⟨hd, by rw [eA 1 (by omega)]; exact b2, by omega⟩
      · rw [eA 2 (by omega), eH _ _ (by omega), c9 2 (by decide)]; exact c
      · rw [eA 3 (by omega), eH _ _ (by omega), c9 3 (by decide)]; exact d
      · rw [u2_s]
      · rw [eH _ _ (by omega)]; exact c8
      · by_cases ei : i = no
        · subst ei
          simp only [if_true]
          refine ⟨⟨?_, ?_, hdn⟩, ⟨?_, ?_, hun⟩, ?_⟩
          · rw [u2_k (by omega), u2_k (by omega), u2_k (by omega), u2_s]
          · rw [eH _ _ (by omega)]; exact c1
          · rw [u2_k (by omega), u2_k (by omega), u2_s]
          · rw [eH _ _ (by omega)]; exact c3
          · rw [u2_k (by omega), u2_s, eH _ _ (by omega)]; exact c5.symm
        · have hi' : i < no := by omega
          simp only [if_neg ei]
          obtain ⟨⟨f1, f2, f3⟩, ⟨f4, f5, f6⟩, f7⟩ := e.2.1 i hi'
          refine ⟨⟨?_, ?_, f3⟩, ⟨?_, ?_, f6⟩, ?_⟩
          · rw [u2_k (by omega), u2_k (by omega), u2_k (by omega), u2_k (by omega), em]; exact f1
          · rw [eH _ _ (by omega), c2 i ei]; exact f2
          · rw [u2_k (by omega), u2_k (by omega), u2_k (by omega), u2_k (by omega), em]; exact f4
          · rw [eH _ _ (by omega), c4 i ei]; exact f5
          · rw [u2_k (by omega), u2_k (by omega), u2_k (by omega), u2_k (by omega), em, eH _ _ (by omega), c6 i ei]; exact f7
      · rw [eH _ _ (by omega), c7 r hr, sl]
        have es : sl (fun i => if i = no then un else uu i) no = sl uu no := sl_cong (fun i hi => by simp [show i ≠ no by omega])
        have er : rkf (fun i => if i = no then un else uu i) un (sl uu no) no = rkf uu un (sl uu no) no := rkf_cong (fun r hr => by
          have := sl_lt uu hr
          exact if_neg (show ¬ (sl uu no).getD r 0 = no by omega))
        simp only [if_true]
        rw [es, er]
  · exact T_of rfl (Nat.le_of_ble_eq_true rfl) (s_X9_order_0 ⟨hM.t, _, hM.p, hM.a, 0, hM.ix rfl (by decide), fun z => absurd z q9, fun _ => ⟨60 + 30 * j + 4, hM.ix (n60 j 4) (by omega), fun z => absurd z p9, fun _ => ⟨fun z => absurd z p2, fun _ => ⟨fun z => absurd z p3, fun _ => ⟨fun z => absurd p4 z, fun _ => up _⟩⟩⟩⟩⟩)
end OPS2
