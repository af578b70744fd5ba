def aDm (A : Nat → Int32) (np nh : Nat) (D : DS) : Prop := (∀ p, p < np → A (300 + 8 * p + 4) = ob (D.1 p)) ∧ ∀ h, h < nh → A (60 + 30 * h + 1) = D.2 h
def frDm (m np nh : Nat) (I J : IT) : Prop := (∀ k, (∀ p, p < np → k ≠ 300 + 8 * p + 4) → (∀ h, h < nh → k ≠ 60 + 30 * h + 1) → J (m + 1) k = I (m + 1) k) ∧ ∀ a k, a ≠ m + 1 → J a k = I a k
section DEAL9
variable {g : GT} {S : ST} {P : PT} {I I' J K : IT} {Q : QT} {x n m v p np nc nh nl c j ch : Nat} {z lg : Int32} {A A' : Nat → Int32} {ho : Nat → Nat} {D : DS} {val : Nat → Int32}
theorem ob_nI {a k : Nat} (ha : a < 2 ^ 31) (hk : k < 2 ^ 31) : ob a = nI k ↔ a = k + 1 := by
  unfold ob
  by_cases q : a = 0
  · rw [if_pos q]; exact ⟨fun z => absurd z.symm (nI_m1 hk), fun z => by omega⟩
  · rw [if_neg q]; exact ⟨fun z => by have := nI_inj (by omega) hk z; omega, fun z => by rw [z]; rfl⟩
theorem dit_bd (h : ∀ p, p < np → D.1 p ≤ 4 * nc) : ∀ i p, p < np → (dit val np nc ho D i).1 p ≤ 4 * nc
  | 0, p, hp => h p hp
  | i + 1, p, hp => by
    have ih := dit_bd h i p hp
    show (dst val np nc ho (dit val np nc ho D i)).1 p ≤ _
    simp only [dst]
    split
    · exact dpl_le
    · exact ih
theorem dit_had {b : Nat} (hv : ∀ k, k < 24 → ∃ vl : Nat, val k = nI vl ∧ vl ≤ 99) (h6 : nc ≤ 6) (h : ∀ q, q < nh → ∃ z : Nat, D.2 q = nI z ∧ z ≤ b) : ∀ i q, q < nh → ∃ z : Nat, (dit val np nc ho D i).2 q = nI z ∧ z ≤ b + 99 * i
  | 0, q, hq => h q hq
  | i + 1, q, hq => by
    obtain ⟨z, e, hz⟩ := dit_had hv h6 h i q hq
    have hl := dpl_le (val := val) (np := np) (nc := nc) (D := dit val np nc ho D i)
    show ∃ z : Nat, (dst val np nc ho (dit val np nc ho D i)).2 q = nI z ∧ _
    simp only [dst]
    split
    · obtain ⟨vl, e2, h2⟩ := hv (dpl val np nc (dit val np nc ho D i) - 1) (by omega)
      exact ⟨z + vl, by rw [e, e2, nI_add], by omega⟩
    · exact ⟨z, e, by omega⟩
theorem t9_next (hL : LM S P m) (hnp : I (m + 1) 1 = nI np) (h24 : np ≤ 24) (hh : I (m + 1) 0 = nI nh) (h8 : nh ≤ 8) (h6 : nc ≤ 6) (hb : ∀ p, p < np → D.1 p ≤ 4 * nc) (hho : ∀ p, p < np → I (m + 1) (300 + 8 * p + 0) = nI (ho p) ∧ ho p < nh) (ha : aDm (I (m + 1)) np nh D) (h : Q (some (.int (ob (bhf D.2 (dwt np ho D) nh)))) S P I) : T g MX9_nextHouse 0 0 [.ref m] S P I Q := by
  refine t9_nextHouse hL hnp h24 hh h8 (dwt np ho D) (fun k hk => ?_) ?_
  · rw [dwt_t]
    refine ⟨fun ⟨p, hp, a, b⟩ => ⟨p, hp, ?_, ?_⟩, fun ⟨p, hp, a, b⟩ => ⟨p, hp, ?_, ?_⟩⟩
    · rw [ha.1 p hp]; exact (ob_neg (by have := hb p hp; omega)).mpr a
    · rw [(hho p hp).1, b]
    · rw [ha.1 p hp] at a; exact (ob_neg (by have := hb p hp; omega)).mp a
    · rw [(hho p hp).1] at b; exact nI_inj (by have := (hho p hp).2; omega) (by omega) b
  · rw [bhf_cong (v' := D.2) (fr' := dwt np ho D) (fun j hj => ⟨ha.2 j hj, rfl⟩)]; exact h
theorem t9_place (hL : LM S P m) (hnp : I (m + 1) 1 = nI np) (h24 : np ≤ 24) (hc : I (m + 1) 2 = nI nc) (h6 : nc ≤ 6) (hv : ∀ k, k < 24 → I (m + 1) (16 + k) = val k) (hb : ∀ p, p < np → D.1 p ≤ 4 * nc) (ha : aDm (I (m + 1)) np nh D) (h : Q (some (.int (ob (dpl val np nc D)))) S P I) : T g MX9_bestPlace 0 0 [.ref m] S P I Q := by
  refine t9_bestPlace hL hnp h24 hc h6 (dfr np D) (fun k hk => ?_) ?_
  · unfold dfr
    rw [decide_eq_true_iff]
    refine ⟨fun z p hp e => z p hp ?_, fun z p hp e => z p hp ?_⟩
    · rw [ha.1 p hp] at e; exact (ob_nI (by have := hb p hp; omega) (by omega)).mp e
    · rw [ha.1 p hp, e]; exact (ob_nI (by omega) (by omega)).mpr rfl
  · rw [bpf_cong (v' := val) (fr' := dfr np D) (fun j hj => ⟨hv j (by omega), rfl⟩)]; exact h
theorem t9_deal_loop {k0 : Nat} (hL : LM S P m) (hnp : I (m + 1) 1 = nI np) (h24 : np ≤ 24) (hh : I (m + 1) 0 = nI nh) (h8 : nh ≤ 8) (hc : I (m + 1) 2 = nI nc) (h6 : nc ≤ 6) (hv : ∀ k, k < 24 → I (m + 1) (16 + k) = val k) (hb : ∀ p, p < np → D.1 p ≤ 4 * nc) (hho : ∀ p, p < np → I (m + 1) (300 + 8 * p + 0) = nI (ho p) ∧ ho p < nh) (ha : aDm (I (m + 1)) np nh D)
    (hnd : ∀ i, i < k0 → ¬ don val np nc ho (dit val np nc ho D i)) (hdn : don val np nc ho (dit val np nc ho D k0)) (hk0 : k0 ≤ 24)
    (h : ∀ J, aDm (J (m + 1)) np nh (dit val np nc ho D k0) → frDm m np nh I J → Q (some (.int (nI k0))) S P J) : B g MX9_deal 0 0 23 [(0, .ref m), (1, .int 0), (2, .int (ob (bhf D.2 (dwt np ho D) nh))), (3, .int (ob (dpl val np nc D)))] [] S P I Q := by
  have loop : ∀ k i J, i + k = k0 → aDm (J (m + 1)) np nh (dit val np nc ho D i) → frDm m np nh I J → B g MX9_deal 0 0 23 [(0, .ref m), (1, .int (nI i)), (2, .int (ob (bhf (dit val np nc ho D i).2 (dwt np ho (dit val np nc ho D i)) nh))), (3, .int (ob (dpl val np nc (dit val np nc ho D i))))] [] S P J Q := by
    intro k
    induction k with
    | zero =>
      intro i J he a1 a2
      have ei : i = k0 := by omega
      subst ei
      have h0 := h J a1 a2
      generalize dit val np nc ho D i = E at hdn h0 a1 ⊢
      have hl := dpl_le (val := val) (np := np) (nc := nc) (D := E)
      have hl2 := bhf_le E.2 (dwt np ho E) nh
      refine s_X9_deal_23 ⟨fun _ => h0, fun q => ⟨fun _ => h0, fun q2 => ?_⟩⟩
      rcases hdn with z | z
      · exact absurd ((ob_neg (by omega)).mpr z) q2
      · rcases dho_eq (D := E) (ho := ho) (np := np) (nh := nh) (fun p hp => (hho p hp).2) with ⟨-, y⟩ | ⟨y, hy, e, -⟩
        · exact absurd ((ob_neg (by omega)).mpr y) q
        · omega
    | succ k ih =>
      intro i J he a1 a2
      have nd := hnd i (by omega)
      have hbE := dit_bd (val := val) (ho := ho) hb i
      have hd : dst val np nc ho (dit val np nc ho D i) = dit val np nc ho D (i + 1) := rfl
      have hbE2 := dit_bd (val := val) (ho := ho) hb (i + 1)
      have ih2 := ih (i + 1)
      rw [← hd] at ih2 hbE2
      clear hd
      generalize dit val np nc ho D i = E at nd a1 hbE hbE2 ih2 ⊢
      have hl := dpl_le (val := val) (np := np) (nc := nc) (D := E)
      have hl2 := bhf_le E.2 (dwt np ho E) nh
      have hp0 : dpl val np nc E ≠ 0 := fun z => nd (Or.inl z)
      rcases dho_eq (D := E) (ho := ho) (np := np) (nh := nh) (fun p hp => (hho p hp).2) with ⟨y, -⟩ | ⟨q, hq, e, eh, w, fs⟩
      · exact absurd (Or.inr y) nd
      have hst : dst val np nc ho E = (fun p => if p = q then dpl val np nc E else E.1 p, fun h => if h = ho q then E.2 h + val (dpl val np nc E - 1) else E.2 h) := by unfold dst; rw [e, Nat.add_sub_cancel]
      have hoq := (hho q hq).2
      have hoJ : ∀ p, p < np → J (m + 1) (300 + 8 * p + 0) = nI (ho p) := fun p hp => (a2.1 _ (fun r hr => by omega) (fun r hr => by omega)).trans (hho p hp).1
      rw [eh]
      refine s_X9_deal_23 ⟨fun z => absurd ((ob_neg (by omega)).mp z) (by omega), fun _ => ⟨fun z => absurd ((ob_neg (by omega)).mp z) hp0, fun _ => ⟨hL.t, ?_⟩⟩⟩
      rw [ob_n (by omega), Nat.add_sub_cancel]
      refine t9_waiting hL ((a2.1 1 (fun r hr => by omega) (fun r hr => by omega)).trans hnp) h24 (fun r hr => ?_)
      have er : r = nI q := by
        have wq : J (m + 1) (300 + 8 * q + 4) < 0 ∧ J (m + 1) (300 + 8 * q + 0) = nI (ho q) := ⟨by rw [a1.1 q hq]; exact (ob_neg (by omega)).mpr w, hoJ q hq⟩
        rcases hr with ⟨-, z⟩ | ⟨p, hp, e1, ⟨z1, z2⟩, z3⟩
        · exact absurd wq (z q hq)
        · rw [e1]
          rcases Nat.lt_trichotomy p q with t | t | t
          · rw [a1.1 p hp] at z1
            rw [hoJ p hp] at z2
            have l1 := hbE p hp
            have l2 := (hho p hp).2
            exact absurd ⟨(ob_neg (by omega)).mp z1, nI_inj (by omega) (by omega) z2⟩ (fs p t)
          · rw [t]
          · exact absurd wq (z3 q t)
      rw [er]
      generalize hpe : dpl val np nc E = pl at hl hp0 hst ⊢
      obtain ⟨kp, rfl⟩ : ∃ kp, pl = kp + 1 := ⟨pl - 1, by omega⟩
      rw [ob_n (by omega)]
      rw [Nat.add_sub_cancel] at hst ⊢
      refine s_X9_deal_37 ⟨hL.t, _, hL.p, hL.a, 300 + 8 * q + 4, hL.ix (n300 q 4) (by omega), hL.t, _, hL.p, hL.a, 16 + kp, hL.ix (nI_add 16 kp) (by omega), 60 + 30 * ho q + 1, hL.ix (n60 (ho q) 1) (by omega), ?_⟩
      rw [u2_k (show 60 + 30 * ho q + 1 ≠ 300 + 8 * q + 4 by omega), u2_k (show 16 + kp ≠ 300 + 8 * q + 4 by omega), a1.2 _ hoq, a2.1 (16 + kp) (fun r hr => by omega) (fun r hr => by omega), hv kp (by omega)]
      generalize hK : u2 (u2 J (m + 1) (300 + 8 * q + 4) (nI kp)) (m + 1) (60 + 30 * ho q + 1) (E.2 (ho q) + val kp) = K
      have aK : aDm (K (m + 1)) np nh (dst val np nc ho E) := by
        rw [hst, ← hK]
        refine ⟨fun p hp => ?_, fun y hy => ?_⟩
        · dsimp only
          rw [u2_k (by omega)]
          by_cases t : p = q
          · subst t; rw [u2_s, if_pos rfl]; rfl
          · rw [u2_k (by omega), if_neg t]; exact a1.1 p hp
        · dsimp only
          by_cases t : y = ho q
          · subst t; rw [u2_s, if_pos rfl]
          · rw [u2_k (by omega), u2_k (by omega), if_neg t]; exact a1.2 y hy
      have fK : frDm m np nh I K := by
        rw [← hK]
        refine ⟨fun k z1 z2 => ?_, fun a k z1 => ?_⟩
        · rw [u2_k (z2 _ hoq), u2_k (z1 _ hq)]; exact a2.1 k z1 z2
        · rw [u2_a z1, u2_a z1]; exact a2.2 a k z1
      refine t9_next (D := dst val np nc ho E) (ho := ho) hL ((fK.1 1 (fun r hr => by omega) (fun r hr => by omega)).trans hnp) h24 ((fK.1 0 (fun r hr => by omega) (fun r hr => by omega)).trans hh) h8 h6 hbE2 (fun p hp => ⟨(fK.1 _ (fun r hr => by omega) (fun r hr => by omega)).trans (hho p hp).1, (hho p hp).2⟩) aK (s_X9_deal_64 ⟨hL.t, t9_place hL ((fK.1 1 (fun r hr => by omega) (fun r hr => by omega)).trans hnp) h24 ((fK.1 2 (fun r hr => by omega) (fun r hr => by omega)).trans hc) h6 (fun k hk => (fK.1 _ (fun r hr => by omega) (fun r hr => by omega)).trans (hv k hk)) hbE2 aK (s_X9_deal_69 ?_)⟩)
      rw [nI_1]
      exact ih2 K (by omega) aK fK
  exact loop k0 0 I (by omega) ha ⟨fun _ _ _ => rfl, fun _ _ _ => rfl⟩
end DEAL9
