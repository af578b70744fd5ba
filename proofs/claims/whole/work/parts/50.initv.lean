def VI (I : IT) (v : Nat) : Prop := (I v 2 = 0 ∧ I v 3 = -1 ∧ I v 5 = 0 ∧ I v 11 = 0 ∧ I v 12 = 0) ∧ (I (v + 1) 1 = 0 ∧ ∀ j, I (v + 2) j = 0) ∧ I (v + 3) 0 = 0 ∧ (I (v + 13) 0 = 3 ∧ I (v + 13) 1 = 0 ∧ I (v + 13) 2 = 0) ∧ (∀ j, j < 6 → I (v + 14) j = 20) ∧ (∀ j, j < 24 → I (v + 16) j = kv j ∧ I (v + 17) j = -1) ∧ (∀ s, s < 5 → I (v + 10) s = 10 ∧ I (v + 11) s = 200) ∧ ∀ q, q < 4 → I (v + 12) q = 5
def VB (S : ST) (P : PT) (I : IT) (v : Nat) : Prop :=
  (sT S v = 8 ∧ P v 0 = v + 1 + 1 ∧ P v 1 = v + 3 + 1 ∧ P v 4 = v + 9 + 1 ∧ P v 6 = v + 10 + 1 ∧ P v 7 = v + 11 + 1 ∧ P v 8 = v + 12 + 1 ∧ P v 9 = v + 13 + 1 ∧ P v 10 = v + 18 + 1) ∧
  LT S P (v + 1) ∧ LC S P (v + 3) ∧ LK S P (v + 13) ∧ (sT S (v + 9) = 43 ∧ sL S (v + 9) = 8) ∧
  (sT S (v + 10) = 40 ∧ sL S (v + 10) = 5 ∧ sT S (v + 11) = 40 ∧ sL S (v + 11) = 5 ∧ sT S (v + 12) = 40 ∧ sL S (v + 12) = 4) ∧ (sT S (v + 18) = 44 ∧ sL S (v + 18) = 24) ∧ VI I v
theorem VI.mv {I I' : IT} {v : Nat} (h : VI I v) (hI : ∀ a k, v ≤ a → a < v + 19 → I' a k = I a k) : VI I' v := by
  obtain ⟨⟨a1, a2, a3, a4, a5⟩, ⟨b1, b2⟩, c, ⟨d1, d2, d3⟩, e, f, g, h⟩ := h
  have i := fun d k (hd : d < 19) => hI (v + d) k (by omega) (by omega)
  have i0 := fun k => hI v k (by omega) (by omega)
  refine ⟨⟨by rw [i0]; exact a1, by rw [i0]; exact a2, by rw [i0]; exact a3, by rw [i0]; exact a4, by rw [i0]; exact a5⟩, ⟨by rw [i 1 _ (by omega)]; exact b1, fun j => by rw [i 2 _ (by omega)]; exact b2 j⟩, by rw [i 3 _ (by omega)]; exact c, ⟨by rw [i 13 _ (by omega)]; exact d1, by rw [i 13 _ (by omega)]; exact d2, by rw [i 13 _ (by omega)]; exact d3⟩, fun j hj => by rw [i 14 _ (by omega)]; exact e j hj, fun j hj => by rw [i 16 _ (by omega), i 17 _ (by omega)]; exact f j hj, fun s hs => by rw [i 10 _ (by omega), i 11 _ (by omega)]; exact g s hs, fun q hq => by rw [i 12 _ (by omega)]; exact h q hq⟩
theorem VB.mv {S S' : ST} {P P' : PT} {I I' : IT} {v : Nat} (h : VB S P I v) (hS : ∀ a, v ≤ a → a < v + 19 → sT S' a = sT S a ∧ sL S' a = sL S a) (hP : ∀ a k, v ≤ a → a < v + 19 → a ≠ v + 9 → a ≠ v + 18 → P' a k = P a k) (hI : ∀ a k, v ≤ a → a < v + 19 → I' a k = I a k) : VB S' P' I' v := by
  obtain ⟨⟨a0, a1, a2, a3, a4, a5, a6, a7, a8⟩, b, c, d, ⟨e1, e2⟩, ⟨f1, f2, f3, f4, f5, f6⟩, ⟨g1, g2⟩, k⟩ := h
  have p0 := fun k => hP v k (by omega) (by omega) (by omega) (by omega)
  have s := fun d (hd : d < 19) => hS (v + d) (by omega) (by omega)
  exact ⟨⟨(hS v (by omega) (by omega)).1.trans a0, by rw [p0]; exact a1, by rw [p0]; exact a2, by rw [p0]; exact a3, by rw [p0]; exact a4, by rw [p0]; exact a5, by rw [p0]; exact a6, by rw [p0]; exact a7, by rw [p0]; exact a8⟩, b.ex (fun a h1 h2 => ⟨(hS a (by omega) (by omega)).1, (hS a (by omega) (by omega)).2, fun k => hP a k (by omega) (by omega) (by omega) (by omega)⟩), c.ex (fun a h1 h2 => ⟨(hS a (by omega) (by omega)).1, (hS a (by omega) (by omega)).2, fun k => hP a k (by omega) (by omega) (by omega) (by omega)⟩), d.ex (fun a h1 h2 => ⟨(hS a (by omega) (by omega)).1, (hS a (by omega) (by omega)).2, fun k => hP a k (by omega) (by omega) (by omega) (by omega)⟩),
    ⟨(s 9 (by omega)).1.trans e1, (s 9 (by omega)).2.trans e2⟩, ⟨(s 10 (by omega)).1.trans f1, (s 10 (by omega)).2.trans f2, (s 11 (by omega)).1.trans f3, (s 11 (by omega)).2.trans f4, (s 12 (by omega)).1.trans f5, (s 12 (by omega)).2.trans f6⟩, ⟨(s 18 (by omega)).1.trans g1, (s 18 (by omega)).2.trans g2⟩, k.mv hI⟩
/-- the houses of a new village -/
def VH (S : ST) (P : PT) (I : IT) (v i : Nat) : Prop := ∀ j, j < i → P (v + 9) j = hA v j + 1 ∧ LH S P (hA v j) ∧ (I (hA v j) 0 = 0 ∧ I (hA v j) 1 = 0 ∧ I (hA v j) 2 = 0 ∧ I (hA v j) 3 = 0 ∧ I (hA v j) 4 = 0)
def VP (S : ST) (P : PT) (I : IT) (v i : Nat) : Prop := ∀ j, j < i → P (v + 18) j = pA v j + 1 ∧ sT S (pA v j) = 4 ∧ I (pA v j) 6 = 0
theorem LV_of {S : ST} {P : PT} {I : IT} {v : Nat} (h : VB S P I v) (hh : VH S P I v 8) (hp : VP S P I v 24) : LV S P v := by
  obtain ⟨a, b, c, d, ⟨e1, e2⟩, f, ⟨g1, g2⟩, k⟩ := h
  exact ⟨a, b, c, d, ⟨e1, e2, fun i hi => ⟨(hh i hi).1, (hh i hi).2.1⟩⟩, f, g1, g2, fun i hi => ⟨(hp i hi).1, (hp i hi).2.1⟩⟩
section INITV
variable {g : GT} {S S0 : ST} {P P0 : PT} {I I0 : IT} {Q : QT} {c v : Nat}
theorem i7_pots (h : ∀ S' P' I', VB S' P' I' v → VH S' P' I' v 8 → VP S' P' I' v 24 → sN S' = v + 83 → EX v S0 S' P0 P' I0 I' → Q none S' P' I') : ∀ k i S P I, i + k = 24 → sN S = pA v i → VB S P I v → VH S P I v 8 → VP S P I v i → EX v S0 S P0 P I0 I → B g MX7_init (k + 1) (8 * k + 8) 201 [(0, .ref v), (1, .int (nI i))] [] S P I Q := by
  intro k
  induction k with
  | zero =>
    intro i S P I he hn hb hh hp hE
    have ei : i = 24 := by omega
    subst ei
    exact s_X7_init_201 ⟨fun _ => h S P I hb hh hp hn hE, fun q => absurd (by decide) q⟩
  | succ k ih =>
    intro i S P I he hn hb hh hp hE
    rw [show 8 * (k + 1) + 8 = (8 * k + 8) + 8 by omega]
    refine s_X7_init_201 ⟨fun q => absurd q (nI_ge (b := 24) (by omega) (by decide)), fun _ => ⟨hb.1.1, _, hb.1.2.2.2.2.2.2.2.2, ?_⟩⟩
    rw [hn]
    have hs : ∀ a, a ≠ pA v i → sT (sA S 4 0) a = sT S a ∧ sL (sA S 4 0) a = sL S a := fun a ha => ⟨by rw [sA_t, hn, if_neg ha], by rw [sA_l, hn, if_neg ha]⟩
    have h18 : sT (sA S 4 0) (v + 18) = 44 := (hs _ (by unfold pA; omega)).1.trans hb.2.2.2.2.2.2.1.1
    have l18 : sL (sA S 4 0) (v + 18) = 24 := (hs _ (by unfold pA; omega)).2.trans hb.2.2.2.2.2.2.1.2
    have ti : sT (sA S 4 0) (pA v i) = 4 := by rw [sA_t, hn, if_pos rfl]
    refine t_init3 ti (fun I2 z1 z2 => s_X7_init_219 ⟨h18, i, ixl l18 (by omega) (by decide), ti, ?_⟩)
    rw [nI_1]
    have eI : ∀ a k, a ≠ pA v i → I2 a k = I a k := fun a k ha => (z2 a k ha).trans (by simp [zI, ha])
    have eP : ∀ a k, a ≠ pA v i → (a ≠ v + 18 ∨ k ≠ i) → p2 (zP P (pA v i)) (v + 18) i (pA v i + 1) a k = P a k := fun a k h1 h2 => by
      have : ¬ (a = v + 18 ∧ k = i) := fun z => h2.elim (fun t => t z.1) (fun t => t z.2)
      simp [p2, zP, h1, this]
    refine ih (i + 1) _ _ _ (by omega) (by rw [sA_n, hn]; rfl) (hb.mv (fun a h1 h2 => hs a (by unfold pA; omega)) (fun a k h1 h2 h3 h4 => eP a k (by unfold pA; omega) (Or.inl h4)) (fun a k h1 h2 => eI a k (by unfold pA; omega))) (fun j hj => ?_) (fun j hj => ?_) (fun a ha => ?_)
    · obtain ⟨y1, y2, y3, y4, y5, y6, y7⟩ := hh j hj
      have e0 := fun k => eI (hA v j) k (by unfold hA pA; omega)
      refine ⟨(eP _ _ (by unfold pA; omega) (Or.inl (by omega))).trans y1, y2.ex (fun a h1 h2 => ⟨(hs a (by unfold hA at h2; unfold pA; omega)).1, (hs a (by unfold hA at h2; unfold pA; omega)).2, fun k => eP a k (by unfold hA at h2; unfold pA; omega) (Or.inl (by unfold hA at h1; omega))⟩), ?_⟩
      rw [e0, e0, e0, e0, e0]; exact ⟨y3, y4, y5, y6, y7⟩
    · by_cases e : j = i
      · subst e; exact ⟨by simp [p2], ti, z1⟩
      · obtain ⟨y1, y2, y3⟩ := hp j (by omega)
        exact ⟨(eP _ _ (by unfold pA; omega) (Or.inr e)).trans y1, (hs _ (by unfold pA; omega)).1.trans y2, (eI _ _ (by unfold pA; omega)).trans y3⟩
    · obtain ⟨b1, b2, b3, b4⟩ := hE a ha
      exact ⟨(hs a (by unfold pA; omega)).1.trans b1, (hs a (by unfold pA; omega)).2.trans b2, fun k => (eP a k (by unfold pA; omega) (Or.inl (by omega))).trans (b3 k), fun k => (eI a k (by unfold pA; omega)).trans (b4 k)⟩
theorem i7_houses (h : ∀ S' P' I', VB S' P' I' v → VH S' P' I' v 8 → VP S' P' I' v 24 → sN S' = v + 83 → EX v S0 S' P0 P' I0 I' → Q none S' P' I') : ∀ k i S P I, i + k = 8 → sN S = hA v i → VB S P I v → VH S P I v i → EX v S0 S P0 P I0 I → B g MX7_init (5 * k + 25) (41 * k + 200) 174 [(0, .ref v), (1, .int (nI i))] [] S P I Q := by
  intro k
  induction k with
  | zero =>
    intro i S P I he hn hb hh hE
    have ei : i = 8 := by omega
    subst ei
    exact s_X7_init_174 (rc := 20) (rs := 159) ⟨fun _ => i7_pots h 24 0 S P I (by omega) hn hb hh (fun j hj => absurd hj (Nat.not_lt_zero j)) hE, fun q => absurd (by decide) q⟩
  | succ k ih =>
    intro i S P I he hn hb hh hE
    rw [show 5 * (k + 1) + 25 = (5 * k + 25) + 5 by omega, show 41 * (k + 1) + 200 = (41 * k + 200) + 41 by omega]
    refine s_X7_init_174 ⟨fun q => absurd q (nI_ge (b := 8) (by omega) (by decide)), fun _ => ⟨hb.1.1, _, hb.1.2.2.2.1, ?_⟩⟩
    rw [hn]
    refine t_init1 (by rw [sA_t, hn, if_pos rfl]) (by rw [sA_n, hn]) (fun S2 P2 I2 n2 L2 z2 E2 => ?_)
    have hx : hA v i = v + 19 + 5 * i := rfl
    have hs : ∀ a, a < hA v i → sT S2 a = sT S a ∧ sL S2 a = sL S a ∧ (∀ k, P2 a k = P a k) ∧ ∀ k, I2 a k = I a k := fun a ha => by
      obtain ⟨b1, b2, b3, b4⟩ := E2 a ha
      have ne : a ≠ hA v i := by omega
      exact ⟨b1.trans (by rw [sA_t, hn, if_neg ne]), b2.trans (by rw [sA_l, hn, if_neg ne]), fun k => (b3 k).trans (by simp [zP, ne]), fun k => (b4 k).trans (by simp [zI, ne])⟩
    have eP : ∀ a k, a < hA v i → (a ≠ v + 9 ∨ k ≠ i) → p2 P2 (v + 9) i (hA v i + 1) a k = P a k := fun a k h1 h2 => by
      have : ¬ (a = v + 9 ∧ k = i) := fun z => h2.elim (fun t => t z.1) (fun t => t z.2)
      simp only [p2, this, if_false]
      exact (hs a h1).2.2.1 k
    refine s_X7_init_192 ⟨((hs _ (by omega)).1).trans hb.2.2.2.2.1.1, i, ixl (((hs _ (by omega)).2.1).trans hb.2.2.2.2.1.2) (by omega) (by decide), L2.1.1, ?_⟩
    rw [nI_1]
    refine ih (i + 1) S2 _ I2 (by omega) (by rw [n2]; unfold hA; omega) (hb.mv (fun a h1 h2 => ⟨(hs a (by omega)).1, (hs a (by omega)).2.1⟩) (fun a k h1 h2 h3 h4 => eP a k (by omega) (Or.inl h3)) (fun a k h1 h2 => (hs a (by omega)).2.2.2 k)) (fun j hj => ?_) (fun a ha => ?_)
    · by_cases e : j = i
      · subst e
        refine ⟨by simp [p2], L2.ex (fun a h1 h2 => ⟨rfl, rfl, fun k => ?_⟩), z2⟩
        have : a ≠ v + 9 := by omega
        simp [p2, this]
      · obtain ⟨y1, y2, y3⟩ := hh j (by omega)
        have hxj : hA v j = v + 19 + 5 * j := rfl
        have e0 := fun k => (hs (hA v j) (by omega)).2.2.2 k
        refine ⟨(eP _ _ (by omega) (Or.inr e)).trans y1, y2.ex (fun a h1 h2 => ⟨(hs a (by omega)).1, (hs a (by omega)).2.1, fun k => eP a k (by omega) (Or.inl (by omega))⟩), ?_⟩
        rw [e0, e0, e0, e0, e0]; exact y3
    · obtain ⟨b1, b2, b3, b4⟩ := hE a ha
      obtain ⟨d1, d2, d3, d4⟩ := hs a (by omega)
      exact ⟨d1.trans b1, d2.trans b2, fun k => (eP a k (by omega) (Or.inl (by omega))).trans (b3 k), fun k => (d4 k).trans (b4 k)⟩
theorem i7_end {S3 : ST} {P3 : PT} {I3 : IT} (n3 : sN S3 = v + 18) (hv3 : sT S3 v = 8) (p3 : P3 v 0 = v + 1 + 1 ∧ P3 v 1 = v + 3 + 1 ∧ P3 v 4 = v + 9 + 1 ∧ P3 v 6 = v + 10 + 1 ∧ P3 v 7 = v + 11 + 1 ∧ P3 v 8 = v + 12 + 1) (i3 : I3 v 2 = 0 ∧ I3 v 3 = -1 ∧ I3 v 5 = 0)
    (s9 : sT S3 (v + 9) = 43 ∧ sL S3 (v + 9) = 8) (s10 : sT S3 (v + 10) = 40 ∧ sL S3 (v + 10) = 5 ∧ sT S3 (v + 11) = 40 ∧ sL S3 (v + 11) = 5 ∧ sT S3 (v + 12) = 40 ∧ sL S3 (v + 12) = 4) (i10 : ∀ q, q < 5 → I3 (v + 10) q = 10 ∧ I3 (v + 11) q = 200) (i12 : ∀ q, q < 4 → I3 (v + 12) q = 5)
    (L1 : LT S3 P3 (v + 1)) (z1 : I3 (v + 1) 1 = 0) (y1 : ∀ j, I3 (v + 2) j = 0) (L2 : LC S3 P3 (v + 3)) (z2 : I3 (v + 3) 0 = 0) (L3 : LK S3 P3 (v + 13)) (z3 : I3 (v + 13) 0 = 3 ∧ I3 (v + 13) 1 = 0 ∧ I3 (v + 13) 2 = 0) (y3 : ∀ j, j < 6 → I3 (v + 14) j = 20) (w3 : ∀ j, j < 24 → I3 (v + 16) j = kv j ∧ I3 (v + 17) j = -1) (E : EX v S0 S3 P0 P3 I0 I3)
    (h : ∀ S' P' I', VB S' P' I' v → VH S' P' I' v 8 → VP S' P' I' v 24 → sN S' = v + 83 → EX v S0 S' P0 P' I0 I' → Q none S' P' I') : B g MX7_init 66 552 150 [(0, .ref v)] [.ref (v + 13), .ref v] S3 P3 I3 Q := by
  refine s_X7_init_150 (rc := 65) (rs := 528) ⟨hv3, by simp [sA_t, n3, hv3], ?_⟩
  rw [n3]
  have hs4 : ∀ a, a ≠ v + 18 → sT (sA S3 44 24) a = sT S3 a ∧ sL (sA S3 44 24) a = sL S3 a := fun a ha => ⟨by rw [sA_t, n3, if_neg ha], by rw [sA_l, n3, if_neg ha]⟩
  have t18 : sT (sA S3 44 24) (v + 18) = 44 ∧ sL (sA S3 44 24) (v + 18) = 24 := ⟨by rw [sA_t, n3, if_pos rfl], by rw [sA_l, n3, if_pos rfl]⟩
  have n4 : sN (sA S3 44 24) = v + 19 := by rw [sA_n, n3]
  generalize sA S3 44 24 = S4 at hs4 t18 n4 ⊢
  generalize hP4 : p2 (zP (p2 P3 v 9 (v + 13 + 1)) (v + 18)) v 10 (v + 18 + 1) = P4
  generalize hI4 : u2 (u2 (zI I3 (v + 18)) v 11 0) v 12 0 = I4
  have eP4 : ∀ a k, a ≠ v → a ≠ v + 18 → P4 a k = P3 a k := fun a k h1 h2 => by rw [← hP4]; simp [p2, zP, h1, h2]
  have eI4 : ∀ a k, a ≠ v → a ≠ v + 18 → I4 a k = I3 a k := fun a k h1 h2 => by rw [← hI4]; simp [u2, zI, h1, h2]
  have q4 : P4 v 0 = v + 1 + 1 ∧ P4 v 1 = v + 3 + 1 ∧ P4 v 4 = v + 9 + 1 ∧ P4 v 6 = v + 10 + 1 ∧ P4 v 7 = v + 11 + 1 ∧ P4 v 8 = v + 12 + 1 ∧ P4 v 9 = v + 13 + 1 ∧ P4 v 10 = v + 18 + 1 := by
    obtain ⟨a0, a1, a4, a6, a7, a8⟩ := p3
    rw [← hP4]
    simp [p2, zP, a0, a1, a4, a6, a7, a8]
  have j4 : I4 v 2 = 0 ∧ I4 v 3 = -1 ∧ I4 v 5 = 0 ∧ I4 v 11 = 0 ∧ I4 v 12 = 0 := by
    obtain ⟨a2, a3, a5⟩ := i3
    rw [← hI4]
    simp [u2, zI, a2, a3, a5]
  clear hP4 hI4 p3 i3
  have hm : ∀ a, a ≠ v → a ≠ v + 18 → sT S4 a = sT S3 a ∧ sL S4 a = sL S3 a ∧ ∀ k, P4 a k = P3 a k := fun a h1 h2 => ⟨(hs4 a h2).1, (hs4 a h2).2, fun k => eP4 a k h1 h2⟩
  have ne : ∀ d, 0 < d → d < 18 → v + d ≠ v ∧ v + d ≠ v + 18 := fun d h1 h2 => ⟨by omega, by omega⟩
  have im := fun d h1 h2 k => eI4 (v + d) k (ne d h1 h2).1 (ne d h1 h2).2
  have sm := fun d h1 h2 => hs4 (v + d) (ne d h1 h2).2
  refine i7_houses h 8 0 S4 P4 I4 rfl n4 ⟨⟨(hs4 v (by omega)).1.trans hv3, q4⟩, L1.ex (fun a h1 h2 => hm a (by omega) (by omega)), L2.ex (fun a h1 h2 => hm a (by omega) (by omega)), L3.ex (fun a h1 h2 => hm a (by omega) (by omega)), ⟨(sm 9 (by decide) (by decide)).1.trans s9.1, (sm 9 (by decide) (by decide)).2.trans s9.2⟩, ⟨(sm 10 (by decide) (by decide)).1.trans s10.1, (sm 10 (by decide) (by decide)).2.trans s10.2.1, (sm 11 (by decide) (by decide)).1.trans s10.2.2.1, (sm 11 (by decide) (by decide)).2.trans s10.2.2.2.1, (sm 12 (by decide) (by decide)).1.trans s10.2.2.2.2.1, (sm 12 (by decide) (by decide)).2.trans s10.2.2.2.2.2⟩, t18, ⟨j4, ⟨(im 1 (by decide) (by decide) 1).trans z1, fun j => (im 2 (by decide) (by decide) j).trans (y1 j)⟩, (im 3 (by decide) (by decide) 0).trans z2, ⟨(im 13 (by decide) (by decide) 0).trans z3.1, (im 13 (by decide) (by decide) 1).trans z3.2.1, (im 13 (by decide) (by decide) 2).trans z3.2.2⟩, fun j hj => (im 14 (by decide) (by decide) j).trans (y3 j hj), fun j hj => ⟨(im 16 (by decide) (by decide) j).trans (w3 j hj).1, (im 17 (by decide) (by decide) j).trans (w3 j hj).2⟩, fun j hj => ⟨(im 10 (by decide) (by decide) j).trans (i10 j hj).1, (im 11 (by decide) (by decide) j).trans (i10 j hj).2⟩, fun j hj => (im 12 (by decide) (by decide) j).trans (i12 j hj)⟩⟩ (fun j hj => absurd hj (Nat.not_lt_zero j)) (fun a ha => ?_)
  obtain ⟨b1, b2, b3, b4⟩ := E a ha
  have h0 : a ≠ v := by omega
  have h18 : a ≠ v + 18 := by omega
  exact ⟨(hs4 a h18).1.trans b1, (hs4 a h18).2.trans b2, fun k => (eP4 a k h0 h18).trans (b3 k), fun k => (eI4 a k h0 h18).trans (b4 k)⟩
/-- the facts of a village half made, at its kiln's making -/
def VG (S : ST) (P : PT) (I : IT) (v : Nat) : Prop :=
  sT S v = 8 ∧ (P v 0 = v + 1 + 1 ∧ P v 1 = v + 3 + 1 ∧ P v 4 = v + 9 + 1 ∧ P v 6 = v + 10 + 1 ∧ P v 7 = v + 11 + 1 ∧ P v 8 = v + 12 + 1) ∧ (I v 2 = 0 ∧ I v 3 = -1 ∧ I v 5 = 0) ∧
  (sT S (v + 9) = 43 ∧ sL S (v + 9) = 8) ∧ (sT S (v + 10) = 40 ∧ sL S (v + 10) = 5 ∧ sT S (v + 11) = 40 ∧ sL S (v + 11) = 5 ∧ sT S (v + 12) = 40 ∧ sL S (v + 12) = 4) ∧ (∀ q, q < 5 → I (v + 10) q = 10 ∧ I (v + 11) q = 200) ∧ (∀ q, q < 4 → I (v + 12) q = 5) ∧
  LT S P (v + 1) ∧ I (v + 1) 1 = 0 ∧ (∀ j, I (v + 2) j = 0) ∧ LC S P (v + 3) ∧ I (v + 3) 0 = 0
theorem VG.mv {S S' : ST} {P P' : PT} {I I' : IT} (h : VG S P I v) (e : EX (v + 13) S S' P P' I I') : VG S' P' I' v := by
  obtain ⟨h1, ⟨a0, a1, a4, a6, a7, a8⟩, ⟨i2, i3, i5⟩, ⟨s1, s2⟩, ⟨t1, t2, t3, t4, t5, t6⟩, q1, q2, L1, z1, y1, L2, z2⟩ := h
  have z := e v (by omega)
  have s := fun d (hd : d < 13) => e (v + d) (by omega)
  exact ⟨z.1.trans h1, ⟨(z.2.2.1 _).trans a0, (z.2.2.1 _).trans a1, (z.2.2.1 _).trans a4, (z.2.2.1 _).trans a6, (z.2.2.1 _).trans a7, (z.2.2.1 _).trans a8⟩, ⟨(z.2.2.2 _).trans i2, (z.2.2.2 _).trans i3, (z.2.2.2 _).trans i5⟩, ⟨(s 9 (by omega)).1.trans s1, (s 9 (by omega)).2.1.trans s2⟩, ⟨(s 10 (by omega)).1.trans t1, (s 10 (by omega)).2.1.trans t2, (s 11 (by omega)).1.trans t3, (s 11 (by omega)).2.1.trans t4, (s 12 (by omega)).1.trans t5, (s 12 (by omega)).2.1.trans t6⟩, fun q hq => ⟨((s 10 (by omega)).2.2.2 q).trans (q1 q hq).1, ((s 11 (by omega)).2.2.2 q).trans (q1 q hq).2⟩, fun q hq => ((s 12 (by omega)).2.2.2 q).trans (q2 q hq), L1.ex (fun a h1 h2 => ⟨(e a (by omega)).1, (e a (by omega)).2.1, (e a (by omega)).2.2.1⟩), ((s 1 (by omega)).2.2.2 1).trans z1, fun j => ((s 2 (by omega)).2.2.2 j).trans (y1 j), L2.ex (fun a h1 h2 => ⟨(e a (by omega)).1, (e a (by omega)).2.1, (e a (by omega)).2.2.1⟩), ((s 3 (by omega)).2.2.2 0).trans z2⟩
theorem i7_k {Sg : ST} {Pg : PT} {Ig : IT} (nG : sN Sg = v + 14) (tG : sT Sg (v + 13) = 3) (hG : VG Sg Pg Ig v) (E : EX v S0 Sg P0 Pg I0 Ig)
    (h : ∀ S' P' I', VB S' P' I' v → VH S' P' I' v 8 → VP S' P' I' v 24 → sN S' = v + 83 → EX v S0 S' P0 P' I0 I' → Q none S' P' I') : T g MX2_init 4 60 [.ref (v + 13)] Sg Pg Ig (fun r S' P' I' => B g MX7_init 66 552 150 [(0, .ref v)] (r.toList ++ [.ref (v + 13), .ref v]) S' P' I' Q) := by
  refine t_init2 tG nG (fun S3 P3 I3 n3 L3 z3 y3 w3 E3 => ?_)
  obtain ⟨h1, p3, i3, s9, s10, i10, i12, L1, z1, y1, L2, z2⟩ := hG.mv E3
  exact i7_end n3 h1 p3 i3 s9 s10 i10 i12 L1 z1 y1 L2 z2 L3 z3 y3 w3 (E.tr E3 (by omega)) h
theorem i7_mid {S2 : ST} {P2 : PT} {I2 : IT} (n2 : sN S2 = v + 9) (hv2 : sT S2 v = 8) (p20 : P2 v 0 = v + 1 + 1) (L1 : LT S2 P2 (v + 1)) (z1 : I2 (v + 1) 1 = 0) (y1 : ∀ j, I2 (v + 2) j = 0) (L2 : LC S2 P2 (v + 3)) (z2 : I2 (v + 3) 0 = 0) (E : EX v S0 S2 P0 P2 I0 I2)
    (h : ∀ S' P' I', VB S' P' I' v → VH S' P' I' v 8 → VP S' P' I' v 24 → sN S' = v + 83 → EX v S0 S' P0 P' I0 I' → Q none S' P' I') : B g MX7_init 75 641 23 [(0, .ref v)] [.ref (v + 3), .ref v] S2 P2 I2 Q := by
  have eA : sN (sA S2 43 8) = v + 10 := by rw [sA_n, n2]
  have eB : sN (sA (sA S2 43 8) 40 5) = v + 11 := by rw [sA_n, eA]
  have eC : sN (sA (sA (sA S2 43 8) 40 5) 40 5) = v + 12 := by rw [sA_n, eB]
  have eD : sN (sA (sA (sA (sA S2 43 8) 40 5) 40 5) 40 4) = v + 13 := by rw [sA_n, eC]
  refine s_X7_init_23 (rc := 66) (rs := 552) ⟨hv2, hv2, by simp [sA_t, n2, hv2], 0, ixe (n := 5) rfl (by rw [sA_l, if_pos rfl]) (by decide) (by decide), 1, ixe (n := 5) rfl (by rw [sA_l, if_pos rfl]) (by decide) (by decide), 2, ixe (n := 5) rfl (by rw [sA_l, if_pos rfl]) (by decide) (by decide), 3, ixe (n := 5) rfl (by rw [sA_l, if_pos rfl]) (by decide) (by decide), 4, ixe (n := 5) rfl (by rw [sA_l, if_pos rfl]) (by decide) (by decide), by simp [sA_t, eA, n2, hv2], 0, ixe (n := 5) rfl (by rw [sA_l, if_pos rfl]) (by decide) (by decide), 1, ixe (n := 5) rfl (by rw [sA_l, if_pos rfl]) (by decide) (by decide), 2, ixe (n := 5) rfl (by rw [sA_l, if_pos rfl]) (by decide) (by decide), 3, ixe (n := 5) rfl (by rw [sA_l, if_pos rfl]) (by decide) (by decide), 4, ixe (n := 5) rfl (by rw [sA_l, if_pos rfl]) (by decide) (by decide), by simp [sA_t, eA, eB, n2, hv2], 0, ixe (n := 4) rfl (by rw [sA_l, if_pos rfl]) (by decide) (by decide), 1, ixe (n := 4) rfl (by rw [sA_l, if_pos rfl]) (by decide) (by decide), 2, ixe (n := 4) rfl (by rw [sA_l, if_pos rfl]) (by decide) (by decide), 3, ixe (n := 4) rfl (by rw [sA_l, if_pos rfl]) (by decide) (by decide), by simp [sA_t, eA, eB, eC, n2, hv2], ?_⟩
  rw [eD, eC, eB, eA, n2]
  have ht : ∀ a, sT (sA (sA (sA (sA (sA S2 43 8) 40 5) 40 5) 40 4) 3 0) a = if a = v + 13 then 3 else if a = v + 12 then 40 else if a = v + 11 then 40 else if a = v + 10 then 40 else if a = v + 9 then 43 else sT S2 a := fun a => by simp only [sA_t, eD, eC, eB, eA, n2]
  have hl : ∀ a, sL (sA (sA (sA (sA (sA S2 43 8) 40 5) 40 5) 40 4) 3 0) a = if a = v + 13 then 0 else if a = v + 12 then 4 else if a = v + 11 then 5 else if a = v + 10 then 5 else if a = v + 9 then 8 else sL S2 a := fun a => by simp only [sA_l, eD, eC, eB, eA, n2]
  have nG : sN (sA (sA (sA (sA (sA S2 43 8) 40 5) 40 5) 40 4) 3 0) = v + 14 := by rw [sA_n, eD]
  generalize sA (sA (sA (sA (sA S2 43 8) 40 5) 40 5) 40 4) 3 0 = Sg at ht hl nG ⊢
  clear eA eB eC eD
  have lo : ∀ a, a < v + 9 → sT Sg a = sT S2 a ∧ sL Sg a = sL S2 a := fun a ha => ⟨by rw [ht, if_neg (by omega), if_neg (by omega), if_neg (by omega), if_neg (by omega), if_neg (by omega)], by rw [hl, if_neg (by omega), if_neg (by omega), if_neg (by omega), if_neg (by omega), if_neg (by omega)]⟩
  generalize hPg : zP (p2 (zP (p2 (zP (p2 (zP (p2 (zP (p2 P2 v 1 (v + 3 + 1)) (v + 9)) v 4 (v + 9 + 1)) (v + 10)) v 6 (v + 10 + 1)) (v + 11)) v 7 (v + 11 + 1)) (v + 12)) v 8 (v + 12 + 1)) (v + 13) = Pg
  generalize hIg : zI (u2 (u2 (u2 (u2 (zI (u2 (u2 (u2 (u2 (u2 (zI (u2 (u2 (u2 (u2 (u2 (zI (u2 (zI (u2 (u2 I2 v 2 0) v 3 (-1)) (v + 9)) v 5 0) (v + 10)) (v + 10) 0 10) (v + 10) 1 10) (v + 10) 2 10) (v + 10) 3 10) (v + 10) 4 10) (v + 11)) (v + 11) 0 200) (v + 11) 1 200) (v + 11) 2 200) (v + 11) 3 200) (v + 11) 4 200) (v + 12)) (v + 12) 0 5) (v + 12) 1 5) (v + 12) 2 5) (v + 12) 3 5) (v + 13) = Ig
  have ep : ∀ a k, a < v + 9 → a ≠ v → Pg a k = P2 a k := fun a k h1 h2 => by
    have n9 : a ≠ v + 9 := by omega
    have n10 : a ≠ v + 10 := by omega
    have n11 : a ≠ v + 11 := by omega
    have n12 : a ≠ v + 12 := by omega
    have n13 : a ≠ v + 13 := by omega
    rw [← hPg]
    simp [zP, p2, h2, n9, n10, n11, n12, n13]
  have ei : ∀ a k, a < v + 9 → a ≠ v → Ig a k = I2 a k := fun a k h1 h2 => by
    have n9 : a ≠ v + 9 := by omega
    have n10 : a ≠ v + 10 := by omega
    have n11 : a ≠ v + 11 := by omega
    have n12 : a ≠ v + 12 := by omega
    have n13 : a ≠ v + 13 := by omega
    rw [← hIg]
    simp [zI, u2, h2, n9, n10, n11, n12, n13]
  have p3 : Pg v 0 = v + 1 + 1 ∧ Pg v 1 = v + 3 + 1 ∧ Pg v 4 = v + 9 + 1 ∧ Pg v 6 = v + 10 + 1 ∧ Pg v 7 = v + 11 + 1 ∧ Pg v 8 = v + 12 + 1 := by
    rw [← hPg]
    simp [zP, p2, p20]
  have i3 : Ig v 2 = 0 ∧ Ig v 3 = -1 ∧ Ig v 5 = 0 := by
    rw [← hIg]
    simp [zI, u2]
  have i10 : ∀ q, q < 5 → Ig (v + 10) q = 10 ∧ Ig (v + 11) q = 200 := by
    intro q hq
    rw [← hIg]
    rcases (show q = 0 ∨ q = 1 ∨ q = 2 ∨ q = 3 ∨ q = 4 by omega) with rfl | rfl | rfl | rfl | rfl <;> simp [zI, u2]
  have i12 : ∀ q, q < 4 → Ig (v + 12) q = 5 := by
    intro q hq
    rw [← hIg]
    rcases (show q = 0 ∨ q = 1 ∨ q = 2 ∨ q = 3 by omega) with rfl | rfl | rfl | rfl <;> simp [zI, u2]
  clear hPg hIg
  refine i7_k nG (by simp [ht]) ⟨(lo v (by omega)).1.trans hv2, p3, i3, ⟨by simp [ht], by simp [hl]⟩, ⟨by simp [ht], by simp [hl], by simp [ht], by simp [hl], by simp [ht], by simp [hl]⟩, i10, i12, L1.ex (fun a h1 h2 => ⟨(lo a (by omega)).1, (lo a (by omega)).2, fun k => ep a k (by omega) (by omega)⟩), (ei _ _ (by omega) (by omega)).trans z1, fun j => (ei _ _ (by omega) (by omega)).trans (y1 j), L2.ex (fun a h1 h2 => ⟨(lo a (by omega)).1, (lo a (by omega)).2, fun k => ep a k (by omega) (by omega)⟩), (ei _ _ (by omega) (by omega)).trans z2⟩ (fun a ha => ?_) h
  obtain ⟨b1, b2, b3, b4⟩ := E a ha
  exact ⟨(lo a (by omega)).1.trans b1, (lo a (by omega)).2.trans b2, fun k => (ep a k (by omega) (by omega)).trans (b3 k), fun k => (ei a k (by omega) (by omega)).trans (b4 k)⟩
theorem t_init7 (hv : sT S v = 8) (hn : sN S = v + 1) (h : ∀ S' P' I', VB S' P' I' v → VH S' P' I' v 8 → VP S' P' I' v 24 → sN S' = v + 83 → EX v S S' P P' I I' → Q none S' P' I') : T g MX7_init 83 1117 [.ref v] S P I Q := by
  refine T_of rfl (Nat.le_of_ble_eq_true rfl) (s_X7_init_0 (rc := 81) (rs := 815) ?_)
  rw [hn]
  refine t_init5 (by rw [sA_t, hn, if_pos rfl]) (by rw [sA_n, hn]) (fun S1 P1 I1 n1 L1 z1 y1 E1 => ?_)
  have n1' : sN S1 = v + 3 := n1
  have hs1 : ∀ a, a < v + 1 → sT S1 a = sT S a ∧ sL S1 a = sL S a ∧ (∀ k, P1 a k = P a k) ∧ ∀ k, I1 a k = I a k := fun a ha => by
    obtain ⟨b1, b2, b3, b4⟩ := E1 a ha
    have ne : a ≠ v + 1 := by omega
    exact ⟨b1.trans (by rw [sA_t, hn, if_neg ne]), b2.trans (by rw [sA_l, hn, if_neg ne]), fun k => (b3 k).trans (by simp [zP, ne]), fun k => (b4 k).trans (by simp [zI, ne])⟩
  have hv1 : sT S1 v = 8 := (hs1 v (by omega)).1.trans hv
  clear E1 n1 hv hn
  refine s_X7_init_12 (rc := 75) (rs := 641) ⟨hv1, ?_⟩
  rw [n1']
  refine t_init0 (by rw [sA_t, n1', if_pos rfl]) (by rw [sA_n, n1']) (fun S2 P2 I2 n2 L2 z2 E2 => ?_)
  have hs2 : ∀ a, a < v + 3 → sT S2 a = sT S1 a ∧ sL S2 a = sL S1 a ∧ (∀ k, (a ≠ v ∨ k ≠ 0) → P2 a k = P1 a k) ∧ ∀ k, I2 a k = I1 a k := fun a ha => by
    obtain ⟨b1, b2, b3, b4⟩ := E2 a ha
    have ne : a ≠ v + 3 := by omega
    refine ⟨b1.trans (by rw [sA_t, n1', if_neg ne]), b2.trans (by rw [sA_l, n1', if_neg ne]), fun k hk => (b3 k).trans ?_, fun k => (b4 k).trans (by simp [zI, ne])⟩
    have : ¬ (a = v ∧ k = 0) := fun z => hk.elim (fun t => t z.1) (fun t => t z.2)
    simp [zP, p2, ne, this]
  have hp20 : P2 v 0 = v + 1 + 1 := by rw [(E2 v (by omega)).2.2.1]; simp [zP, p2]
  have hv2 : sT S2 v = 8 := (hs2 v (by omega)).1.trans hv1
  clear E2 n1'
  have ll : ∀ a, v + 1 ≤ a → a < v + 1 + 2 → a < v + 3 ∧ a ≠ v := fun a h1 h2 => ⟨by omega, by omega⟩
  exact i7_mid n2 hv2 hp20 (L1.ex (fun a h1 h2 => ⟨(hs2 a (ll a h1 h2).1).1, (hs2 a (ll a h1 h2).1).2.1, fun k => (hs2 a (ll a h1 h2).1).2.2.1 k (Or.inl (ll a h1 h2).2)⟩)) (((hs2 _ (by omega)).2.2.2 _).trans z1) (fun j => ((hs2 _ (by omega)).2.2.2 j).trans (y1 j)) L2 z2 (fun a ha => by
    obtain ⟨b1, b2, b3, b4⟩ := hs1 a (by omega)
    obtain ⟨c1, c2, c3, c4⟩ := hs2 a (by omega)
    have h0 : a ≠ v := by omega
    exact ⟨c1.trans b1, c2.trans b2, fun k => (c3 k (Or.inl h0)).trans (b3 k), fun k => (c4 k).trans (b4 k)⟩) h
end INITV
