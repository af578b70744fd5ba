theorem zP_a {P : PT} {a b k : Nat} (h : b ≠ a) : zP P a b k = P b k := by simp [zP, h]
theorem zI_a {I : IT} {a b k : Nat} (h : b ≠ a) : zI I a b k = I b k := by simp [zI, h]
theorem p2_s (P : PT) (a k x : Nat) : p2 P a k x a k = x := by simp [p2]
theorem p2_k {P : PT} {a k x b j : Nat} (h : j ≠ k) : p2 P a k x b j = P b j := by simp [p2, h]
theorem p2_a {P : PT} {a k x b j : Nat} (h : b ≠ a) : p2 P a k x b j = P b j := by simp [p2, h]
def WV (I : IT) (v : Nat) : Prop := VI I v ∧ (∀ j, j < 8 → I (hA v j) 0 = 0 ∧ I (hA v j) 1 = 0 ∧ I (hA v j) 2 = 0 ∧ I (hA v j) 3 = 0 ∧ I (hA v j) 4 = 0) ∧ ∀ j, j < 24 → I (pA v j) 6 = 0
def AI (A : Nat → Int32) : Prop := (A 9 = -1 ∧ A 2 = 3) ∧ (∀ c, c < 6 → A (10 + c) = 20) ∧ (∀ k, k < 24 → A (16 + k) = kv k) ∧ (∀ s, s < 5 → A (40 + 2 * s) = 10 ∧ A (41 + 2 * s) = 200) ∧ (∀ q, q < 4 → A (50 + q) = 5) ∧ ∀ k, k < 9 → k ≠ 2 → A k = 0
def LY (S : ST) (P : PT) (x : Nat) : Prop :=
  (sT S x = 9 ∧ P x 0 = x + 1 + 1 ∧ P x 1 = x + 84 + 1 ∧ P x 2 = x + 95 + 1) ∧ LV S P (x + 1) ∧
  (sT S (x + 84) = 5 ∧ P (x + 84) 0 = x + 85 + 1 ∧ P (x + 84) 3 = x + 91 + 1) ∧ LC S P (x + 85) ∧
  ((sT S (x + 91) = 7 ∧ P (x + 91) 0 = x + 2 + 1 ∧ P (x + 91) 1 = x + 92 + 1 ∧ P (x + 91) 2 = x + 93 + 1 ∧ P (x + 91) 3 = x + 94 + 1) ∧ (sT S (x + 92) = 40 ∧ sL S (x + 92) = 301 ∧ sT S (x + 93) = 40 ∧ sL S (x + 93) = 301 ∧ sT S (x + 94) = 40 ∧ sL S (x + 94) = 301)) ∧
  (sT S (x + 95) = 45 ∧ sL S (x + 95) = 3)
section INIT2
variable {g : GT} {S S' : ST} {P P' : PT} {I I' J : IT} {Q : QT} {x v w n m : Nat} {A A' : Nat → Int32}
theorem LV.ex (h : LV S P v) (hS : ∀ a, v ≤ a → a < v + 83 → sT S' a = sT S a ∧ sL S' a = sL S a ∧ ∀ k, P' a k = P a k) : LV S' P' v := by
  obtain ⟨⟨a0, a1, a2, a3, a4, a5, a6, a7, a8⟩, b, c, d, ⟨e1, e2, e3⟩, ⟨f1, f2, f3, f4, f5, f6⟩, ⟨g1, g2, g3⟩⟩ := h
  have z := hS v (by omega) (by omega)
  have p0 := z.2.2
  have s := fun d (hd : d < 83) => hS (v + d) (by omega) (by omega)
  refine ⟨⟨z.1.trans a0, (p0 _).trans a1, (p0 _).trans a2, (p0 _).trans a3, (p0 _).trans a4, (p0 _).trans a5, (p0 _).trans a6, (p0 _).trans a7, (p0 _).trans a8⟩, b.ex (fun a h1 h2 => hS a (by omega) (by omega)), c.ex (fun a h1 h2 => hS a (by omega) (by omega)), d.ex (fun a h1 h2 => hS a (by omega) (by omega)), ⟨(s 9 (by omega)).1.trans e1, (s 9 (by omega)).2.1.trans e2, fun i hi => ⟨((s 9 (by omega)).2.2 i).trans (e3 i hi).1, (e3 i hi).2.ex (fun a h1 h2 => hS a (by unfold hA at h1; omega) (by unfold hA at h2; omega))⟩⟩, ⟨(s 10 (by omega)).1.trans f1, (s 10 (by omega)).2.1.trans f2, (s 11 (by omega)).1.trans f3, (s 11 (by omega)).2.1.trans f4, (s 12 (by omega)).1.trans f5, (s 12 (by omega)).2.1.trans f6⟩, ⟨(s 18 (by omega)).1.trans g1, (s 18 (by omega)).2.1.trans g2, fun i hi => ⟨((s 18 (by omega)).2.2 i).trans (g3 i hi).1, (hS (pA v i) (by unfold pA; omega) (by unfold pA; omega)).1.trans (g3 i hi).2⟩⟩⟩
theorem LM.ex (h : LM S P m) (hS : ∀ a, m ≤ a → a < m + 6 → sT S' a = sT S a ∧ sL S' a = sL S a ∧ ∀ k, P' a k = P a k) : LM S' P' m := by
  obtain ⟨⟨a1, a2, a3, a4⟩, ⟨b1, b2, b3⟩, ⟨c1, c2, c3⟩, ⟨d1, d2, d3⟩, ⟨e1, e2, e3⟩⟩ := h
  have z := hS m (by omega) (by omega)
  have p0 := z.2.2
  have s := fun d (hd : d < 6) => hS (m + d) (by omega) (by omega)
  exact ⟨⟨z.1.trans a1, (p0 _).trans a2, (s 1 (by omega)).1.trans a3, (s 1 (by omega)).2.1.trans a4⟩, ⟨(p0 _).trans b1, (s 2 (by omega)).1.trans b2, (s 2 (by omega)).2.1.trans b3⟩, ⟨(p0 _).trans c1, (s 3 (by omega)).1.trans c2, (s 3 (by omega)).2.1.trans c3⟩, ⟨(p0 _).trans d1, (s 4 (by omega)).1.trans d2, (s 4 (by omega)).2.1.trans d3⟩, ⟨(p0 _).trans e1, (s 5 (by omega)).1.trans e2, (s 5 (by omega)).2.1.trans e3⟩⟩
theorem LY.ex (h : LY S P x) (hS : ∀ a, x ≤ a → a < x + 96 → sT S' a = sT S a ∧ sL S' a = sL S a ∧ (a ≠ x + 95 → ∀ k, P' a k = P a k)) : LY S' P' x := by
  obtain ⟨⟨a0, a1, a2, a3⟩, b, ⟨c1, c2, c3⟩, d, ⟨⟨e1, e2, e3, e4, e5⟩, ⟨f1, f2, f3, f4, f5, f6⟩⟩, ⟨g1, g2⟩⟩ := h
  have s := fun d (hd : d < 96) => hS (x + d) (by omega) (by omega)
  have z := hS x (by omega) (by omega)
  have p0 := z.2.2 (by omega)
  have p84 := (s 84 (by omega)).2.2 (by omega)
  have p91 := (s 91 (by omega)).2.2 (by omega)
  have q : ∀ a, x ≤ a → a < x + 95 → sT S' a = sT S a ∧ sL S' a = sL S a ∧ ∀ k, P' a k = P a k := fun a h1 h2 => ⟨(hS a h1 (by omega)).1, (hS a h1 (by omega)).2.1, (hS a h1 (by omega)).2.2 (by omega)⟩
  exact ⟨⟨z.1.trans a0, (p0 _).trans a1, (p0 _).trans a2, (p0 _).trans a3⟩, b.ex (fun a h1 h2 => q a (by omega) (by omega)), ⟨(s 84 (by omega)).1.trans c1, (p84 _).trans c2, (p84 _).trans c3⟩, d.ex (fun a h1 h2 => q a (by omega) (by omega)), ⟨⟨(s 91 (by omega)).1.trans e1, (p91 _).trans e2, (p91 _).trans e3, (p91 _).trans e4, (p91 _).trans e5⟩, ⟨(s 92 (by omega)).1.trans f1, (s 92 (by omega)).2.1.trans f2, (s 93 (by omega)).1.trans f3, (s 93 (by omega)).2.1.trans f4, (s 94 (by omega)).1.trans f5, (s 94 (by omega)).2.1.trans f6⟩⟩, ⟨(s 95 (by omega)).1.trans g1, (s 95 (by omega)).2.1.trans g2⟩⟩
theorem LX.ly (h : LX S P x) : LY S P x ∧ LM S P (x + 96) ∧ x + 102 ≤ sN S := ⟨⟨h.1, h.2.1, h.2.2.1, h.2.2.2.1, h.2.2.2.2.1, h.2.2.2.2.2.1⟩, h.2.2.2.2.2.2.1, h.2.2.2.2.2.2.2⟩
theorem LX.of (h : LY S P x) (hm : LM S P (x + 96)) (hn : x + 102 ≤ sN S) : LX S P x := ⟨h.1, h.2.1, h.2.2.1, h.2.2.2.1, h.2.2.2.2.1, h.2.2.2.2.2, hm, hn⟩
theorem LX.ex (h : LX S P x) (hS : ∀ a, x ≤ a → a < x + 102 → sT S' a = sT S a ∧ sL S' a = sL S a ∧ (a ≠ x + 95 → ∀ k, P' a k = P a k)) (hn : x + 102 ≤ sN S') : LX S' P' x :=
  LX.of (h.ly.1.ex (fun a h1 h2 => hS a h1 (by omega))) (h.ly.2.1.ex (fun a h1 h2 => ⟨(hS a (by omega) (by omega)).1, (hS a (by omega) (by omega)).2.1, (hS a (by omega) (by omega)).2.2 (by omega)⟩)) hn
theorem WV.mv (h : WV I v) (hI : ∀ a k, v ≤ a → a < v + 83 → I' a k = I a k) : WV I' v := by
  obtain ⟨h1, h2, h3⟩ := h
  refine ⟨h1.mv (fun a k q1 q2 => hI a k q1 (by omega)), fun j hj => ?_, fun j hj => by rw [hI _ _ (by unfold pA; omega) (by unfold pA; omega)]; exact h3 j hj⟩
  have e := fun k => hI (hA v j) k (by unfold hA; omega) (by unfold hA; omega)
  rw [e, e, e, e, e]; exact h2 j hj
theorem t_init7v (hv : sT S v = 8) (hn : sN S = v + 1) (h : ∀ S' P' I', LV S' P' v → WV I' v → sN S' = v + 83 → EX v S S' P P' I I' → Q none S' P' I') : T g MX7_init 83 1117 [.ref v] S P I Q := by
  refine t_init7 hv hn (fun S1 P1 I1 b1 h1 p1 n1 E1 => h S1 P1 I1 ?_ ⟨b1.2.2.2.2.2.2.2, fun j hj => (h1 j hj).2.2, fun j hj => (p1 j hj).2.2⟩ n1 E1)
  obtain ⟨b0, b1, b2, b3, b4, b5, b6, b7⟩ := b1
  exact ⟨b0, b1, b2, b3, ⟨b4.1, b4.2, fun i hi => ⟨(h1 i hi).1, (h1 i hi).2.1⟩⟩, b5, ⟨b6.1, b6.2, fun i hi => ⟨(p1 i hi).1, (p1 i hi).2.1⟩⟩⟩
theorem t_init8 (hx : sT S x = 9) (hn : sN S = x + 1) (h : ∀ S' P' I', sN S' = x + 96 → LY S' P' x → WV I' (x + 1) → (∀ k, P' (x + 95) k = 0) → EX x S S' P P' I I' → Q none S' P' I') : T g MX8_init 96 2222 [.ref x] S P I Q := by
  refine T_of rfl (Nat.le_of_ble_eq_true rfl) (s_X8_init_0 (rc := 12) (rs := 1092) ?_)
  rw [hn]
  refine t_init7v (by rw [sA_t, hn, if_pos rfl]) (by rw [sA_n, hn]) (fun S1 P1 I1 L1 w1 n1 E1 => ?_)
  have n1' : sN S1 = x + 84 := n1
  have hs1 : ∀ a, a < x + 1 → sT S1 a = sT S a ∧ sL S1 a = sL S a ∧ (∀ k, P1 a k = P a k) ∧ ∀ k, I1 a k = I a k := fun a ha => by
    obtain ⟨b1, b2, b3, b4⟩ := E1 a ha
    have ne : a ≠ x + 1 := by omega
    exact ⟨b1.trans (by rw [sA_t, hn, if_neg ne]), b2.trans (by rw [sA_l, hn, if_neg ne]), fun k => (b3 k).trans (zP_a ne), fun k => (b4 k).trans (zI_a ne)⟩
  have hx1 : sT S1 x = 9 := (hs1 x (by omega)).1.trans hx
  have t5 : ∀ a, a ≠ x + 84 → sT (sA S1 5 0) a = sT S1 a ∧ sL (sA S1 5 0) a = sL S1 a := fun a ha => ⟨by rw [sA_t, n1', if_neg ha], by rw [sA_l, n1', if_neg ha]⟩
  refine s_X8_init_12 (rc := 1) (rs := 3) ⟨hx1, (t5 x (by omega)).1.trans hx1, x + 1, ?_, (t5 _ (by omega)).1.trans L1.t, x + 2, ?_, ?_⟩
  · rw [zP_a (by omega), p2_s]
  · rw [zP_a (by omega), p2_a (by omega)]; exact L1.p0
  rw [n1']
  refine t_init4 (c := x + 84) (t := x + 2) (by rw [sA_t, n1', if_pos rfl]) (by rw [sA_n, n1']) (fun S2 P2 I2 n2 R2 L2 K2 E2 => ?_)
  have n2' : sN S2 = x + 95 := n2
  have hs2 : ∀ a, a < x + 84 → sT S2 a = sT S1 a ∧ sL S2 a = sL S1 a ∧ (∀ k, (a ≠ x ∨ k ≠ 0) → P2 a k = P1 a k) ∧ ∀ k, I2 a k = I1 a k := fun a ha => by
    obtain ⟨b1, b2, b3, b4⟩ := E2 a ha
    refine ⟨b1.trans (t5 a (by omega)).1, b2.trans (t5 a (by omega)).2, fun k hk => (b3 k).trans ((zP_a (by omega)).trans ?_), fun k => (b4 k).trans (zI_a (by omega))⟩
    exact hk.elim (fun z => p2_a z) (fun z => p2_k z)
  have p20 : P2 x 0 = x + 1 + 1 := ((E2 x (by omega)).2.2.1 0).trans ((zP_a (by omega)).trans (p2_s _ _ _ _))
  have hx2 : sT S2 x = 9 := (hs2 x (by omega)).1.trans hx1
  have t45 : ∀ a, a ≠ x + 95 → sT (sA S2 45 3) a = sT S2 a ∧ sL (sA S2 45 3) a = sL S2 a := fun a ha => ⟨by rw [sA_t, n2', if_neg ha], by rw [sA_l, n2', if_neg ha]⟩
  refine s_X8_init_30 (rc := 0) (rs := 0) ⟨hx2, (t45 x (by omega)).1.trans hx2, ?_⟩
  rw [n2']
  generalize hP3 : p2 (zP (p2 P2 x 1 (x + 84 + 1)) (x + 95)) x 2 (x + 95 + 1) = P3
  have eP : ∀ a k, a ≠ x → a ≠ x + 95 → P3 a k = P2 a k := fun a k h1 h2 => by rw [← hP3, p2_a h1, zP_a h2, p2_a h1]
  have e84 : ∀ a, x < a → a < x + 95 → sT (sA S2 45 3) a = sT S2 a ∧ sL (sA S2 45 3) a = sL S2 a ∧ ∀ k, P3 a k = P2 a k := fun a h1 h2 => ⟨(t45 a (by omega)).1, (t45 a (by omega)).2, fun k => eP a k (by omega) (by omega)⟩
  refine h _ _ _ (by rw [sA_n, n2']) ⟨⟨(t45 x (by omega)).1.trans hx2, ?_, ?_, ?_⟩, L1.ex (fun a h1 h2 => ⟨(e84 a (by omega) (by omega)).1.trans (hs2 a (by omega)).1, (e84 a (by omega) (by omega)).2.1.trans (hs2 a (by omega)).2.1, fun k => ((e84 a (by omega) (by omega)).2.2 k).trans ((hs2 a (by omega)).2.2.1 k (Or.inl (by omega)))⟩), ⟨(e84 _ (by omega) (by omega)).1.trans R2.1, ((e84 _ (by omega) (by omega)).2.2 _).trans R2.2.1, ((e84 _ (by omega) (by omega)).2.2 _).trans R2.2.2⟩, L2.ex (fun a h1 h2 => e84 a (by omega) (by omega)), ⟨⟨(e84 _ (by omega) (by omega)).1.trans K2.1.1, ((e84 _ (by omega) (by omega)).2.2 _).trans K2.1.2.1, ((e84 _ (by omega) (by omega)).2.2 _).trans K2.1.2.2.1, ((e84 _ (by omega) (by omega)).2.2 _).trans K2.1.2.2.2.1, ((e84 _ (by omega) (by omega)).2.2 _).trans K2.1.2.2.2.2⟩, ⟨(e84 _ (by omega) (by omega)).1.trans K2.2.1, (e84 _ (by omega) (by omega)).2.1.trans K2.2.2.1, (e84 _ (by omega) (by omega)).1.trans K2.2.2.2.1, (e84 _ (by omega) (by omega)).2.1.trans K2.2.2.2.2.1, (e84 _ (by omega) (by omega)).1.trans K2.2.2.2.2.2.1, (e84 _ (by omega) (by omega)).2.1.trans K2.2.2.2.2.2.2⟩⟩, ⟨by rw [sA_t, n2', if_pos rfl], by rw [sA_l, n2', if_pos rfl]⟩⟩ (w1.mv (fun a k h1 h2 => (zI_a (by omega)).trans ((hs2 a (by omega)).2.2.2 k))) (fun k => ?_) (fun a ha => ?_)
  · rw [← hP3, p2_k (by decide), zP_a (by omega), p2_k (by decide)]; exact p20
  · rw [← hP3, p2_k (by decide), zP_a (by omega), p2_s]
  · rw [← hP3, p2_s]
  · rw [← hP3, p2_a (by omega)]; simp [zP]
  · obtain ⟨b1, b2, b3, b4⟩ := hs1 a (by omega)
    obtain ⟨c1, c2, c3, c4⟩ := hs2 a (by omega)
    exact ⟨(t45 a (by omega)).1.trans (c1.trans b1), (t45 a (by omega)).2.trans (c2.trans b2), fun k => (eP a k (by omega) (by omega)).trans ((c3 k (Or.inl (by omega))).trans (b3 k)), fun k => (zI_a (by omega)).trans ((c4 k).trans (b4 k))⟩
theorem t_init9_b (hL : LM S P m) (h : ∀ J : IT, (∀ q, q < 4 → J (m + 1) (50 + q) = 5) → J (m + 1) 2 = 3 → (∀ j, j < 6 → J (m + 1) (10 + j) = 20) → (∀ k, k < 24 → J (m + 1) (16 + k) = kv k) → (∀ k, k ≠ 2 → (k < 10 ∨ 40 ≤ k) → (k < 50 ∨ 54 ≤ k) → J (m + 1) k = I (m + 1) k) → (∀ a k, a ≠ m + 1 → J a k = I a k) → Q none S P J) : B g MX9_init 0 0 96 [(0, .ref m), (1, .int 0)] [] S P I Q := by
  have loop : ∀ n i K, i + n = 4 → (∀ q, q < i → K (m + 1) (50 + q) = 5) → (∀ k, (k < 50 ∨ 54 ≤ k) → K (m + 1) k = I (m + 1) k) → (∀ a k, a ≠ m + 1 → K a k = I a k) → B g MX9_init 0 0 96 [(0, .ref m), (1, .int (nI i))] [] S P K Q := by
    intro n
    induction n with
    | zero =>
      intro i K he a1 a2 a3
      have ei : i = 4 := by omega
      subst ei
      refine s_X9_init_96 (rc := 0) (rs := 0) ⟨fun _ => ⟨hL.t, t9_begins hL (fun J c1 c2 c3 c4 c5 => s_X9_init_122 (h J (fun q hq => ?_) c1 c2 c3 (fun k h1 h2 h3 => (c4 k h1 h2).trans (a2 k h3)) (fun a k ha => (c5 a k ha).trans (a3 a k ha))))⟩, fun q => absurd (by decide) q⟩
      rw [c4 _ (by omega) (by omega)]; exact a1 q hq
    | succ n ih =>
      intro i K he a1 a2 a3
      refine s_X9_init_96 (rc := 0) (rs := 0) ⟨fun q => absurd q (nI_ge (b := 4) (by omega) (by decide)), fun _ => ⟨hL.t, _, hL.p, hL.a, 50 + i, hL.ix (nI_add 50 i) (by omega), ?_⟩⟩
      rw [nI_1]
      refine ih (i + 1) _ (by omega) (fun q hq => ?_) (fun k hk => ?_) (fun a k ha => ?_)
      · by_cases e : q = i
        · subst e; rw [u2_s]
        · rw [u2_k (by omega)]; exact a1 q (by omega)
      · rw [u2_k (by omega)]; exact a2 k hk
      · rw [u2_a ha]; exact a3 a k ha
  exact loop 4 0 I (by omega) (fun q hq => absurd hq (Nat.not_lt_zero q)) (fun _ _ => rfl) (fun _ _ _ => rfl)
theorem t_init9 (hm : sT S m = 10) (hn : sN S = m + 1) (h : ∀ S' P' I', sN S' = m + 6 → LM S' P' m → AI (I' (m + 1)) → (∀ k, I' (m + 2) k = 0) → EX m S S' P P' I I' → Q none S' P' I') : T g MX9_init 5 4309 [.ref m] S P I Q := by
  have eA : sN (sA S 40 4080) = m + 2 := by rw [sA_n, hn]
  have eB : sN (sA (sA S 40 4080) 42 3) = m + 3 := by rw [sA_n, eA]
  have eC : sN (sA (sA (sA S 40 4080) 42 3) 40 216) = m + 4 := by rw [sA_n, eB]
  have eD : sN (sA (sA (sA (sA S 40 4080) 42 3) 40 216) 40 4) = m + 5 := by rw [sA_n, eC]
  have eE : sN (sA (sA (sA (sA (sA S 40 4080) 42 3) 40 216) 40 4) 40 6) = m + 6 := by rw [sA_n, eD]
  refine T_of rfl (Nat.le_of_ble_eq_true rfl) (s_X9_init_0 (rc := 0) (rs := 0) ?_)
  rw [eD, eC, eB, eA, hn]
  refine ⟨by simp [sA_t, hn, hm], by simp [sA_t, eA, hn, hm], by simp [sA_t, eA, eB, hn, hm], by simp [sA_t, eA, eB, eC, hn, hm], by simp [sA_t, eA, eB, eC, eD, hn, hm], m + 1, by simp [p2, zP], by simp [sA_t, eA, eB, eC, eD, hn, hm], 9, ixe (n := 4080) rfl (by simp [sA_l, eA, eB, eC, eD, hn]) (by decide) (by decide), ?_⟩
  generalize hS5 : sA (sA (sA (sA (sA S 40 4080) 42 3) 40 216) 40 4) 40 6 = S5
  generalize hP5 : p2 (zP (p2 (zP (p2 (zP (p2 (zP (p2 (zP P (m + 1)) m 0 (m + 1 + 1)) (m + 2)) m 1 (m + 2 + 1)) (m + 3)) m 11 (m + 3 + 1)) (m + 4)) m 12 (m + 4 + 1)) (m + 5)) m 13 (m + 5 + 1) = P5
  generalize hI5 : u2 (zI (zI (zI (zI (zI I (m + 1)) (m + 2)) (m + 3)) (m + 4)) (m + 5)) (m + 1) 9 (-1) = I5
  have hL : LM S5 P5 m := by
    rw [← hS5, ← hP5]
    simp [LM, sA_t, sA_l, eA, eB, eC, eD, hn, hm, p2, zP]
  have nS : sN S5 = m + 6 := by rw [← hS5]; exact eE
  have i1 : ∀ k, I5 (m + 1) k = if k = 9 then -1 else 0 := fun k => by rw [← hI5]; simp [u2, zI]
  have i2 : ∀ k, I5 (m + 2) k = 0 := fun k => by rw [← hI5]; simp [u2, zI]
  have E5 : EX m S S5 P P5 I I5 := by
    intro a ha
    have n0 : a ≠ m := by omega
    have n1 : a ≠ m + 1 := by omega
    have n2 : a ≠ m + 2 := by omega
    have n3 : a ≠ m + 3 := by omega
    have n4 : a ≠ m + 4 := by omega
    have n5 : a ≠ m + 5 := by omega
    rw [← hS5, ← hP5, ← hI5]
    refine ⟨by simp [sA_t, eA, eB, eC, eD, hn, n1, n2, n3, n4, n5], by simp [sA_l, eA, eB, eC, eD, hn, n1, n2, n3, n4, n5], fun k => by simp [p2, zP, n0, n1, n2, n3, n4, n5], fun k => by simp [u2, zI, n1, n2, n3, n4, n5]⟩
  have loop : ∀ n i K, i + n = 5 → (∀ s, s < i → K (m + 1) (40 + 2 * s) = 10 ∧ K (m + 1) (41 + 2 * s) = 200) → (∀ k, (k < 40 ∨ 50 ≤ k) → K (m + 1) k = I5 (m + 1) k) → (∀ a k, a ≠ m + 1 → K a k = I5 a k) → B g MX9_init 0 0 54 [(0, .ref m), (1, .int (nI i))] [] S5 P5 K Q := by
    intro n
    induction n with
    | zero =>
      intro i K he a1 a2 a3
      have ei : i = 5 := by omega
      subst ei
      refine s_X9_init_54 (rc := 0) (rs := 0) ⟨fun _ => t_init9_b hL (fun J b1 b2 b3 b4 b5 b6 => h S5 P5 J nS hL ⟨⟨?_, b2⟩, b3, b4, fun s hs => ?_, b1, fun k h1 h2 => ?_⟩ (fun k => ?_) (E5.tr (fun a ha => ⟨rfl, rfl, fun _ => rfl, fun k => ?_⟩) (Nat.le_refl m))), fun q => absurd (by decide) q⟩
      · rw [b5 9 (by decide) (by decide) (by decide), a2 9 (by decide), i1]; rfl
      · rw [b5 _ (by omega) (by omega) (by omega), b5 _ (by omega) (by omega) (by omega)]; exact a1 s hs
      · rw [b5 _ h2 (by omega) (by omega), a2 _ (by omega), i1, if_neg (by omega)]
      · rw [b6 _ _ (by omega), a3 _ _ (by omega)]; exact i2 k
      · rw [b6 _ _ (by omega), a3 _ _ (by omega)]
    | succ n ih =>
      intro i K he a1 a2 a3
      have e40 : (40 : Int32) + 2 * nI i = nI (40 + 2 * i) := by
        have : (2 : Int32) * nI i = nI (2 * i) := pk_mul 2 i
        rw [this]; exact nI_add 40 (2 * i)
      have e41 : (40 : Int32) + 2 * nI i + 1 = nI (41 + 2 * i) := by rw [e40, nI_1, show 40 + 2 * i + 1 = 41 + 2 * i by omega]
      refine s_X9_init_54 (rc := 0) (rs := 0) ⟨fun q => absurd q (nI_ge (b := 5) (by omega) (by decide)), fun _ => ⟨hL.t, _, hL.p, hL.a, 40 + 2 * i, hL.ix e40 (by omega), 41 + 2 * i, hL.ix e41 (by omega), ?_⟩⟩
      rw [nI_1]
      refine ih (i + 1) _ (by omega) (fun s hs => ?_) (fun k hk => ?_) (fun a k ha => ?_)
      · by_cases e : s = i
        · subst e; rw [u2_s, u2_k (by omega), u2_s]; exact ⟨rfl, rfl⟩
        · rw [u2_k (by omega), u2_k (by omega), u2_k (by omega), u2_k (by omega)]; exact a1 s (by omega)
      · rw [u2_k (by omega), u2_k (by omega)]; exact a2 k hk
      · rw [u2_a ha, u2_a ha]; exact a3 a k ha
  exact loop 5 0 I5 (by omega) (fun s hs => absurd hs (Nat.not_lt_zero s)) (fun _ _ => rfl) (fun _ _ _ => rfl)
theorem kv_ok {k : Nat} (hk : k < 24) : ∃ vl : Nat, kv k = nI vl ∧ 1 ≤ vl ∧ vl ≤ 99 := by
  refine ⟨10 - k / 4 + k % 4, ?_, by omega, by omega⟩
  unfold kv
  have : (10 : Int32) - nI (k / 4) = nI (10 - k / 4) := pk_sub (a := 10) (b := k / 4) (by omega)
  rw [this, nI_add]
theorem RV_init (hw : WV I v) (hA : AI A) : RV I v A 0 := by
  obtain ⟨⟨⟨a2, a3, a5, a11, a12⟩, ⟨t1, t2⟩, c0, ⟨k0, k1, k2⟩, k3, k4, k5, k6⟩, hh, hp⟩ := hw
  obtain ⟨⟨b9, b2⟩, bh, bv, bs, bg, bz⟩ := hA
  refine ⟨0, 0, 3, 0, 0, ⟨⟨bz 0 (by decide) (by decide), a5, by decide⟩, ⟨bz 1 (by decide) (by decide), a11, by decide⟩, ⟨b2, k0, by decide, by decide⟩, ⟨by rw [bz 5 (by decide) (by decide), a12], by rw [bz 8 (by decide) (by decide), a2], by rw [b9, a3], by rw [bz 3 (by decide) (by decide), k1], by rw [bz 4 (by decide) (by decide), k2]⟩, fun s hs => by rw [(bs s hs).1, (bs s hs).2, (k5 s hs).1, (k5 s hs).2]; exact ⟨rfl, rfl⟩, fun q hq => by rw [bg q hq, k6 q hq]⟩, ⟨fun c hc => ?_, fun k hk => ?_⟩, fun h h8 => ⟨fun q => absurd q (Nat.not_lt_zero h), fun _ => hh h h8⟩, fun p hp0 => absurd hp0 (Nat.not_lt_zero p), fun k hk => Or.inl ⟨(k4 k hk).2, fun p hp0 => absurd hp0 (Nat.not_lt_zero p)⟩, ⟨⟨bz 6 (by decide) (by decide), c0, by decide⟩, fun l hl => absurd hl (Nat.not_lt_zero l)⟩, ⟨⟨bz 7 (by decide) (by decide), t1, by decide⟩, fun j hj => absurd hj (Nat.not_lt_zero j), fun j hj => by rw [t2 j]; rfl⟩⟩
  · rw [bh c hc, k3 c hc]; exact ⟨rfl, by decide, by decide⟩
  · rw [bv k hk, (k4 k hk).1]; exact ⟨rfl, kv_ok hk⟩
theorem sim_start (hY : LY S P x) (hM : LM S P (x + 96)) (hn : x + 102 ≤ sN S) (hw : WV I (x + 1)) (hA : AI (I (x + 96 + 1))) (h0 : ∀ k, P (x + 95) k = 0) (h2 : ∀ k, I (x + 96 + 2) k = 0) : Sim S P I x 0 :=
  ⟨LX.of hY hM hn, RV_init hw hA, ⟨fun p hp => Or.inl (hw.2.2 p hp), fun k _ => Or.inl ⟨h0 k, h2 k⟩⟩, fun k k' w w' _ _ _ e => by rw [h0] at e; cases e⟩
end INIT2
