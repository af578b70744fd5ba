theorem cp_in {I : IT} {a b n j : Nat} (h : j < n) : cpI I a b n b j = I a j := by unfold cpI; rw [if_pos ⟨rfl, h⟩]
theorem cp_a {I : IT} {a b n q j : Nat} (h : q ≠ b) : cpI I a b n q j = I q j := by unfold cpI; rw [if_neg (fun z => h z.1)]
section COPY
variable {g : GT} {S : ST} {P : PT} {I I' J K L : IT} {Q : QT} {x n m v w p np nc nh nl c j ch o cc t tl a b : Nat} {z : Int32} {A A' f3 : Nat → Int32}
theorem t_copyTape (ha : LT S P a) (hb : LT S P b) (hd : a + 2 ≤ b ∨ b + 2 ≤ a) (hf : ∀ j, j < 300 → fits .byte (.int (I (b + 1) j)) = true) (h : ∀ J : IT, J a 1 = I b 1 → (∀ j, j < 300 → J (a + 1) j = I (b + 1) j) → (∀ c k, c ≠ a → c ≠ a + 1 → J c k = I c k) → Q none S P J) : T g MX5_copyFrom 0 0 [.ref a, .ref b] S P I Q := by
  refine T_of rfl (Nat.le_of_ble_eq_true rfl) (s_X5_copyFrom_0 ⟨hb.1.1, _, hb.2.1, ha.1.1, _, ha.2.1, hb.1.2, ha.1.2, by rw [hb.2.2]; decide, by rw [ha.2.2]; decide, hf, h _ ?_ (fun j hj => ?_) (fun c k h1 h2 => ?_)⟩)
  · rw [u2_s, cp_a (by omega)]
  · rw [u2_a (by omega), cp_in hj]
  · rw [u2_a h1, cp_a h2]
theorem t_copyCustom (ha : LC S P a) (hb : LC S P b) (hd : a + 6 ≤ b ∨ b + 6 ≤ a) (h : ∀ J : IT, J a 0 = I b 0 → (∀ j, j < 12 → J (a + 1) j = I (b + 1) j ∧ J (a + 2) j = I (b + 2) j) → (∀ j, j < 48 → J (a + 3) j = I (b + 3) j ∧ J (a + 4) j = I (b + 4) j ∧ J (a + 5) j = I (b + 5) j) → (∀ c k, (c < a ∨ a + 6 ≤ c) → J c k = I c k) → Q none S P J) : T g MX0_copyFrom 0 0 [.ref a, .ref b] S P I Q := by
  obtain ⟨⟨ta, ta1, ta2, ta3, ta4, ta5⟩, ⟨pa1, pa2, pa3, pa4, pa5⟩, ⟨la1, la2, la3, la4, la5⟩⟩ := ha
  obtain ⟨⟨tb, tb1, tb2, tb3, tb4, tb5⟩, ⟨pb1, pb2, pb3, pb4, pb5⟩, ⟨lb1, lb2, lb3, lb4, lb5⟩⟩ := hb
  refine T_of rfl (Nat.le_of_ble_eq_true rfl) (s_X0_copyFrom_0 ⟨tb, ta, _, pb1, _, pa1, tb1, ta1, by omega, by omega, _, pb2, _, pa2, tb2, ta2, by omega, by omega, _, pb3, _, pa3, tb3, ta3, by omega, by omega, _, pb4, _, pa4, tb4, ta4, by omega, by omega, _, pb5, _, pa5, tb5, ta5, by omega, by omega, h _ ?_ (fun j hj => ⟨?_, ?_⟩) (fun j hj => ⟨?_, ?_, ?_⟩) (fun c k h1 => ?_)⟩)
  · rw [cp_a (by omega), cp_a (by omega), cp_a (by omega), cp_a (by omega), cp_a (by omega), u2_s]
  · rw [cp_a (by omega), cp_a (by omega), cp_a (by omega), cp_a (by omega), cp_in hj, u2_a (by omega)]
  · rw [cp_a (by omega), cp_a (by omega), cp_a (by omega), cp_in hj, cp_a (by omega), u2_a (by omega)]
  · rw [cp_a (by omega), cp_a (by omega), cp_in hj, cp_a (by omega), cp_a (by omega), u2_a (by omega)]
  · rw [cp_a (by omega), cp_in hj, cp_a (by omega), cp_a (by omega), cp_a (by omega), u2_a (by omega)]
  · rw [cp_in hj, cp_a (by omega), cp_a (by omega), cp_a (by omega), cp_a (by omega), u2_a (by omega)]
  · rw [cp_a (by omega), cp_a (by omega), cp_a (by omega), cp_a (by omega), cp_a (by omega), u2_a (by omega)]
theorem t_copyHouse (ha : LH S P a) (hb : LH S P b) (hd : a + 5 ≤ b ∨ b + 5 ≤ a) (h2 : I b 2 = 0 ∨ I b 2 = 1) (h : ∀ J : IT, (∀ k, k < 5 → J a k = I b k) → (∀ i j, 1 ≤ i → i ≤ 4 → j < 8 → J (a + i) j = I (b + i) j) → (∀ c k, (c < a ∨ a + 5 ≤ c) → J c k = I c k) → Q none S P J) : T g MX1_copyFrom 0 0 [.ref a, .ref b] S P I Q := by
  obtain ⟨⟨ta, ta1, ta2, ta3, ta4⟩, ⟨pa1, pa2, pa3, pa4⟩, ⟨la1, la2, la3, la4⟩⟩ := ha
  obtain ⟨⟨tb, tb1, tb2, tb3, tb4⟩, ⟨pb1, pb2, pb3, pb4⟩, ⟨lb1, lb2, lb3, lb4⟩⟩ := hb
  refine T_of rfl (Nat.le_of_ble_eq_true rfl) (s_X1_copyFrom_0 ⟨tb, ta, h2, _, pb1, _, pa1, tb1, ta1, by omega, by omega, _, pb2, _, pa2, tb2, ta2, by omega, by omega, _, pb3, _, pa3, tb3, ta3, by omega, by omega, _, pb4, _, pa4, tb4, ta4, by omega, by omega, h _ (fun k hk => ?_) (fun i j h1 h2 hj => ?_) (fun c k h1 => ?_)⟩)
  · rw [cp_a (by omega), cp_a (by omega), cp_a (by omega), cp_a (by omega)]
    rcases (show k = 0 ∨ k = 1 ∨ k = 2 ∨ k = 3 ∨ k = 4 by omega) with rfl | rfl | rfl | rfl | rfl <;> simp [u2]
  · have eu : ∀ j', (u2 (u2 (u2 (u2 (u2 I a 0 (I b 0)) a 1 (I b 1)) a 2 (I b 2)) a 3 (I b 3)) a 4 (I b 4)) (b + i) j' = I (b + i) j' := fun j' => by rw [u2_a (by omega), u2_a (by omega), u2_a (by omega), u2_a (by omega), u2_a (by omega)]
    rcases (show i = 1 ∨ i = 2 ∨ i = 3 ∨ i = 4 by omega) with rfl | rfl | rfl | rfl
    · rw [cp_a (by omega), cp_a (by omega), cp_a (by omega), cp_in hj, eu]
    · rw [cp_a (by omega), cp_a (by omega), cp_in hj, cp_a (by omega), eu]
    · rw [cp_a (by omega), cp_in hj, cp_a (by omega), cp_a (by omega), eu]
    · rw [cp_in hj, cp_a (by omega), cp_a (by omega), cp_a (by omega), eu]
  · rw [cp_a (by omega), cp_a (by omega), cp_a (by omega), cp_a (by omega), u2_a (by omega), u2_a (by omega), u2_a (by omega), u2_a (by omega), u2_a (by omega)]
theorem t_copyKiln (ha : LK S P a) (hb : LK S P b) (hd : a + 5 ≤ b ∨ b + 5 ≤ a) (h : ∀ J : IT, (∀ k, k < 3 → J a k = I b k) → (∀ j, j < 6 → J (a + 1) j = I (b + 1) j) → (∀ j, j < 24 → J (a + 3) j = I (b + 3) j ∧ J (a + 4) j = I (b + 4) j) → (∀ c k, (c < a ∨ a + 5 ≤ c) → J c k = I c k) → Q none S P J) : T g MX2_copyFrom 0 0 [.ref a, .ref b] S P I Q := by
  obtain ⟨⟨ta, ta1, ta2, ta3, ta4⟩, ⟨pa1, pa2, pa3, pa4⟩, ⟨la1, la2, la3, la4⟩⟩ := ha
  obtain ⟨⟨tb, tb1, tb2, tb3, tb4⟩, ⟨pb1, pb2, pb3, pb4⟩, ⟨lb1, lb2, lb3, lb4⟩⟩ := hb
  refine T_of rfl (Nat.le_of_ble_eq_true rfl) (s_X2_copyFrom_0 ⟨tb, ta, _, pb1, _, pa1, tb1, ta1, by omega, by omega, _, pb3, _, pa3, tb3, ta3, by omega, by omega, _, pb4, _, pa4, tb4, ta4, by omega, by omega, h _ (fun k hk => ?_) (fun j hj => ?_) (fun j hj => ⟨?_, ?_⟩) (fun c k h1 => ?_)⟩)
  · rw [cp_a (by omega), cp_a (by omega), cp_a (by omega)]
    rcases (show k = 0 ∨ k = 1 ∨ k = 2 by omega) with rfl | rfl | rfl <;> simp [u2]
  · rw [cp_a (by omega), cp_a (by omega), cp_in hj, u2_a (by omega), u2_a (by omega), u2_a (by omega)]
  · rw [cp_a (by omega), cp_in hj, cp_a (by omega), u2_a (by omega), u2_a (by omega), u2_a (by omega)]
  · rw [cp_in hj, cp_a (by omega), cp_a (by omega), u2_a (by omega), u2_a (by omega), u2_a (by omega)]
  · rw [cp_a (by omega), cp_a (by omega), cp_a (by omega), u2_a (by omega), u2_a (by omega), u2_a (by omega)]
/-- the village at w in J is the one at v in I, as far as calls tell -/
def CP (I : IT) (v : Nat) (J : IT) (w : Nat) : Prop :=
  (∀ k, (k = 2 ∨ k = 3 ∨ k = 5 ∨ k = 11 ∨ k = 12) → J w k = I v k) ∧ (J (w + 1) 1 = I (v + 1) 1 ∧ ∀ j, j < 300 → J (w + 2) j = I (v + 2) j) ∧
  (J (w + 3) 0 = I (v + 3) 0 ∧ (∀ j, j < 12 → J (w + 4) j = I (v + 4) j ∧ J (w + 5) j = I (v + 5) j) ∧ ∀ j, j < 48 → J (w + 6) j = I (v + 6) j ∧ J (w + 7) j = I (v + 7) j ∧ J (w + 8) j = I (v + 8) j) ∧
  ((∀ k, k < 3 → J (w + 13) k = I (v + 13) k) ∧ (∀ j, j < 6 → J (w + 14) j = I (v + 14) j) ∧ ∀ j, j < 24 → J (w + 16) j = I (v + 16) j ∧ J (w + 17) j = I (v + 17) j) ∧
  ((∀ s, s < 5 → J (w + 10) s = I (v + 10) s ∧ J (w + 11) s = I (v + 11) s) ∧ ∀ q, q < 4 → J (w + 12) q = I (v + 12) q) ∧
  (∀ h, h < 8 → (∀ k, k < 5 → J (hA w h) k = I (hA v h) k) ∧ ∀ i j, 1 ≤ i → i ≤ 4 → j < 8 → J (hA w h + i) j = I (hA v h + i) j) ∧ ∀ p, p < 24 → ∀ k, k < 8 → J (pA w p) k = I (pA v p) k
theorem t_copyFrom (ha : LV S P a) (hb : LV S P b) (hd : a + 83 ≤ b ∨ b + 83 ≤ a) (hf : ∀ j, j < 300 → fits .byte (.int (I (b + 2) j)) = true) (h2 : ∀ h, h < 8 → I (hA b h) 2 = 0 ∨ I (hA b h) 2 = 1) (h6 : ∀ p, p < 24 → I (pA b p) 6 = 0 ∨ I (pA b p) 6 = 1)
    (h : ∀ J : IT, CP I b J a → (∀ c k, (c < a ∨ a + 83 ≤ c) → J c k = I c k) → Q none S P J) : T g MX7_copyFrom 0 0 [.ref a, .ref b] S P I Q := by
  refine T_of rfl (Nat.le_of_ble_eq_true rfl) (s_X7_copyFrom_0 ⟨ha.t, _, ha.p0, hb.t, _, hb.p0, ha.tp.1.1, t_copyTape ha.tp hb.tp (by omega) hf (fun J1 a1 a2 a3 => s_X7_copyFrom_11 ⟨ha.t, _, ha.p1, hb.t, _, hb.p1, ha.cu.1.1, t_copyCustom ha.cu hb.cu (by omega) (fun J2 b1 b2 b3 b4 => s_X7_copyFrom_22 ⟨hb.t, ha.t, ?_⟩)⟩)⟩)
  generalize hJ3 : u2 (u2 J2 a 2 (J2 b 2)) a 3 (J2 b 3) = J3
  have f2 : ∀ c k, (c < a + 1 ∨ a + 9 ≤ c) → J2 c k = I c k := fun c k hc => (b4 c k (by omega)).trans (a3 c k (by omega) (by omega))
  have f3 : ∀ c k, (c < a ∨ a + 9 ≤ c) → J3 c k = I c k := fun c k hc => by rw [← hJ3, u2_a (by omega), u2_a (by omega)]; exact f2 c k (by omega)
  have g3 : ∀ c k, c ≠ a → J3 c k = J2 c k := fun c k hc => by rw [← hJ3, u2_a hc, u2_a hc]
  have v2 : J3 a 2 = I b 2 := by rw [← hJ3, u2_k (by decide), u2_s]; exact f2 _ _ (by omega)
  have v3 : J3 a 3 = I b 3 := by rw [← hJ3, u2_s]; exact f2 _ _ (by omega)
  have pl : ∀ K : IT, (∀ c k, c ≠ a → (c < a + 13 ∨ a + 18 ≤ c) → (c < a + 10 ∨ 13 + a ≤ c) → (c < a + 19 ∨ a + 59 ≤ c) → (c < a + 59 ∨ a + 83 ≤ c) → K c k = J3 c k) → K a 2 = I b 2 → K a 3 = I b 3 → K a 5 = I b 5 → (∀ k, k < 3 → K (a + 13) k = I (b + 13) k) → (∀ j, j < 6 → K (a + 14) j = I (b + 14) j) → (∀ j, j < 24 → K (a + 16) j = I (b + 16) j ∧ K (a + 17) j = I (b + 17) j) → (∀ s, s < 5 → K (a + 10) s = I (b + 10) s ∧ K (a + 11) s = I (b + 11) s) → (∀ q, q < 4 → K (a + 12) q = I (b + 12) q) → (∀ h, h < 8 → (∀ k, k < 5 → K (hA a h) k = I (hA b h) k) ∧ ∀ i j, 1 ≤ i → i ≤ 4 → j < 8 → K (hA a h + i) j = I (hA b h + i) j) → B g MX7_copyFrom 0 0 130 [(0, .ref a), (1, .ref b), (2, .int 0)] [] S P K Q := by
    intro K0 c1 c2 c3 c4 c5 c6 c7 c8 c9 c10
    have loop : ∀ n i K, i + n = 24 → (∀ p, p < i → ∀ k, k < 8 → K (pA a p) k = I (pA b p) k) → (∀ c k, (c < a + 59 ∨ a + 83 ≤ c) → K c k = K0 c k) → B g MX7_copyFrom 0 0 130 [(0, .ref a), (1, .ref b), (2, .int (nI i))] [] S P K Q := by
      intro n
      induction n with
      | zero =>
        intro i K he d1 d2
        have ei : i = 24 := by omega
        subst ei
        refine s_X7_copyFrom_130 ⟨fun _ => ⟨hb.t, ha.t, ?_⟩, fun q => absurd (by decide) q⟩
        generalize hL : u2 (u2 K a 11 (K b 11)) a 12 (K b 12) = L
        have kI : ∀ c k, (c < a ∨ a + 83 ≤ c) → K c k = I c k := fun c k hc => (d2 c k (by omega)).trans ((c1 c k (by omega) (by omega) (by omega) (by omega) (by omega)).trans (f3 c k (by omega)))
        have lK : ∀ c k, c ≠ a → L c k = K c k := fun c k hc => by rw [← hL, u2_a hc, u2_a hc]
        have lk : ∀ k, k ≠ 11 → k ≠ 12 → L a k = K0 a k := fun k h1 h2 => by rw [← hL, u2_k h2, u2_k h1]; exact d2 _ _ (by omega)
        have l0 : ∀ c k, c ≠ a → (c < a + 59 ∨ a + 83 ≤ c) → L c k = K0 c k := fun c k h1 h2 => (lK c k h1).trans (d2 c k h2)
        have lj : ∀ c k, a < c → c < a + 10 → L c k = J2 c k := fun c k h1 h2 => (l0 c k (by omega) (by omega)).trans ((c1 c k (by omega) (by omega) (by omega) (by omega) (by omega)).trans (g3 c k (by omega)))
        refine h L ⟨fun k hk => ?_, ⟨?_, fun j hj => ?_⟩, ⟨?_, fun j hj => ⟨?_, ?_⟩, fun j hj => ⟨?_, ?_, ?_⟩⟩, ⟨fun k hk => ?_, fun j hj => ?_, fun j hj => ⟨?_, ?_⟩⟩, ⟨fun s hs => ⟨?_, ?_⟩, fun q hq => ?_⟩, fun y hy => ⟨fun k hk => ?_, fun i j hi1 hi2 hj => ?_⟩, fun p hp k hk => ?_⟩ (fun c k hc => ?_)
        · rcases hk with rfl | rfl | rfl | rfl | rfl
          · rw [lk _ (by decide) (by decide)]; exact c2
          · rw [lk _ (by decide) (by decide)]; exact c3
          · rw [lk _ (by decide) (by decide)]; exact c4
          · rw [← hL, u2_k (by decide), u2_s]; exact kI _ _ (by omega)
          · rw [← hL, u2_s]; exact kI _ _ (by omega)
        · rw [lj _ _ (by omega) (by omega), b4 _ _ (by omega)]; exact a1
        · rw [lj _ _ (by omega) (by omega), b4 _ _ (by omega)]; exact a2 j hj
        · rw [lj _ _ (by omega) (by omega), b1, a3 _ _ (by omega) (by omega)]
        · rw [lj _ _ (by omega) (by omega)]; exact (b2 j hj).1.trans (a3 _ _ (by omega) (by omega))
        · rw [lj _ _ (by omega) (by omega)]; exact (b2 j hj).2.trans (a3 _ _ (by omega) (by omega))
        · rw [lj _ _ (by omega) (by omega)]; exact (b3 j hj).1.trans (a3 _ _ (by omega) (by omega))
        · rw [lj _ _ (by omega) (by omega)]; exact (b3 j hj).2.1.trans (a3 _ _ (by omega) (by omega))
        · rw [lj _ _ (by omega) (by omega)]; exact (b3 j hj).2.2.trans (a3 _ _ (by omega) (by omega))
        · rw [l0 _ _ (by omega) (by omega)]; exact c5 k hk
        · rw [l0 _ _ (by omega) (by omega)]; exact c6 j hj
        · rw [l0 _ _ (by omega) (by omega)]; exact (c7 j hj).1
        · rw [l0 _ _ (by omega) (by omega)]; exact (c7 j hj).2
        · rw [l0 _ _ (by omega) (by omega)]; exact (c8 s hs).1
        · rw [l0 _ _ (by omega) (by omega)]; exact (c8 s hs).2
        · rw [l0 _ _ (by omega) (by omega)]; exact c9 q hq
        · rw [l0 _ _ (by unfold hA; omega) (by unfold hA; omega)]; exact (c10 y hy).1 k hk
        · rw [l0 _ _ (by unfold hA; omega) (by unfold hA; omega)]; exact (c10 y hy).2 i j hi1 hi2 hj
        · rw [lK _ _ (by unfold pA; omega)]; exact d1 p hp k hk
        · rw [lK _ _ (by omega)]; exact kI c k hc
      | succ n ih =>
        intro i K he d1 d2
        have kI : ∀ c k, (c < a ∨ a + 83 ≤ c) → K c k = I c k := fun c k hc => (d2 c k (by omega)).trans ((c1 c k (by omega) (by omega) (by omega) (by omega) (by omega)).trans (f3 c k (by omega)))
        refine s_X7_copyFrom_130 ⟨fun q => absurd q (nI_ge (b := 24) (by omega) (by decide)), fun _ => ⟨ha.t, _, ha.p10, ha.t18, i, ixl ha.l18 (by omega) (by decide), _, ha.pp (by omega), hb.t, _, hb.p10, hb.t18, i, ixl hb.l18 (by omega) (by decide), _, hb.pp (by omega), ha.po (by omega), t_copyPot (ha.po (by omega)) (hb.po (by omega)) (by rw [kI _ _ (by unfold pA; omega)]; exact h6 i (by omega)) (fun K2 e1 e2 => s_X7_copyFrom_151 ?_)⟩⟩
        rw [nI_1]
        refine ih (i + 1) K2 (by omega) (fun p hp k hk => ?_) (fun c k hc => ?_)
        · by_cases e : p = i
          · subst e; rw [e1 k hk]; exact kI _ _ (by unfold pA; omega)
          · rw [e2 _ _ (by unfold pA; omega)]; exact d1 p (by omega) k hk
        · rw [e2 _ _ (by unfold pA; omega)]; exact d2 c k hc
    exact loop 24 0 K0 (by omega) (fun p hp => absurd hp (Nat.not_lt_zero p)) (fun _ _ _ => rfl)
  have loop : ∀ n i K, i + n = 8 → (∀ y, y < i → (∀ k, k < 5 → K (hA a y) k = I (hA b y) k) ∧ ∀ i j, 1 ≤ i → i ≤ 4 → j < 8 → K (hA a y + i) j = I (hA b y + i) j) → (∀ c k, (c < a + 19 ∨ a + 59 ≤ c) → K c k = J3 c k) → B g MX7_copyFrom 0 0 40 [(0, .ref a), (1, .ref b), (2, .int (nI i))] [] S P K Q := by
    intro n
    induction n with
    | zero =>
      intro i K he d1 d2
      have ei : i = 8 := by omega
      subst ei
      have kI : ∀ c k, (c < a ∨ a + 83 ≤ c) → K c k = I c k := fun c k hc => (d2 c k (by omega)).trans (f3 c k (by omega))
      refine s_X7_copyFrom_40 ⟨fun _ => ⟨hb.t, ha.t, _, hb.p6, _, ha.p6, hb.t10, ha.t10, by rw [hb.l10]; decide, by rw [ha.l10]; decide, _, hb.p7, _, ha.p7, hb.t11, ha.t11, by rw [hb.l11]; decide, by rw [ha.l11]; decide, _, hb.p8, _, ha.p8, hb.t12, ha.t12, by rw [hb.l12]; decide, by rw [ha.l12]; decide, _, ha.p9, _, hb.p9, ha.kp, ?_⟩, fun q => absurd (by decide) q⟩
      generalize hL : cpI (cpI (cpI (u2 K a 5 (K b 5)) (b + 10) (a + 10) 5) (b + 11) (a + 11) 5) (b + 12) (a + 12) 4 = L
      have lK : ∀ c k, (c ≠ a ∨ k ≠ 5) → (c < a + 10 ∨ a + 13 ≤ c) → L c k = K c k := fun c k h1 h2 => by
        rw [← hL, cp_a (by omega), cp_a (by omega), cp_a (by omega)]
        exact h1.elim (fun z => u2_a z) (fun z => u2_k z)
      refine t_copyKiln ha.ki hb.ki (by omega) (fun M e1 e2 e3 e4 => s_X7_copyFrom_128 (pl M (fun c k h1 h2 h3 h4 h5 => ?_) ?_ ?_ ?_ (fun k hk => ?_) (fun j hj => ?_) (fun j hj => ⟨?_, ?_⟩) (fun s hs => ⟨?_, ?_⟩) (fun q hq => ?_) (fun y hy => ⟨fun k hk => ?_, fun i j h1 h2 hj => ?_⟩)))
      · rw [e4 c k (by omega), lK c k (by omega) (by omega)]; exact d2 c k (by omega)
      · rw [e4 _ _ (by omega), lK _ _ (Or.inr (by decide)) (by omega), d2 _ _ (by omega)]; exact v2
      · rw [e4 _ _ (by omega), lK _ _ (Or.inr (by decide)) (by omega), d2 _ _ (by omega)]; exact v3
      · rw [e4 _ _ (by omega), ← hL, cp_a (by omega), cp_a (by omega), cp_a (by omega), u2_s]; exact kI _ _ (by omega)
      · rw [e1 k hk, lK _ _ (by omega) (by omega)]; exact kI _ _ (by omega)
      · rw [show a + 14 = a + 13 + 1 from rfl, e2 j hj, lK _ _ (by omega) (by omega)]; exact kI _ _ (by omega)
      · rw [show a + 16 = a + 13 + 3 from rfl, (e3 j hj).1, lK _ _ (by omega) (by omega)]; exact kI _ _ (by omega)
      · rw [show a + 17 = a + 13 + 4 from rfl, (e3 j hj).2, lK _ _ (by omega) (by omega)]; exact kI _ _ (by omega)
      · rw [e4 _ _ (by omega), ← hL, cp_a (by omega), cp_a (by omega), cp_in hs, u2_a (by omega)]; exact kI _ _ (by omega)
      · rw [e4 _ _ (by omega), ← hL, cp_a (by omega), cp_in hs, cp_a (by omega), u2_a (by omega)]; exact kI _ _ (by omega)
      · rw [e4 _ _ (by omega), ← hL, cp_in hq, cp_a (by omega), cp_a (by omega), u2_a (by omega)]; exact kI _ _ (by omega)
      · rw [e4 _ _ (by unfold hA; omega), lK _ _ (by unfold hA; omega) (by unfold hA; omega)]; exact (d1 y hy).1 k hk
      · rw [e4 _ _ (by unfold hA; omega), lK _ _ (by unfold hA; omega) (by unfold hA; omega)]; exact (d1 y hy).2 i j h1 h2 hj
    | succ n ih =>
      intro i K he d1 d2
      have kI : ∀ c k, (c < a ∨ a + 83 ≤ c) → K c k = I c k := fun c k hc => (d2 c k (by omega)).trans (f3 c k (by omega))
      refine s_X7_copyFrom_40 ⟨fun q => absurd q (nI_ge (b := 8) (by omega) (by decide)), fun _ => ⟨ha.t, _, ha.p4, ha.t9, i, ixl ha.l9 (by omega) (by decide), _, ha.ph (by omega), hb.t, _, hb.p4, hb.t9, i, ixl hb.l9 (by omega) (by decide), _, hb.ph (by omega), (ha.ho (by omega)).1.1, t_copyHouse (ha.ho (by omega)) (hb.ho (by omega)) (by unfold hA; omega) (by rw [kI _ _ (by unfold hA; omega)]; exact h2 i (by omega)) (fun K2 e1 e2 e3 => s_X7_copyFrom_61 ?_)⟩⟩
      rw [nI_1]
      refine ih (i + 1) K2 (by omega) (fun y hy => ⟨fun k hk => ?_, fun q j h1 h2 hj => ?_⟩) (fun c k hc => ?_)
      · by_cases e : y = i
        · subst e; rw [e1 k hk]; exact kI _ _ (by unfold hA; omega)
        · rw [e3 _ _ (by unfold hA; omega)]; exact (d1 y (by omega)).1 k hk
      · by_cases e : y = i
        · subst e; rw [e2 q j h1 h2 hj]; exact kI _ _ (by unfold hA; omega)
        · rw [e3 _ _ (by unfold hA; omega)]; exact (d1 y (by omega)).2 q j h1 h2 hj
      · rw [e3 _ _ (by unfold hA; omega)]; exact d2 c k hc
  exact loop 8 0 J3 (by omega) (fun y hy => absurd hy (Nat.not_lt_zero y)) (fun _ _ _ => rfl)
end COPY
