/-! the reference's parser -/
def RP (I : IT) (m n : Nat) (f : Nat → Int32) (a : Nat) (F : Int32 × Int32) : Prop := RF I m n f ∧ I m 3 = nI (ps f n (a + 1)) ∧ I m 4 = LL f n a ∧ RT I m (KK f n a) (MM f n a) ∧ I m 9 = 0 ∧ I (m + 1) 8 = F.1 ∧ I (m + 1) 9 = F.2
def RW (I : IT) (m : Nat) (p : Int32) : Prop := I m 9 = 1 ∧ I (m + 1) 8 = 1 ∧ I (m + 1) 9 = p
def FR9 (I J : IT) (m : Nat) : Prop := (∀ j, (j < 3 ∨ 9 < j) → J m j = I m j) ∧ (∀ j, j ≠ 8 → j ≠ 9 → J (m + 1) j = I (m + 1) j) ∧ ∀ a j, a ≠ m → a ≠ m + 1 → J a j = I a j
abbrev stp (I : IT) (m : Nat) : IT := u2 (u2 (u2 I m 9 1) (m + 1) 8 1) (m + 1) 9 ((u2 (u2 I m 9 1) (m + 1) 8 1) m 4)
section REFP
variable {g : GT} {S : ST} {P : PT} {I J W : IT} {Q : QT} {m n a l tt : Nat} {f : Nat → Int32} {F : Int32 × Int32} {k z kd w : Int32}
theorem FR9.tr (h : FR9 I J m) (h2 : FR9 J W m) : FR9 I W m := ⟨fun j hj => (h2.1 j hj).trans (h.1 j hj), fun j h3 h4 => (h2.2.1 j h3 h4).trans (h.2.1 j h3 h4), fun a j h3 h4 => (h2.2.2 a j h3 h4).trans (h.2.2 a j h3 h4)⟩
theorem FR9.rf : FR9 I I m := ⟨fun _ _ => rfl, fun _ _ _ => rfl, fun _ _ _ _ => rfl⟩
theorem stop_ok (I : IT) (m : Nat) : RW (stp I m) m (I m 4) ∧ FR9 I (stp I m) m := by
  refine ⟨⟨?_, ?_, ?_⟩, fun j hj => ?_, fun j h1 h2 => ?_, fun a j h1 h2 => ?_⟩
  · rw [stp, u2_a (by omega), u2_a (by omega), u2_s]
  · rw [stp, u2_k (by decide), u2_s]
  · rw [stp, u2_s, u2_a (by omega), u2_k (by decide)]
  · rw [stp, u2_a (by omega), u2_a (by omega), u2_k (by omega)]
  · rw [stp, u2_k h2, u2_k h1, u2_a (by omega)]
  · rw [stp, u2_a h2, u2_a h2, u2_a h1]
theorem RT_kw1 (h : RT I m kd z) (hw : (kd = 7 ∧ w = 30) ∨ (kd = 8 ∧ w = 31) ∨ (kd = 9 ∧ w = 32) ∨ (kd = 10 ∧ w = 20) ∨ (kd = 11 ∧ w = 21)) : I m 5 = 3 ∧ I m 8 = w := by
  rcases hw with ⟨rfl, rfl⟩ | ⟨rfl, rfl⟩ | ⟨rfl, rfl⟩ | ⟨rfl, rfl⟩ | ⟨rfl, rfl⟩
  all_goals
    rcases h with ⟨e, h⟩ | ⟨e, h⟩ | ⟨e, h⟩ | ⟨e, h⟩ | ⟨e, h⟩ | ⟨e, h⟩ | ⟨e, h⟩ | ⟨e, h⟩ | ⟨e, h⟩ | ⟨e, h⟩ | ⟨e, h⟩ | ⟨e, h⟩
    all_goals first
      | exact absurd e (by decide)
      | exact h
theorem RT_kw2 (h : RT I m k z) (hw : (kd = 7 ∧ w = 30) ∨ (kd = 8 ∧ w = 31) ∨ (kd = 9 ∧ w = 32) ∨ (kd = 10 ∧ w = 20) ∨ (kd = 11 ∧ w = 21)) (q5 : I m 5 = 3) (q8 : I m 8 = w) : k = kd := by
  rcases hw with ⟨rfl, rfl⟩ | ⟨rfl, rfl⟩ | ⟨rfl, rfl⟩ | ⟨rfl, rfl⟩ | ⟨rfl, rfl⟩
  all_goals
    rcases h with ⟨e, h5⟩ | ⟨e, h5⟩ | ⟨e, h5, -⟩ | ⟨e, h5, s, hs, -, h8⟩ | ⟨e, h5, -⟩ | ⟨e, h5, -⟩ | ⟨e, h5, -⟩ | ⟨e, h5, h8⟩ | ⟨e, h5, h8⟩ | ⟨e, h5, h8⟩ | ⟨e, h5, h8⟩ | ⟨e, h5, h8⟩
    all_goals first
      | exact e
      | (rw [h5] at q5; exact absurd q5 (by decide))
      | (rw [h8] at q8; exact absurd q8 (by decide))
      | (rw [h8] at q8; rcases (show s = 0 ∨ s = 1 ∨ s = 2 ∨ s = 3 ∨ s = 4 ∨ s = 5 ∨ s = 6 by omega) with rfl | rfl | rfl | rfl | rfl | rfl | rfl <;> exact absurd q8 (by decide))
theorem RT_sg1 (h : RT I m kd z) (hw : (kd = 5 ∧ w = 58) ∨ (kd = 6 ∧ w = 59)) : I m 5 = 2 ∧ I m 7 = w := by
  rcases hw with ⟨rfl, rfl⟩ | ⟨rfl, rfl⟩
  all_goals
    rcases h with ⟨e, h⟩ | ⟨e, h⟩ | ⟨e, h⟩ | ⟨e, h⟩ | ⟨e, h⟩ | ⟨e, h⟩ | ⟨e, h⟩ | ⟨e, h⟩ | ⟨e, h⟩ | ⟨e, h⟩ | ⟨e, h⟩ | ⟨e, h⟩
    all_goals first
      | exact absurd e (by decide)
      | exact h
theorem RT_sg2 (h : RT I m k z) (hw : (kd = 5 ∧ w = 58) ∨ (kd = 6 ∧ w = 59)) (q5 : I m 5 = 2) (q7 : I m 7 = w) : k = kd := by
  rcases hw with ⟨rfl, rfl⟩ | ⟨rfl, rfl⟩
  all_goals
    rcases h with ⟨e, h5⟩ | ⟨e, h5⟩ | ⟨e, h5, -⟩ | ⟨e, h5, -⟩ | ⟨e, h5, ⟨-, h7⟩ | ⟨-, h7⟩ | ⟨-, h7⟩⟩ | ⟨e, h5, h7⟩ | ⟨e, h5, h7⟩ | ⟨e, h5, -⟩ | ⟨e, h5, -⟩ | ⟨e, h5, -⟩ | ⟨e, h5, -⟩ | ⟨e, h5, -⟩
    all_goals first
      | exact e
      | (rw [h5] at q5; exact absurd q5 (by decide))
      | (rw [h7] at q7; exact absurd q7 (by decide))
theorem RT_2 (h : RT I m k z) : I m 5 = 1 ↔ k = 2 := by
  rcases h with ⟨e, h5⟩ | ⟨e, h5⟩ | ⟨e, h5, -⟩ | ⟨e, h5, -⟩ | ⟨e, h5, -⟩ | ⟨e, h5, -⟩ | ⟨e, h5, -⟩ | ⟨e, h5, -⟩ | ⟨e, h5, -⟩ | ⟨e, h5, -⟩ | ⟨e, h5, -⟩ | ⟨e, h5, -⟩
  all_goals (rw [h5, e]; try decide)
theorem RT_0 (h : RT I m k z) : I m 5 = 0 ↔ k = 0 := by
  rcases h with ⟨e, h5⟩ | ⟨e, h5⟩ | ⟨e, h5, -⟩ | ⟨e, h5, -⟩ | ⟨e, h5, -⟩ | ⟨e, h5, -⟩ | ⟨e, h5, -⟩ | ⟨e, h5, -⟩ | ⟨e, h5, -⟩ | ⟨e, h5, -⟩ | ⟨e, h5, -⟩ | ⟨e, h5, -⟩
  all_goals (rw [h5, e]; try decide)
theorem RT_2v (h : RT I m 2 z) : I m 6 = z := by
  rcases h with ⟨e, h⟩ | ⟨e, h⟩ | ⟨e, h5, h6⟩ | ⟨e, h⟩ | ⟨e, h⟩ | ⟨e, h⟩ | ⟨e, h⟩ | ⟨e, h⟩ | ⟨e, h⟩ | ⟨e, h⟩ | ⟨e, h⟩ | ⟨e, h⟩
  all_goals first
    | exact absurd e (by decide)
    | exact h6
theorem RT_3v (h : RT I m 3 z) : I m 5 = 3 ∧ ∃ s : Nat, s < 7 ∧ z = nI s ∧ I m 8 = nI (s + 1) := by
  rcases h with ⟨e, h⟩ | ⟨e, h⟩ | ⟨e, h⟩ | ⟨e, h⟩ | ⟨e, h⟩ | ⟨e, h⟩ | ⟨e, h⟩ | ⟨e, h⟩ | ⟨e, h⟩ | ⟨e, h⟩ | ⟨e, h⟩ | ⟨e, h⟩
  all_goals first
    | exact absurd e (by decide)
    | exact h
theorem RT_4v (h : RT I m 4 z) : I m 5 = 2 ∧ ((z = 1 ∧ I m 7 = 60) ∨ (z = 2 ∧ I m 7 = 61) ∨ (z = 4 ∧ I m 7 = 62)) := by
  rcases h with ⟨e, h⟩ | ⟨e, h⟩ | ⟨e, h⟩ | ⟨e, h⟩ | ⟨e, h⟩ | ⟨e, h⟩ | ⟨e, h⟩ | ⟨e, h⟩ | ⟨e, h⟩ | ⟨e, h⟩ | ⟨e, h⟩ | ⟨e, h⟩
  all_goals first
    | exact absurd e (by decide)
    | exact h
/-- a subject: a word from 1 to 7 -/
theorem RT_3 (h : RT I m k z) (q5 : I m 5 = 3) (q8 : ¬ wi (I m 8) 1 7 = 0) : k = 3 := by
  rcases h with ⟨e, h5⟩ | ⟨e, h5⟩ | ⟨e, h5, -⟩ | ⟨e, h5, -⟩ | ⟨e, h5, -⟩ | ⟨e, h5, -⟩ | ⟨e, h5, -⟩ | ⟨e, h5, h8⟩ | ⟨e, h5, h8⟩ | ⟨e, h5, h8⟩ | ⟨e, h5, h8⟩ | ⟨e, h5, h8⟩
  all_goals first
    | exact e
    | (rw [h5] at q5; exact absurd q5 (by decide))
    | (rw [h8] at q8; exact absurd (by decide) q8)
theorem RT_4 (h : RT I m k z) (q5 : I m 5 = 2) (q58 : ¬ I m 7 = 58) (q59 : ¬ I m 7 = 59) : k = 4 := by
  rcases h with ⟨e, h5⟩ | ⟨e, h5⟩ | ⟨e, h5, -⟩ | ⟨e, h5, -⟩ | ⟨e, h5, -⟩ | ⟨e, h5, h7⟩ | ⟨e, h5, h7⟩ | ⟨e, h5, -⟩ | ⟨e, h5, -⟩ | ⟨e, h5, -⟩ | ⟨e, h5, -⟩ | ⟨e, h5, -⟩
  all_goals first
    | exact e
    | (rw [h5] at q5; exact absurd q5 (by decide))
    | exact absurd h7 q58
    | exact absurd h7 q59
theorem RT.mv (h : RT I m k z) (h5 : J m 5 = I m 5) (h6 : J m 6 = I m 6) (h7 : J m 7 = I m 7) (h8 : J m 8 = I m 8) : RT J m k z := by
  unfold RT at h ⊢
  rw [h5, h6, h7, h8]
  exact h
theorem RP.mv (h : RP I m n f a F) (h1 : ∀ j, j ≤ 9 → J m j = I m j) (h2 : ∀ j, 8 ≤ j → J (m + 1) j = I (m + 1) j) : RP J m n f a F :=
  ⟨h.1.mv (h1 2 (by decide)) (fun j hj => h2 j (by omega)), (h1 3 (by decide)).trans h.2.1, (h1 4 (by decide)).trans h.2.2.1, h.2.2.2.1.mv (h1 5 (by decide)) (h1 6 (by decide)) (h1 7 (by decide)) (h1 8 (by decide)), (h1 9 (by decide)).trans h.2.2.2.2.1, (h2 8 (by decide)).trans h.2.2.2.2.2.1, (h2 9 (by decide)).trans h.2.2.2.2.2.2⟩
theorem RW.mv {p : Int32} (h : RW I m p) (h1 : J m 9 = I m 9) (h2 : J (m + 1) 8 = I (m + 1) 8) (h3 : J (m + 1) 9 = I (m + 1) 9) : RW J m p := ⟨h1.trans h.1, h2.trans h.2.1, h3.trans h.2.2⟩
/-- a fault is noted -/
theorem RP.note (h : RP I m n f a F) (k p : Int32) : RP (u2 (u2 I (m + 1) 8 k) (m + 1) 9 p) m n f a (k, p) ∧ FR9 I (u2 (u2 I (m + 1) 8 k) (m + 1) 9 p) m := by
  have e : ∀ j, u2 (u2 I (m + 1) 8 k) (m + 1) 9 p m j = I m j := fun j => by rw [u2_a (by omega), u2_a (by omega)]
  refine ⟨⟨h.1.mv (e 2) (fun j hj => by rw [u2_k (by omega), u2_k (by omega)]), (e 3).trans h.2.1, (e 4).trans h.2.2.1, h.2.2.2.1.mv (e 5) (e 6) (e 7) (e 8), (e 9).trans h.2.2.2.2.1, by rw [u2_k (by decide), u2_s], u2_s _ _ _ _⟩, fun j _ => e j, fun j h1 h2 => by rw [u2_k h2, u2_k h1], fun a j h1 h2 => by rw [u2_a h2, u2_a h2]⟩
theorem t9_adv (hL : LM S P m) (hR : RP I m n f a F) (h : ∀ J : IT, RP J m n f (a + 1) F → FR9 I J m → Q none S P J) : T g MX9_advance 0 0 [.ref m] S P I Q := by
  refine t9_advance hL hR.1 hR.2.1 (ps_le _) (fun J e1 e2 e3 e4 e5 => h J ⟨hR.1.mv (e4 2 (by decide)) (fun j _ => e5 _ j (by omega)), e2, e1, e3, (e4 9 (by decide)).trans hR.2.2.2.2.1, (e5 _ _ (by omega)).trans hR.2.2.2.2.2.1, (e5 _ _ (by omega)).trans hR.2.2.2.2.2.2⟩ ⟨fun j hj => e4 j (by omega), fun j _ _ => e5 _ j (by omega), fun b j h1 _ => e5 b j h1⟩)
theorem t9_takes (hL : LM S P m) (hR : RP I m n f a F) (hw : (kd = 7 ∧ w = 30) ∨ (kd = 8 ∧ w = 31) ∨ (kd = 9 ∧ w = 32) ∨ (kd = 10 ∧ w = 20) ∨ (kd = 11 ∧ w = 21)) (hy : KK f n a = kd → ∀ J : IT, RP J m n f (a + 1) F → FR9 I J m → Q (some (.int 1)) S P J) (hn : ¬ KK f n a = kd → Q (some (.int 0)) S P I) : T g MX9_takes 0 0 [.ref m, .int w] S P I Q := by
  have hT := hR.2.2.2.1
  refine T_of rfl (Nat.le_of_ble_eq_true rfl) (s_X9_takes_0 ⟨hL.t, fun q => absurd hR.2.2.2.2.1 q, fun _ => ⟨fun q => hn (fun e => q (RT_kw1 (e ▸ hT) hw).1), fun q => ⟨fun q2 => t9_adv hL hR (fun J e1 e2 => s_X9_takes_29 (hy (RT_kw2 hT hw q q2) J e1 e2)), fun q2 => hn (fun e => q2 (RT_kw1 (e ▸ hT) hw).2)⟩⟩⟩)
theorem t9_takes_w {p : Int32} (hL : LM S P m) (hR : RW I m p) (h : Q (some (.int 0)) S P I) : T g MX9_takes 0 0 [.ref m, .int w] S P I Q :=
  T_of rfl (Nat.le_of_ble_eq_true rfl) (s_X9_takes_0 ⟨hL.t, fun _ => h, fun q => n10 (hR.1.symm.trans q)⟩)
theorem t9_must (hL : LM S P m) (hR : RP I m n f a F) (hw : (kd = 5 ∧ w = 58) ∨ (kd = 6 ∧ w = 59)) (hy : KK f n a = kd → ∀ J : IT, RP J m n f (a + 1) F → FR9 I J m → Q none S P J) (hn : ¬ KK f n a = kd → ∀ J : IT, RW J m (LL f n a) → FR9 I J m → Q none S P J) : T g MX9_must 0 0 [.ref m, .int w] S P I Q := by
  have hT := hR.2.2.2.1
  have h9 := hR.2.2.2.2.1
  have hs := stop_ok I m
  rw [hR.2.2.1] at hs
  refine T_of rfl (Nat.le_of_ble_eq_true rfl) (s_X9_must_0 ⟨hL.t, fun q => absurd h9 q, fun _ => ⟨fun q => ⟨fun _ => ⟨m + 1, hL.p, hL.a, 8, hL.ix rfl (by decide), 9, hL.ix rfl (by decide), hn (fun e => q (RT_sg1 (e ▸ hT) hw).1) _ hs.1 hs.2⟩, fun y => absurd h9 y⟩, fun q => ⟨fun q2 => ⟨fun _ => ⟨m + 1, hL.p, hL.a, 8, hL.ix rfl (by decide), 9, hL.ix rfl (by decide), hn (fun e => q2 (RT_sg1 (e ▸ hT) hw).2) _ hs.1 hs.2⟩, fun y => absurd h9 y⟩, fun q2 => t9_adv hL hR (fun J e1 e2 => s_X9_must_27 (hy (RT_sg2 hT hw q q2) J e1 e2))⟩⟩⟩)
theorem t9_must_w {p : Int32} (hL : LM S P m) (hR : RW I m p) (h : Q none S P I) : T g MX9_must 0 0 [.ref m, .int w] S P I Q :=
  T_of rfl (Nat.le_of_ble_eq_true rfl) (s_X9_must_0 ⟨hL.t, fun _ => ⟨fun q => n10 (hR.1.symm.trans q), fun _ => h⟩, fun q => n10 (hR.1.symm.trans q)⟩)
theorem t9_numbered (hL : LM S P m) (hR : RP I m n f a F) (hy : KK f n a = 2 → ∀ J : IT, RP J m n f (a + 1) F → FR9 I J m → Q (some (.int (MM f n a))) S P J) (hn : ¬ KK f n a = 2 → ∀ (J : IT) (z : Int32), RW J m (LL f n a) → FR9 I J m → Q (some (.int z)) S P J) : T g MX9_numbered 0 0 [.ref m] S P I Q := by
  have hT := hR.2.2.2.1
  have h9 := hR.2.2.2.2.1
  have hs := stop_ok I m
  rw [hR.2.2.1] at hs
  refine T_of rfl (Nat.le_of_ble_eq_true rfl) (s_X9_numbered_0 ⟨hL.t, fun q => absurd h9 q, fun _ => ⟨fun q => ⟨fun _ => ⟨m + 1, hL.p, hL.a, 8, hL.ix rfl (by decide), 9, hL.ix rfl (by decide), hn (fun e => q ((RT_2 hT).mpr e)) _ _ hs.1 hs.2⟩, fun y => absurd h9 y⟩, fun q => t9_adv hL hR (fun J e1 e2 => s_X9_numbered_24 ?_)⟩⟩)
  have e := (RT_2 hT).mp q
  have hT2 : RT I m 2 (MM f n a) := e ▸ hT
  rw [RT_2v hT2]
  exact hy e J e1 e2
theorem t9_numbered_w {p : Int32} (hL : LM S P m) (hR : RW I m p) (h : ∀ z : Int32, Q (some (.int z)) S P I) : T g MX9_numbered 0 0 [.ref m] S P I Q :=
  T_of rfl (Nat.le_of_ble_eq_true rfl) (s_X9_numbered_0 ⟨hL.t, fun _ => ⟨fun q => n10 (hR.1.symm.trans q), fun _ => h _⟩, fun q => n10 (hR.1.symm.trans q)⟩)
/-- what a test leaves as it was -/
def FT9 (I J : IT) (m : Nat) : Prop := (∀ j, (j < 3 ∨ 9 < j) → J m j = I m j) ∧ (∀ j, j ≠ 8 → j ≠ 9 → J (m + 1) j = I (m + 1) j) ∧ ∀ a j, a ≠ m → a ≠ m + 1 → a ≠ m + 4 → J a j = I a j
theorem FR9.t (h : FR9 I J m) : FT9 I J m := ⟨h.1, h.2.1, fun a j h1 h2 _ => h.2.2 a j h1 h2⟩
theorem FT9.tr (h : FT9 I J m) (h2 : FT9 J W m) : FT9 I W m := ⟨fun j hj => (h2.1 j hj).trans (h.1 j hj), fun j h3 h4 => (h2.2.1 j h3 h4).trans (h.2.1 j h3 h4), fun a j h3 h4 h5 => (h2.2.2 a j h3 h4 h5).trans (h.2.2 a j h3 h4 h5)⟩
theorem FT9.w4 (I : IT) (m j : Nat) (z : Int32) : FT9 I (u2 I (m + 4) j z) m := ⟨fun i _ => u2_a (by omega), fun i _ _ => u2_a (by omega), fun a i _ _ h => u2_a h⟩
theorem RP.w4 (h : RP I m n f a F) (j : Nat) (z : Int32) : RP (u2 I (m + 4) j z) m n f a F := h.mv (fun i _ => u2_a (by omega)) (fun i _ => u2_a (by omega))
theorem RW.w4 {p : Int32} (h : RW I m p) (j : Nat) (z : Int32) : RW (u2 I (m + 4) j z) m p := h.mv (u2_a (by omega)) (u2_a (by omega)) (u2_a (by omega))
/-- the four words of a test -/
def T4 (J : IT) (m : Nat) (K M : Nat → Int32) (p : Nat) : Prop := J (m + 4) 0 = (if K p = 9 then 1 else 0) ∧ (∃ s : Nat, s < 7 ∧ M (tA K p) = nI s ∧ J (m + 4) 1 = nI (s + 1)) ∧ ((M (tA K p + 1) = 1 ∧ J (m + 4) 2 = 60) ∨ (M (tA K p + 1) = 2 ∧ J (m + 4) 2 = 61) ∨ (M (tA K p + 1) = 4 ∧ J (m + 4) 2 = 62)) ∧ J (m + 4) 3 = M (tA K p + 2)
theorem t9_aTest (hL : LM S P m) (hR : RP I m n f a F) (hy : tO (KK f n) a → ∀ J : IT, RP J m n f (tA (KK f n) a + 3) F → FT9 I J m → T4 J m (KK f n) (MM f n) a → Q none S P J) (hn : ¬ tO (KK f n) a → ∀ J : IT, RW J m (LL f n (tF (KK f n) a)) → FT9 I J m → Q none S P J) : T g MX9_aTest 0 0 [.ref m] S P I Q := by
  have h4 := hL.2.2.2.1
  have ix4 : ∀ j : Nat, j < 4 → ∀ i : Int32, i = nI j → ix i j (sL S (m + 4)) := fun j hj i hi => ixe hi h4.2.2 hj (by decide)
  have s8 : ix 8 8 (sL S (m + 1)) := hL.ix rfl (by decide)
  have s9 : ix 9 9 (sL S (m + 1)) := hL.ix rfl (by decide)
  -- from the number on
  have num : ∀ (J : IT) (b : Nat), tA (KK f n) a = b → KK f n b = 3 → KK f n (b + 1) = 4 → RP J m n f (b + 2) F → FT9 I J m → J (m + 4) 0 = (if KK f n a = 9 then 1 else 0) → (∃ s : Nat, s < 7 ∧ MM f n b = nI s ∧ J (m + 4) 1 = nI (s + 1)) → ((MM f n (b + 1) = 1 ∧ J (m + 4) 2 = 60) ∨ (MM f n (b + 1) = 2 ∧ J (m + 4) 2 = 61) ∨ (MM f n (b + 1) = 4 ∧ J (m + 4) 2 = 62)) → B g MX9_aTest 0 0 112 [(0, .ref m)] [] S P J Q := by
    intro J b eb k3 k4 hJ fJ j0 j1 j2
    refine s_X9_aTest_112 ⟨hL.t, _, h4.1, t9_numbered hL hJ (fun k2 W e1 e2 => s_X9_aTest_121 ⟨h4.2.1, 3, ix4 3 (by decide) _ rfl, ?_⟩) (fun k2 W z e1 e2 => s_X9_aTest_121 ⟨h4.2.1, 3, ix4 3 (by decide) _ rfl, ?_⟩)⟩
    · have ho : tO (KK f n) a := by rw [tO, eb]; exact ⟨k3, k4, k2⟩
      have ew : ∀ j, W (m + 4) j = J (m + 4) j := fun j => e2.2.2 _ j (by omega) (by omega)
      refine hy ho _ (by rw [eb]; exact e1.w4 _ _) ((fJ.tr e2.t).tr (FT9.w4 W m 3 _)) ⟨?_, ?_, ?_, ?_⟩
      · rw [u2_k (by decide), ew]; exact j0
      · rw [eb, u2_k (by decide), ew]; exact j1
      · rw [eb, u2_k (by decide), ew]; exact j2
      · rw [eb, u2_s]
    · refine hn (fun q => k2 (by have := q.2.2; rw [eb] at this; exact this)) _ ?_ ((fJ.tr e2.t).tr (FT9.w4 W m 3 _))
      have : tF (KK f n) a = b + 2 := by unfold tF; rw [eb, if_pos k3, if_pos k4]
      rw [this]; exact e1.w4 _ _
  -- from the relation on
  have rel' : ∀ (J : IT) (b : Nat), tA (KK f n) a = b → KK f n b = 3 → RP J m n f (b + 1) F → FT9 I J m → J (m + 4) 0 = (if KK f n a = 9 then 1 else 0) → (∃ s : Nat, s < 7 ∧ MM f n b = nI s ∧ J (m + 4) 1 = nI (s + 1)) → B g MX9_aTest 0 0 67 [(0, .ref m)] [] S P J Q := by
    intro J b eb k3 hJ fJ j0 j1
    have V1 := hJ.w4 2 (J m 7)
    have V2 := fJ.tr (FT9.w4 J m 2 (J m 7))
    have v0 : u2 J (m + 4) 2 (J m 7) (m + 4) 0 = (if KK f n a = 9 then 1 else 0) := (u2_k (by decide)).trans j0
    have v1 : ∃ s : Nat, s < 7 ∧ MM f n b = nI s ∧ u2 J (m + 4) 2 (J m 7) (m + 4) 1 = nI (s + 1) := by rw [u2_k (by decide)]; exact j1
    have v2 : u2 J (m + 4) 2 (J m 7) (m + 4) 2 = u2 J (m + 4) 2 (J m 7) m 7 := by rw [u2_s, u2_a (by omega)]
    refine s_X9_aTest_67 ⟨hL.t, _, h4.1, h4.2.1, 2, ix4 2 (by decide) _ rfl, ?_⟩
    generalize u2 J (m + 4) 2 (J m 7) = V at V1 V2 v0 v1 v2 ⊢
    have hT := V1.2.2.2.1
    have h9 := V1.2.2.2.2.1
    have hs := stop_ok V m
    rw [V1.2.2.1] at hs
    have bad : ¬ KK f n (b + 1) = 4 → ((V m 9 = 0 → ∃ b9, P m 0 = b9 + 1 ∧ sT S b9 = 40 ∧ ∃ j12, ix 8 j12 (sL S b9) ∧ ∃ j14, ix 9 j14 (sL S b9) ∧ Q none S P (u2 (u2 (u2 V m 9 1) b9 j12 1) b9 j14 ((u2 (u2 V m 9 1) b9 j12 1) m 4))) ∧ (¬ V m 9 = 0 → Q none S P V)) := by
      intro k4
      refine ⟨fun _ => ⟨m + 1, hL.p, hL.a, 8, s8, 9, s9, hn (fun q => k4 (by have := q.2.1; rw [eb] at this; exact this)) _ ?_ (V2.tr hs.2.t)⟩, fun q => absurd h9 q⟩
      have : tF (KK f n) a = b + 1 := by unfold tF; rw [eb, if_pos k3, if_neg k4]
      rw [this]; exact hs.1
    refine ⟨fun q => bad (fun e => q (RT_4v (e ▸ hT)).1), fun q => ⟨fun q2 => bad (fun e => ?_), fun q2 => ⟨fun q3 => ?_, fun q3 => bad (fun e => ?_)⟩⟩⟩
    · rcases (RT_4v (e ▸ hT)).2 with ⟨-, e7⟩ | ⟨-, e7⟩ | ⟨-, e7⟩ <;> (rw [e7] at q2; exact absurd q2 (by decide))
    · have k4 := RT_4 hT q q2 q3
      refine t9_adv hL V1 (fun W e1 e2 => num W b eb k3 k4 e1 (V2.tr e2.t) ?_ ?_ ?_)
      · rw [e2.2.2 _ _ (by omega) (by omega)]; exact v0
      · rw [e2.2.2 _ _ (by omega) (by omega)]; exact v1
      · rw [e2.2.2 _ _ (by omega) (by omega), v2]; exact (RT_4v (k4 ▸ hT)).2
    · rcases (RT_4v (e ▸ hT)).2 with ⟨-, e7⟩ | ⟨-, e7⟩ | ⟨-, e7⟩ <;> (rw [e7] at q3; exact absurd q3 (by decide))
  -- from the subject on
  have sub : ∀ (J : IT) (b : Nat) (z : Int32), tA (KK f n) a = b → RP J m n f b F → FT9 I J m → z = (if KK f n a = 9 then 1 else 0) → B g MX9_aTest 0 0 19 [(0, .ref m)] [.int z, .int 0, .ref (m + 4)] S P J Q := by
    intro J b z eb hJ fJ hz
    have V1 := (hJ.w4 0 z).w4 1 (u2 J (m + 4) 0 z m 8)
    have V2 := (fJ.tr (FT9.w4 J m 0 z)).tr (FT9.w4 (u2 J (m + 4) 0 z) m 1 (u2 J (m + 4) 0 z m 8))
    have v0 : u2 (u2 J (m + 4) 0 z) (m + 4) 1 (u2 J (m + 4) 0 z m 8) (m + 4) 0 = (if KK f n a = 9 then 1 else 0) := by rw [u2_k (by decide), u2_s]; exact hz
    have v1 : u2 (u2 J (m + 4) 0 z) (m + 4) 1 (u2 J (m + 4) 0 z m 8) (m + 4) 1 = u2 (u2 J (m + 4) 0 z) (m + 4) 1 (u2 J (m + 4) 0 z m 8) m 8 := by rw [u2_s]; exact (u2_a (by omega)).symm
    refine s_X9_aTest_19 ⟨h4.2.1, 0, ix4 0 (by decide) _ rfl, hL.t, _, h4.1, h4.2.1, 1, ix4 1 (by decide) _ rfl, ?_⟩
    generalize u2 (u2 J (m + 4) 0 z) (m + 4) 1 (u2 J (m + 4) 0 z m 8) = V at V1 V2 v0 v1 ⊢
    have hT := V1.2.2.2.1
    have h9 := V1.2.2.2.2.1
    have hs := stop_ok V m
    rw [V1.2.2.1] at hs
    have bad : ¬ KK f n b = 3 → ((V m 9 = 0 → ∃ b9, P m 0 = b9 + 1 ∧ sT S b9 = 40 ∧ ∃ j12, ix 8 j12 (sL S b9) ∧ ∃ j14, ix 9 j14 (sL S b9) ∧ Q none S P (u2 (u2 (u2 V m 9 1) b9 j12 1) b9 j14 ((u2 (u2 V m 9 1) b9 j12 1) m 4))) ∧ (¬ V m 9 = 0 → Q none S P V)) := by
      intro k3
      refine ⟨fun _ => ⟨m + 1, hL.p, hL.a, 8, s8, 9, s9, hn (fun q => k3 (by have := q.1; rw [eb] at this; exact this)) _ ?_ (V2.tr hs.2.t)⟩, fun q => absurd h9 q⟩
      have : tF (KK f n) a = b := by unfold tF; rw [eb, if_neg k3]
      rw [this]; exact hs.1
    refine ⟨fun q => absurd h9 q, fun _ => ⟨fun q => bad (fun e => q (RT_3v (e ▸ hT)).1), fun q => ⟨fun q2 => ?_, fun q2 => bad (fun e => ?_)⟩⟩⟩
    · have k3 := RT_3 hT q q2
      refine t9_adv hL V1 (fun W e1 e2 => rel' W b eb k3 e1 (V2.tr e2.t) ?_ ?_)
      · rw [e2.2.2 _ _ (by omega) (by omega)]; exact v0
      · rw [e2.2.2 _ _ (by omega) (by omega), v1]; exact (RT_3v (k3 ▸ hT)).2
    · obtain ⟨-, s, hs7, -, h8⟩ := RT_3v (e ▸ hT)
      rw [h8] at q2
      have : wi (nI (s + 1)) 1 7 = 1 := by
        unfold wi
        rw [if_pos ⟨nI_le (a := 1) (by omega) (by omega), nI_le (b := 7) (by omega) (by decide)⟩]
      rw [this] at q2
      exact n10 q2
  refine T_of rfl (Nat.le_of_ble_eq_true rfl) (s_X9_aTest_0 ⟨hL.t, _, h4.1, t9_takes hL hR (kd := 9) (Or.inr (Or.inr (Or.inl ⟨rfl, rfl⟩))) (fun k9 W e1 e2 => s_X9_aTest_11 ⟨fun q => n10 q, fun _ => sub W (a + 1) 1 (by unfold tA; rw [if_pos k9]) e1 e2.t (by rw [if_pos k9])⟩) (fun k9 => s_X9_aTest_11 ⟨fun _ => sub I a 0 (by unfold tA; rw [if_neg k9]) hR FR9.rf.t (by rw [if_neg k9]), fun q => absurd rfl q⟩)⟩)
end REFP
