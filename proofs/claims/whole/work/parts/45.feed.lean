theorem by255 (y : Int32) : y.toInt8.toInt32 &&& 255 = y &&& 255 := by
  rw [← Int32.toBitVec_inj, Int32.toBitVec_and, Int32.toBitVec_and, Int8.toBitVec_toInt32, Int32.toBitVec_toInt8]
  ext i hi
  rw [BitVec.getElem_and, BitVec.getElem_and, BitVec.getElem_signExtend]
  have h255 : ∀ i (hi : i < 32), 8 ≤ i → ((255 : Int32).toBitVec)[i] = false := by decide
  by_cases q : i < 8
  · rw [dif_pos q, BitVec.getElem_signExtend, dif_pos hi]
  · rw [h255 i hi (by omega)]; simp
def shf (i : Nat) : Int32 := 24 - 8 * nI i
theorem shf_s (i : Nat) : shf i + -8 = shf (i + 1) := by unfold shf; rw [← nI_1]; grind
theorem shf_n {i : Nat} (h : i < 4) : ¬ shf i < 0 := by
  rcases (show i = 0 ∨ i = 1 ∨ i = 2 ∨ i = 3 by omega) with rfl | rfl | rfl | rfl <;> decide
def cby (w : Nat → Int32) (j : Nat) : Int32 := (w (j / 4) >>> (shf (j % 4) &&& 31)).toInt8.toInt32
def rby (w : Nat → Int32) (j : Nat) : Int32 := (w (j / 4) >>> (shf (j % 4) &&& 31)) &&& 255
section FEED
variable {g : GT} {S : ST} {P : PT} {I I' J K L : IT} {Q : QT} {x n m v p np nc nh nl c j ch o cc t tl : Nat} {z : Int32} {A A' f3 : Nat → Int32} {w : Nat → Int32}
theorem t_append (hT : LT S P t) (h1 : I t 1 = nI tl) (h3 : tl + 4 ≤ 300) (h : ∀ J : IT, (∀ i, i < 4 → J (t + 1) (tl + i) = (z >>> (shf i &&& 31)).toInt8.toInt32) → J t 1 = nI (tl + 4) → (∀ a k, (a ≠ t ∨ k ≠ 1) → (a ≠ t + 1 ∨ k < tl ∨ tl + 4 ≤ k) → J a k = I a k) → Q none S P J) : T g MX5_append 0 0 [.ref t, .int z] S P I Q := by
  refine T_of rfl (Nat.le_of_ble_eq_true rfl) (s_X5_append_0 ?_)
  have loop : ∀ k i J, i + k = 4 → (∀ y, y < i → J (t + 1) (tl + y) = (z >>> (shf y &&& 31)).toInt8.toInt32) → J t 1 = nI (tl + i) → (∀ a k, (a ≠ t ∨ k ≠ 1) → (a ≠ t + 1 ∨ k < tl ∨ tl + 4 ≤ k) → J a k = I a k) → B g MX5_append 0 0 3 [(0, .ref t), (1, .int z), (2, .int (shf i))] [] S P J Q := by
    intro k
    induction k with
    | zero =>
      intro i J he a1 a2 a3
      have ei : i = 4 := by omega
      subst ei
      exact s_X5_append_3 ⟨fun _ => h J a1 a2 a3, fun q => absurd (by decide) q⟩
    | succ k ih =>
      intro i J he a1 a2 a3
      refine s_X5_append_3 ⟨fun q => absurd q (shf_n (by omega)), fun _ => ⟨hT.1.1, fun q => ?_, fun q => ⟨_, hT.2.1, hT.1.2, tl + i, ixe a2 hT.2.2 (by omega) (by decide), ?_⟩⟩⟩
      · rw [a2] at q; exact absurd q (nI_ge (b := 300) (by omega) (by decide))
      · rw [shf_s, u2_a (show t ≠ t + 1 by omega), a2, nI_1]
        refine ih (i + 1) _ (by omega) (fun y hy => ?_) (by rw [u2_s]; rfl) (fun a k q1 q2 => ?_)
        · rw [u2_a (by omega)]
          by_cases e : y = i
          · subst e; rw [u2_s]
          · rw [u2_k (by omega)]; exact a1 y (by omega)
        · have e1 : ∀ (I0 : IT) (y : Int32), u2 I0 t 1 y a k = I0 a k := fun I0 y => q1.elim (fun e => u2_a e) (fun e => u2_k e)
          rw [e1]
          have e2 : ∀ (I0 : IT) (y : Int32), u2 I0 (t + 1) (tl + i) y a k = I0 a k := fun I0 y => q2.elim (fun e => u2_a e) (fun e => u2_k (by omega))
          rw [e2]; exact a3 a k q1 q2
  exact loop 4 0 I (by omega) (fun y hy => absurd hy (Nat.not_lt_zero y)) h1 (fun _ _ _ _ => rfl)
def APd (t tl q : Nat) (w : Nat → Int32) (I J : IT) : Prop := (∀ j, j < 4 * q → J (t + 1) (tl + j) = cby w j) ∧ J t 1 = nI (tl + 4 * q) ∧ ∀ a k, (a ≠ t ∨ k ≠ 1) → (a ≠ t + 1 ∨ k < tl ∨ tl + 4 * q ≤ k) → J a k = I a k
theorem t_app {q : Nat} (hT : LT S P t) (hA : APd t tl q w I J) (h3 : tl + 4 * (q + 1) ≤ 300) (hz : z = w q) (h : ∀ K : IT, APd t tl (q + 1) w I K → Q none S P K) : T g MX5_append 0 0 [.ref t, .int z] S P J Q := by
  obtain ⟨a1, a2, a3⟩ := hA
  refine t_append hT a2 (by omega) (fun K b1 b2 b3 => h K ⟨fun j hj => ?_, by rw [b2]; rfl, fun a k q1 q2 => ?_⟩)
  · by_cases e : j < 4 * q
    · rw [b3 _ _ (by omega) (by omega)]; exact a1 j e
    · have := b1 (j - 4 * q) (by omega)
      rw [show tl + 4 * q + (j - 4 * q) = tl + j by omega] at this
      rw [this, hz]
      unfold cby
      rw [show j / 4 = q by omega, show j % 4 = j - 4 * q by omega]
  · rw [b3 a k q1 (by omega)]; exact a3 a k q1 (by omega)
def wds (a b c d e : Int32) (q : Nat) : Int32 := if q = 0 then a else if q = 1 then b else if q = 2 then c else if q = 3 then d else e
theorem t9_feed_loop {a b c d e : Int32} (hL : LM S P m) (h7 : I (m + 1) 7 = nI tl) (h3 : tl + 20 ≤ 300) (h : ∀ J : IT, (∀ j, j < 20 → J (m + 1) (720 + (tl + j)) = rby (wds a b c d e) j) → J (m + 1) 7 = nI (tl + 20) → (∀ k, k ≠ 7 → (k < 720 + tl ∨ 720 + (tl + 20) ≤ k) → J (m + 1) k = I (m + 1) k) → (∀ y k, y ≠ m + 1 → J y k = I y k) → Q (some (.int (nI (tl + 20)))) S P J) : B g MX9_feed 0 0 21 [(0, .ref m), (1, .int a), (2, .int b), (3, .int c), (4, .int d), (5, .int e), (6, .int 0)] [] S P I Q := by
  have loop : ∀ k i J, i + k = 20 → (∀ j, j < i → J (m + 1) (720 + (tl + j)) = rby (wds a b c d e) j) → J (m + 1) 7 = nI (tl + i) → (∀ k, k ≠ 7 → (k < 720 + tl ∨ 720 + (tl + 20) ≤ k) → J (m + 1) k = I (m + 1) k) → (∀ y k, y ≠ m + 1 → J y k = I y k) → B g MX9_feed 0 0 21 [(0, .ref m), (1, .int a), (2, .int b), (3, .int c), (4, .int d), (5, .int e), (6, .int (nI i))] [] S P J Q := by
    intro k
    induction k with
    | zero =>
      intro i J he a1 a2 a3 a4
      have ei : i = 20 := by omega
      subst ei
      refine s_X9_feed_21 ⟨fun _ => ⟨hL.t, _, hL.p, hL.a, 7, hL.ix rfl (by decide), ?_⟩, fun q => absurd (by decide) q⟩
      rw [a2]; exact h J a1 a2 a3 a4
    | succ k ih =>
      intro i J he a1 a2 a3 a4
      have go : ∀ y, y = wds a b c d e (i / 4) → B g MX9_feed 0 0 74 [(0, .ref m), (1, .int a), (2, .int b), (3, .int c), (4, .int d), (5, .int e), (6, .int (nI i))] [.int y] S P J Q := by
        intro y hy
        refine s_X9_feed_74 ⟨hL.t, _, hL.p, hL.a, 7, hL.ix rfl (by decide), 720 + (tl + i), hL.ix (by rw [a2]; exact nI_add 720 (tl + i)) (by omega), ?_⟩
        have er : nI i - nI i / 4 * 4 = nI (i % 4) := pk_rem (a := i) (d := 4) (by omega) (by decide) (by decide)
        rw [nI_1, er, u2_k (show (7 : Nat) ≠ 720 + (tl + i) by omega), a2, nI_1]
        refine ih (i + 1) _ (by omega) (fun j hj => ?_) (by rw [u2_s]; rfl) (fun k q1 q2 => ?_) (fun y k q => ?_)
        · rw [u2_k (by omega)]
          by_cases t : j = i
          · subst t; rw [u2_s, hy]; rfl
          · rw [u2_k (by omega)]; exact a1 j (by omega)
        · rw [u2_k q1, u2_k (by omega)]; exact a3 k q1 q2
        · rw [u2_a q, u2_a q]; exact a4 y k q
      have le : ∀ b : Nat, b < 2 ^ 31 → (nI b ≤ nI i ↔ b ≤ i) := fun b hb => nI_cle hb (by omega)
      refine s_X9_feed_21 ⟨fun q => absurd q (nI_ge (b := 20) (by omega) (by decide)), fun _ => ⟨fun q1 => ⟨fun q2 => ⟨fun q3 => ⟨fun q4 => go _ ?_, fun q4 => go _ ?_⟩, fun q3 => go _ ?_⟩, fun q2 => go _ ?_⟩, fun q1 => go _ ?_⟩⟩
      · have := (le 16 (by decide)).mp q4
        unfold wds; rw [show i / 4 = 4 by omega]; rfl
      · have := (le 12 (by decide)).mp q3
        have := mt (le 16 (by decide)).mpr q4
        unfold wds; rw [show i / 4 = 3 by omega]; rfl
      · have := (le 8 (by decide)).mp q2
        have := mt (le 12 (by decide)).mpr q3
        unfold wds; rw [show i / 4 = 2 by omega]; rfl
      · have := (le 4 (by decide)).mp q1
        have := mt (le 8 (by decide)).mpr q2
        unfold wds; rw [show i / 4 = 1 by omega]; rfl
      · have := mt (le 4 (by decide)).mpr q1
        unfold wds; rw [show i / 4 = 0 by omega]; rfl
  exact loop 20 0 I (by omega) (fun j hj => absurd hj (Nat.not_lt_zero j)) h7 (fun _ _ _ => rfl) (fun _ _ _ => rfl)
theorem sim_feed (hS : Sim S P I x n) (a b c d e : Int32) : SimT g MX8_feed MX9_feed [.int a, .int b, .int c, .int d, .int e] x n S P I := by
  obtain ⟨hX, hR, hI, hd⟩ := id hS
  have hV := hX.v
  have hM := hX.m
  obtain ⟨nh, np, nc, nl, tl, rm, rk, rh, rp, rs, rc, rt⟩ := id hR
  have ht := rt.1.2.2
  have hT := hV.tp
  have e20 : nI tl + 20 = nI (tl + 20) := nI_add tl 20
  refine T_of rfl (Nat.le_of_ble_eq_true rfl) (s_X8_feed_0 ⟨hX.1.1, _, hX.1.2.1, hV.t, _, hV.p0, hT.1.1, fun q => ?_, fun q => ?_⟩)
  · rw [rt.1.2.1, e20] at q
    have h3 : tl + 20 ≤ 300 := (nI_cle (by omega) (by decide)).mp q
    have A0 : APd (x + 1 + 1) tl 0 (wds a b c d e) I I := ⟨fun j hj => absurd hj (by omega), rt.1.2.1, fun _ _ _ _ => rfl⟩
    refine t_app hT A0 (by omega) rfl (fun J1 A1 => s_X8_feed_31 ⟨hT.1.1, t_app hT A1 (by omega) rfl (fun J2 A2 => s_X8_feed_37 ⟨hT.1.1, t_app hT A2 (by omega) rfl (fun J3 A3 => s_X8_feed_43 ⟨hT.1.1, t_app hT A3 (by omega) rfl (fun J4 A4 => s_X8_feed_50 ⟨hT.1.1, t_app hT A4 (by omega) rfl (fun J A5 => s_X8_feed_57 ⟨hT.1.1, ?_⟩)⟩)⟩)⟩)⟩)
    obtain ⟨a1, a2, a3⟩ := A5
    have eJ : J (x + 96 + 1) = I (x + 96 + 1) := funext fun k => a3 _ _ (by omega) (by omega)
    rw [a2]
    refine T_of rfl (Nat.le_of_ble_eq_true rfl) (s_X9_feed_0 ⟨hM.t, _, hM.p, hM.a, 7, hM.ix rfl (by decide), fun q2 => t9_feed_loop hM (by rw [eJ]; exact rt.1.1) h3 (fun K b1 b2 b3 b4 => ⟨rfl, ⟨_, rfl⟩, ?_⟩), fun q2 => ?_⟩)
    · have eI : ∀ y k, y ≠ x + 97 → (y ≠ x + 2 ∨ k ≠ 1) → (y ≠ x + 3 ∨ k < tl ∨ tl + 20 ≤ k) → K y k = I y k := fun y k h1 h2 h3 => (b4 y k (by omega)).trans (a3 y k (by omega) (by omega))
      have eA : ∀ k, k ≠ 7 → (k < 720 + tl ∨ 720 + (tl + 20) ≤ k) → K (x + 96 + 1) k = I (x + 96 + 1) k := fun k h1 h2 => (b3 k h1 h2).trans (by rw [eJ])
      refine hS.step (fun p hp => Or.inl (eI _ _ (by unfold pA; omega) (by unfold pA; omega) (by unfold pA; omega))) (fun y k hy => eI _ _ (by omega) (by omega) (by omega)) (fun k hk => eA k (by omega) (by omega)) (fun k => eI _ _ (by omega) (by omega) (by omega)) (hR.tw (fun y k h1 h2 h3 h4 => eI _ _ (by omega) (by omega) (by omega)) (fun k h1 h2 => eA _ h2 (by omega)) (fun tl' h7 => ⟨tl + 20, ⟨b2, ?_, by omega⟩, fun k hk => ?_, fun k hk => ?_⟩))
      · rw [b4 _ _ (by omega)]; exact a2
      · have e2 : K (x + 1 + 2) k = J (x + 1 + 2) k := b4 _ _ (by omega)
        by_cases q3 : k < tl
        · rw [eA _ (by omega) (by omega), eI _ _ (by omega) (by omega) (by omega)]; exact rt.2.1 k q3
        · have f1 := b1 (k - tl) (by omega)
          have f2 := a1 (k - tl) (by omega)
          rw [show tl + (k - tl) = k by omega] at f1 f2
          have f2 : J (x + 1 + 2) k = _ := f2
          rw [f1, e2, f2]
          unfold cby rby
          rw [by255]
      · have e2 : K (x + 1 + 2) k = J (x + 1 + 2) k := b4 _ _ (by omega)
        rw [e2]
        by_cases q3 : tl ≤ k ∧ k < tl + 20
        · have f2 := a1 (k - tl) (by omega)
          rw [show tl + (k - tl) = k by omega] at f2
          have f2 : J (x + 1 + 2) k = _ := f2
          rw [f2]
          exact pk_fb _
        · rw [a3 _ _ (by omega) (by omega)]; exact rt.2.2 k hk
    · rw [eJ, rt.1.1, e20] at q2; exact absurd q q2
  · rw [rt.1.2.1] at q
    exact T_of rfl (Nat.le_of_ble_eq_true rfl) (s_X9_feed_0 ⟨hM.t, _, hM.p, hM.a, 7, hM.ix rfl (by decide), fun q2 => absurd (by rw [rt.1.1] at q2; exact q2) q, fun _ => ⟨rfl, ⟨_, rfl⟩, hS.up⟩⟩)
end FEED
