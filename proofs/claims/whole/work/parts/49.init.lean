theorem sA_n (S : ST) (t n : Nat) : sN (sA S t n) = sN S + 1 := rfl
/-- below c nothing has changed -/
def EX (c : Nat) (S S' : ST) (P P' : PT) (I I' : IT) : Prop := ∀ a, a < c → sT S' a = sT S a ∧ sL S' a = sL S a ∧ (∀ k, P' a k = P a k) ∧ ∀ k, I' a k = I a k
theorem EX.tr {c d : Nat} {S S' S2 : ST} {P P' P2 : PT} {I I' I2 : IT} (h : EX c S S' P P' I I') (h2 : EX d S' S2 P' P2 I' I2) (hd : c ≤ d) : EX c S S2 P P2 I I2 := fun a ha => by
  obtain ⟨a1, a2, a3, a4⟩ := h a ha
  obtain ⟨b1, b2, b3, b4⟩ := h2 a (by omega)
  exact ⟨b1.trans a1, b2.trans a2, fun k => (b3 k).trans (a3 k), fun k => (b4 k).trans (a4 k)⟩
theorem EX.nw {c t n : Nat} {S : ST} {P : PT} {I : IT} (hc : c ≤ sN S) : EX c S (sA S t n) P (zP P (sN S)) I (zI I (sN S)) := fun a ha => by
  have ne : a ≠ sN S := by omega
  exact ⟨by rw [sA_t, if_neg ne], by rw [sA_l, if_neg ne], fun k => by simp [zP, ne], fun k => by simp [zI, ne]⟩
theorem EX.pt {c a k x : Nat} {S : ST} {P : PT} {I : IT} (hc : c ≤ a) : EX c S S P (p2 P a k x) I I := fun b hb => by
  have ne : b ≠ a := by omega
  exact ⟨rfl, rfl, fun j => by simp [p2, ne], fun _ => rfl⟩
theorem EX.it {c a k : Nat} {x : Int32} {S : ST} {P : PT} {I : IT} (hc : c ≤ a) : EX c S S P P I (u2 I a k x) := fun b hb => by
  have ne : b ≠ a := by omega
  exact ⟨rfl, rfl, fun _ => rfl, fun j => u2_a ne⟩
theorem EX.rf {c : Nat} {S : ST} {P : PT} {I : IT} : EX c S S P P I I := fun _ _ => ⟨rfl, rfl, fun _ => rfl, fun _ => rfl⟩
theorem LT.ex {S S' : ST} {P P' : PT} {t : Nat} (h : LT S P t) (hS : ∀ a, t ≤ a → a < t + 2 → sT S' a = sT S a ∧ sL S' a = sL S a ∧ ∀ k, P' a k = P a k) : LT S' P' t := by
  unfold LT at h ⊢
  rw [(hS t (by omega) (by omega)).1, (hS (t + 1) (by omega) (by omega)).1, (hS t (by omega) (by omega)).2.2, (hS (t + 1) (by omega) (by omega)).2.1]; exact h
theorem LC.ex {S S' : ST} {P P' : PT} {c : Nat} (h : LC S P c) (hS : ∀ a, c ≤ a → a < c + 6 → sT S' a = sT S a ∧ sL S' a = sL S a ∧ ∀ k, P' a k = P a k) : LC S' P' c := by
  unfold LC at h ⊢
  have e := fun i (hi : i < 6) => hS (c + i) (by omega) (by omega)
  have e0 := hS c (by omega) (by omega)
  rw [e0.1, (e 1 (by omega)).1, (e 2 (by omega)).1, (e 3 (by omega)).1, (e 4 (by omega)).1, (e 5 (by omega)).1, e0.2.2, e0.2.2, e0.2.2, e0.2.2, e0.2.2, (e 1 (by omega)).2.1, (e 2 (by omega)).2.1, (e 3 (by omega)).2.1, (e 4 (by omega)).2.1, (e 5 (by omega)).2.1]; exact h
theorem LH.ex {S S' : ST} {P P' : PT} {c : Nat} (h : LH S P c) (hS : ∀ a, c ≤ a → a < c + 5 → sT S' a = sT S a ∧ sL S' a = sL S a ∧ ∀ k, P' a k = P a k) : LH S' P' c := by
  unfold LH at h ⊢
  have e := fun i (hi : i < 5) => hS (c + i) (by omega) (by omega)
  have e0 := hS c (by omega) (by omega)
  rw [e0.1, (e 1 (by omega)).1, (e 2 (by omega)).1, (e 3 (by omega)).1, (e 4 (by omega)).1, e0.2.2, e0.2.2, e0.2.2, e0.2.2, (e 1 (by omega)).2.1, (e 2 (by omega)).2.1, (e 3 (by omega)).2.1, (e 4 (by omega)).2.1]; exact h
theorem LK.ex {S S' : ST} {P P' : PT} {c : Nat} (h : LK S P c) (hS : ∀ a, c ≤ a → a < c + 5 → sT S' a = sT S a ∧ sL S' a = sL S a ∧ ∀ k, P' a k = P a k) : LK S' P' c := by
  unfold LK at h ⊢
  have e := fun i (hi : i < 5) => hS (c + i) (by omega) (by omega)
  have e0 := hS c (by omega) (by omega)
  rw [e0.1, (e 1 (by omega)).1, (e 2 (by omega)).1, (e 3 (by omega)).1, (e 4 (by omega)).1, e0.2.2, e0.2.2, e0.2.2, e0.2.2, (e 1 (by omega)).2.1, (e 2 (by omega)).2.1, (e 3 (by omega)).2.1, (e 4 (by omega)).2.1]; exact h
section INIT
variable {g : GT} {S : ST} {P : PT} {I : IT} {Q : QT} {c v : Nat}
theorem t_init0 (hc : sT S c = 1) (hn : sN S = c + 1) (h : ∀ S' P' I', sN S' = c + 6 → LC S' P' c → I' c 0 = 0 → EX c S S' P P' I I' → Q none S' P' I') : T g MX0_init 5 168 [.ref c] S P I Q := by
  refine T_of rfl (Nat.le_of_ble_eq_true rfl) (s_X0_init_0 (rc := 0) (rs := 0) ⟨hc, ?_, ?_, ?_, ?_, ?_, h _ _ _ ?_ ?_ ?_ (fun a ha => ?_)⟩)
  · simp [sA_t, Nat.add_assoc, hn, hc]
  · simp [sA_t, sA_n, Nat.add_assoc, hn, hc]
  · simp [sA_t, sA_n, Nat.add_assoc, hn, hc]
  · simp [sA_t, sA_n, Nat.add_assoc, hn, hc]
  · simp [sA_t, sA_n, Nat.add_assoc, hn, hc]
  · simp [sA_n, Nat.add_assoc, hn]
  · simp [LC, sA_t, sA_l, sA_n, Nat.add_assoc, hn, hc, p2, zP]
  · simp [zI, u2, sA_n, Nat.add_assoc, hn]
  · have h0 : a ≠ c := by omega
    have h1 : a ≠ c + 1 := by omega
    have h2 : a ≠ c + 2 := by omega
    have h3 : a ≠ c + 3 := by omega
    have h4 : a ≠ c + 4 := by omega
    have h5 : a ≠ c + 5 := by omega
    simp [sA_t, sA_l, sA_n, Nat.add_assoc, hn, p2, zP, zI, u2, h0, h1, h2, h3, h4, h5]
theorem t_init1 (hc : sT S c = 2) (hn : sN S = c + 1) (h : ∀ S' P' I', sN S' = c + 5 → LH S' P' c → (I' c 0 = 0 ∧ I' c 1 = 0 ∧ I' c 2 = 0 ∧ I' c 3 = 0 ∧ I' c 4 = 0) → EX c S S' P P' I I' → Q none S' P' I') : T g MX1_init 4 32 [.ref c] S P I Q := by
  refine T_of rfl (Nat.le_of_ble_eq_true rfl) (s_X1_init_0 (rc := 0) (rs := 0) ⟨hc, ?_, ?_, ?_, ?_, h _ _ _ ?_ ?_ ?_ (fun a ha => ?_)⟩)
  · simp [sA_t, Nat.add_assoc, hn, hc]
  · simp [sA_t, sA_n, Nat.add_assoc, hn, hc]
  · simp [sA_t, sA_n, Nat.add_assoc, hn, hc]
  · simp [sA_t, sA_n, Nat.add_assoc, hn, hc]
  · simp [sA_n, Nat.add_assoc, hn]
  · simp [LH, sA_t, sA_l, sA_n, Nat.add_assoc, hn, hc, p2, zP]
  · simp [zI, u2, sA_n, Nat.add_assoc, hn]
  · have h0 : a ≠ c := by omega
    have h1 : a ≠ c + 1 := by omega
    have h2 : a ≠ c + 2 := by omega
    have h3 : a ≠ c + 3 := by omega
    have h4 : a ≠ c + 4 := by omega
    simp [sA_t, sA_l, sA_n, Nat.add_assoc, hn, p2, zP, zI, u2, h0, h1, h2, h3, h4]
theorem t_init2 (hc : sT S c = 3) (hn : sN S = c + 1) (h : ∀ S' P' I', sN S' = c + 5 → LK S' P' c → (I' c 0 = 3 ∧ I' c 1 = 0 ∧ I' c 2 = 0) → (∀ j, j < 6 → I' (c + 1) j = 20) → (∀ j, j < 24 → I' (c + 3) j = kv j ∧ I' (c + 4) j = -1) → EX c S S' P P' I I' → Q none S' P' I') : T g MX2_init 4 60 [.ref c] S P I Q := by
  refine T_of rfl (Nat.le_of_ble_eq_true rfl) (s_X2_init_0 (rc := 0) (rs := 0) ⟨hc, ?_, ?_, ?_, ?_, ?_⟩)
  · simp [sA_t, Nat.add_assoc, hn, hc]
  · simp [sA_t, sA_n, Nat.add_assoc, hn, hc]
  · simp [sA_t, sA_n, Nat.add_assoc, hn, hc]
  · simp [sA_t, sA_n, Nat.add_assoc, hn, hc]
  · have hK : LK (sA (sA (sA (sA S 40 6) 40 6) 40 24) 40 24) (p2 (zP (p2 (zP (p2 (zP (p2 (zP P (sN S)) c 3 ((sN S) + 1)) (sN (sA S 40 6))) c 4 ((sN (sA S 40 6)) + 1)) (sN (sA (sA S 40 6) 40 6))) c 5 ((sN (sA (sA S 40 6) 40 6)) + 1)) (sN (sA (sA (sA S 40 6) 40 6) 40 24))) c 6 ((sN (sA (sA (sA S 40 6) 40 6) 40 24)) + 1)) c := by
      simp [LK, sA_t, sA_l, sA_n, Nat.add_assoc, hn, hc, p2, zP]
    refine t_build hK (s_X2_init_56 ⟨hK.1.1, t_clear hK (s_X2_init_60 (h _ _ _ ?_ hK ?_ (fun j hj => ?_) (fun j hj => ⟨?_, ?_⟩) (fun a ha => ?_)))⟩)
    · simp [sA_n, Nat.add_assoc, hn]
    · rw [fil_a (by omega), fil_a (by omega), fil_a (by omega), fil_a (by omega), fil_a (by omega), fil_a (by omega), fil_a (by omega), fil_a (by omega), fil_a (by omega)]
      simp [zI, u2, sA_n, Nat.add_assoc, hn]
    · rw [fil_a (by omega), fil_a (by omega), fil_in (by omega) hj]
    · rw [fil_a (by omega), fil_in (by omega) hj]
    · rw [fil_in (by omega) hj]
    · have h0 : a ≠ c := by omega
      have h1 : a ≠ c + 1 := by omega
      have h2 : a ≠ c + 2 := by omega
      have h3 : a ≠ c + 3 := by omega
      have h4 : a ≠ c + 4 := by omega
      refine ⟨?_, ?_, fun k => ?_, fun k => ?_⟩
      · simp [sA_t, sA_n, Nat.add_assoc, hn, h1, h2, h3, h4]
      · simp [sA_l, sA_n, Nat.add_assoc, hn, h1, h2, h3, h4]
      · simp [sA_n, Nat.add_assoc, hn, p2, zP, h0, h1, h2, h3, h4]
      · rw [fil_a (by omega), fil_a (by omega), fil_a (by omega)]
        simp [zI, u2, sA_n, Nat.add_assoc, hn, h0, h1, h2, h3, h4]
theorem t_init3 (hc : sT S c = 4) (h : ∀ I', I' c 6 = 0 → (∀ a k, a ≠ c → I' a k = I a k) → Q none S P I') : T g MX3_init 0 0 [.ref c] S P I Q := by
  refine T_of rfl (Nat.le_of_ble_eq_true rfl) (s_X3_init_0 (rc := 0) (rs := 0) ⟨hc, h _ ?_ (fun a k ha => ?_)⟩)
  · simp [u2]
  · simp [u2, ha]
theorem t_init5 (hc : sT S c = 6) (hn : sN S = c + 1) (h : ∀ S' P' I', sN S' = c + 2 → LT S' P' c → I' c 1 = 0 → (∀ j, I' (c + 1) j = 0) → EX c S S' P P' I I' → Q none S' P' I') : T g MX5_init 1 300 [.ref c] S P I Q := by
  refine T_of rfl (Nat.le_of_ble_eq_true rfl) (s_X5_init_0 (rc := 0) (rs := 0) ⟨?_, h _ _ _ ?_ ?_ ?_ (fun j => ?_) (fun a ha => ?_)⟩)
  · simp [sA_t, Nat.add_assoc, hn, hc]
  · simp [sA_n, Nat.add_assoc, hn]
  · simp [LT, sA_t, sA_l, hn, hc, p2, zP]
  · simp [u2]
  · simp [u2, zI, hn]
  · have h0 : a ≠ c := by omega
    have h1 : a ≠ c + 1 := by omega
    simp [sA_t, sA_l, hn, p2, zP, zI, u2, h0, h1]
theorem t_init6 {t : Nat} (hc : sT S c = 7) (hn : sN S = c + 1) (h : ∀ S' P' I', sN S' = c + 4 → ((sT S' c = 7 ∧ P' c 0 = t + 1 ∧ P' c 1 = c + 1 + 1 ∧ P' c 2 = c + 2 + 1 ∧ P' c 3 = c + 3 + 1) ∧ (sT S' (c + 1) = 40 ∧ sL S' (c + 1) = 301 ∧ sT S' (c + 2) = 40 ∧ sL S' (c + 2) = 301 ∧ sT S' (c + 3) = 40 ∧ sL S' (c + 3) = 301)) → EX c S S' P P' I I' → Q none S' P' I') : T g MX6_init 3 903 [.ref c, .ref t] S P I Q := by
  refine T_of rfl (Nat.le_of_ble_eq_true rfl) (s_X6_init_0 (rc := 0) (rs := 0) ⟨?_, ?_, ?_, h _ _ _ ?_ ?_ (fun a ha => ?_)⟩)
  · simp [sA_t, Nat.add_assoc, hn, hc]
  · simp [sA_t, sA_n, Nat.add_assoc, hn, hc]
  · simp [sA_t, sA_n, Nat.add_assoc, hn, hc]
  · simp [sA_n, Nat.add_assoc, hn]
  · simp [sA_t, sA_l, sA_n, Nat.add_assoc, hn, hc, p2, zP]
  · have h0 : a ≠ c := by omega
    have h1 : a ≠ c + 1 := by omega
    have h2 : a ≠ c + 2 := by omega
    have h3 : a ≠ c + 3 := by omega
    simp [sA_t, sA_l, sA_n, Nat.add_assoc, hn, p2, zP, zI, u2, h0, h1, h2, h3]
theorem t_init4 {t : Nat} (hc : sT S c = 5) (hn : sN S = c + 1) (h : ∀ S' P' I', sN S' = c + 11 → (sT S' c = 5 ∧ P' c 0 = c + 1 + 1 ∧ P' c 3 = c + 7 + 1) → LC S' P' (c + 1) → ((sT S' (c + 7) = 7 ∧ P' (c + 7) 0 = t + 1 ∧ P' (c + 7) 1 = c + 8 + 1 ∧ P' (c + 7) 2 = c + 9 + 1 ∧ P' (c + 7) 3 = c + 10 + 1) ∧ (sT S' (c + 8) = 40 ∧ sL S' (c + 8) = 301 ∧ sT S' (c + 9) = 40 ∧ sL S' (c + 9) = 301 ∧ sT S' (c + 10) = 40 ∧ sL S' (c + 10) = 301)) → EX c S S' P P' I I' → Q none S' P' I') : T g MX4_init 10 1084 [.ref c, .ref t] S P I Q := by
  refine T_of rfl (Nat.le_of_ble_eq_true rfl) (s_X4_init_0 (rc := 4) (rs := 910) ?_)
  rw [hn]
  refine t_init0 (by rw [sA_t, hn, if_pos rfl]) (by rw [sA_n, Nat.add_assoc, hn]) (fun S1 P1 I1 n1 L1 z1 E1 => ?_)
  have E0 : EX (c + 1) S S1 P P1 I I1 := by
    have := (EX.nw (t := 1) (n := 0) (P := P) (I := I) (show c + 1 ≤ sN S by omega))
    rw [hn] at this
    exact this.tr E1 (Nat.le_refl _)
  have hc1 : sT S1 c = 5 := (E0 c (by omega)).1.trans hc
  refine s_X4_init_12 (rc := 0) (rs := 0) ⟨hc1, hc1, ?_⟩
  rw [show sN S1 = c + 7 from n1]
  refine t_init6 (by rw [sA_t, n1, if_pos rfl]) (by rw [sA_n, n1]) (fun S2 P2 I2 n2 L2 E2 => ?_)
  have hE3 : EX c S1 S2 P1 (p2 P2 c 3 (c + 7 + 1)) I1 I2 := by
    intro a ha
    obtain ⟨b1, b2, b3, b4⟩ := E2 a (by omega)
    have h7 : a ≠ c + 7 := by omega
    have h0 : a ≠ c := by omega
    refine ⟨b1.trans (by rw [sA_t, n1, if_neg h7]), b2.trans (by rw [sA_l, n1, if_neg h7]), fun k => ?_, fun k => ?_⟩
    · simp only [p2, h0, false_and, if_false, b3]
      simp [zP, p2, h7, h0]
    · rw [b4]; simp [zI, u2, h7, h0]
  have hm : ∀ a, c ≤ a → a < c + 7 → sT S2 a = sT S1 a ∧ sL S2 a = sL S1 a := fun a h1 h2 => by
    obtain ⟨b1, b2, b3, b4⟩ := E2 a (by omega)
    have h7 : a ≠ c + 7 := by omega
    exact ⟨b1.trans (by rw [sA_t, n1, if_neg h7]), b2.trans (by rw [sA_l, n1, if_neg h7])⟩
  have hp : ∀ a k, c < a → a < c + 7 → P2 a k = P1 a k := fun a k h1 h2 => by
    obtain ⟨b1, b2, b3, b4⟩ := E2 a (by omega)
    have h7 : a ≠ c + 7 := by omega
    have h0 : a ≠ c := by omega
    rw [b3]; simp [zP, p2, h7, h0]
  have hp0 : P2 c 0 = c + 1 + 1 := by
    rw [(E2 c (by omega)).2.2.1]; simp [zP, p2]
  refine s_X4_init_39 (rc := 0) (rs := 0) ⟨((hm c (by omega) (by omega)).1).trans hc1, h S2 _ I2 n2 ⟨((hm c (by omega) (by omega)).1).trans hc1, ?_, ?_⟩ (L1.ex (fun a h1 h2 => ⟨(hm a (by omega) (by omega)).1, (hm a (by omega) (by omega)).2, fun k => ?_⟩)) ?_ ?_⟩
  · simp [p2, hp0]
  · simp [p2]
  · have h0 : a ≠ c := by omega
    simp only [p2, h0, false_and, if_false]
    exact hp a k (by omega) (by omega)
  · simpa [p2] using L2
  · exact EX.tr (c := c) (S := S) (S' := S1) (P := P) (P' := P1) (I := I) (I' := I1) (fun a ha => E0 a (by omega)) hE3 (Nat.le_refl _)
end INIT
