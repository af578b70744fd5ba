def hfl (h : Nat → Int32) (j : Nat) : Int32 := (h j - h (j + 1)) / 4
def hlo (h : Nat → Int32) (j : Nat) : Int32 := h j - (h j - 20) / 16
def hn (h : Nat → Int32) (nc j : Nat) : Int32 := hlo h j - (if j + 1 < nc then hfl h j else 0) + (if 1 ≤ j then hfl h (j - 1) else 0)
def hg (h : Nat → Int32) (nc i j : Nat) : Int32 := if j < nc then hlo h j - (if j < i then hfl h j else 0) + (if 1 ≤ j ∧ j ≤ i then hfl h (j - 1) else 0) else h j
theorem hg_0 (h : Nat → Int32) (nc j : Nat) : hg h nc 0 j = if j < nc then hlo h j else h j := by
  unfold hg
  by_cases q : j < nc
  · rw [if_pos q, if_pos q, if_neg (by omega), if_neg (by omega)]; grind
  · rw [if_neg q, if_neg q]
theorem hg_s1 {h : Nat → Int32} {nc i : Nat} (hi : i < nc) : hg h nc (i + 1) i = hg h nc i i - hfl h i := by
  unfold hg
  rw [if_pos hi, if_pos hi, if_pos (show i < i + 1 by omega), if_neg (show ¬ i < i by omega)]
  by_cases q : 1 ≤ i
  · rw [if_pos (show 1 ≤ i ∧ i ≤ i + 1 by omega), if_pos (show 1 ≤ i ∧ i ≤ i by omega)]; grind
  · rw [if_neg (show ¬ (1 ≤ i ∧ i ≤ i + 1) by omega), if_neg (show ¬ (1 ≤ i ∧ i ≤ i) by omega)]; grind
theorem hg_s2 {h : Nat → Int32} {nc i : Nat} (hi : i + 1 < nc) : hg h nc (i + 1) (i + 1) = hg h nc i (i + 1) + hfl h i := by
  unfold hg
  rw [if_pos hi, if_pos hi, if_neg (by omega), if_pos (by omega), if_neg (by omega), if_neg (by omega)]
  simp only [Nat.add_sub_cancel]
  grind
theorem hg_s3 {h : Nat → Int32} {nc i j : Nat} (h1 : j ≠ i) (h2 : j ≠ i + 1) : hg h nc (i + 1) j = hg h nc i j := by
  unfold hg
  by_cases q : j < nc
  · rw [if_pos q, if_pos q]
    by_cases q2 : j < i
    · rw [if_pos (by omega), if_pos q2]
      by_cases q3 : 1 ≤ j
      · rw [if_pos (by omega), if_pos (by omega)]
      · rw [if_neg (by omega), if_neg (by omega)]
    · rw [if_neg (by omega), if_neg q2, if_neg (by omega), if_neg (by omega)]
  · rw [if_neg q, if_neg q]
theorem hg_n {h : Nat → Int32} {nc j : Nat} (hj : j < nc) : hg h nc (nc - 1) j = hn h nc j := by
  unfold hg hn
  rw [if_pos hj]
  by_cases q : j + 1 < nc
  · rw [if_pos q, if_pos (by omega)]
    by_cases q3 : 1 ≤ j
    · rw [if_pos (by omega), if_pos q3]
    · rw [if_neg (by omega), if_neg q3]
  · rw [if_neg q, if_neg (by omega)]
    by_cases q3 : 1 ≤ j
    · rw [if_pos (by omega), if_pos q3]
    · rw [if_neg (by omega), if_neg q3]
section KILN2
variable {g : GT} {S : ST} {P : PT} {I : IT} {Q : QT} {k : Nat}
theorem t_burn {nc ch : Nat} {lg : Int32} (hK : LK S P k) (hc : I k 0 = nI nc) (h2 : 2 ≤ nc) (h6 : nc ≤ 6) (hch : ch < nc)
    (h : ∀ J : IT, (∀ j, j < 6 → J (k + 2) j = I (k + 1) j) → (∀ j, j < nc → J (k + 1) j = hn (I (k + 1)) nc j + (if j = ch then 60 * lg else 0)) → (∀ j, nc ≤ j → j < 6 → J (k + 1) j = I (k + 1) j) → J k 1 = I k 1 + 1 → J k 2 = I k 2 + lg → (∀ a j, a ≠ k → a ≠ k + 1 → a ≠ k + 2 → J a j = I a j) → (∀ j, j ≠ 1 → j ≠ 2 → J k j = I k j) → Q none S P J) : T g MX2_burn 0 0 [.ref k, .int (nI ch), .int lg] S P I Q := by
  refine T_of rfl (Nat.le_of_ble_eq_true rfl) (s_X2_burn_0 ⟨hK.1.1, _, hK.2.1.1, _, hK.2.1.2.1, hK.1.2.1, hK.1.2.2.1, by rw [hK.2.2.1]; decide, by rw [hK.2.2.2.1]; decide, ?_⟩)
  have loop2 : ∀ n i J, i + 1 + n = nc → (∀ j, j < 6 → J (k + 2) j = I (k + 1) j) → (∀ j, j < 6 → J (k + 1) j = hg (I (k + 1)) nc i j) → (∀ a j, a ≠ k + 1 → a ≠ k + 2 → J a j = I a j) → B g MX2_burn 0 0 54 [(0, .ref k), (1, .int (nI ch)), (2, .int lg), (3, .int (nI i))] [] S P J Q := by
    intro n
    induction n with
    | zero =>
      intro i J he a1 a2 a3
      have ec : J k 0 = nI nc := by rw [a3 k 0 (by omega) (by omega)]; exact hc
      refine s_X2_burn_54 ⟨hK.1.1, fun _ => ⟨_, hK.2.1.1, hK.1.2.1, ch, ixl hK.2.2.1 (by omega) (by decide), ?_⟩, fun q => ?_⟩
      · have hi : i = nc - 1 := by omega
        subst hi
        refine h _ (fun j hj => ?_) (fun j hj => ?_) (fun j hj hj2 => ?_) ?_ ?_ (fun a j b1 b2 b3 => ?_) (fun j b1 b2 => ?_)
        · rw [u2_a (by omega), u2_a (by omega), u2_a (by omega)]; exact a1 j hj
        · rw [u2_a (by omega), u2_a (by omega)]
          by_cases q : j = ch
          · subst q
            rw [u2_s, a2 j (by omega), hg_n hj, if_pos rfl]
          · rw [u2_k q, a2 j (by omega), hg_n hj, if_neg q]; grind
        · rw [u2_a (by omega), u2_a (by omega), u2_k (by omega), a2 j hj2]
          unfold hg; rw [if_neg (by omega)]
        · rw [u2_k (by decide), u2_s, u2_a (by omega), a3 k 1 (by omega) (by omega)]
        · rw [u2_s, u2_a (by omega), a3 k 2 (by omega) (by omega)]
        · rw [u2_a b1, u2_a b1, u2_a b2]; exact a3 a j b2 b3
        · rw [u2_k b2, u2_k b1, u2_a (by omega)]; exact a3 k j (by omega) (by omega)
      · rw [ec, nI_1] at q; exact absurd (nI_le (by omega) (by omega)) q
    | succ n ih =>
      intro i J he a1 a2 a3
      have ec : J k 0 = nI nc := by rw [a3 k 0 (by omega) (by omega)]; exact hc
      refine s_X2_burn_54 ⟨hK.1.1, fun q => ?_, fun q => ⟨_, hK.2.1.2.1, hK.1.2.2.1, i, ixl hK.2.2.2.1 (by omega) (by decide), i + 1, ixe (nI_1 i) hK.2.2.2.1 (by omega) (by decide), _, hK.2.1.1, hK.1.2.1, i, ixl hK.2.2.1 (by omega) (by decide), i + 1, ixe (nI_1 i) hK.2.2.1 (by omega) (by decide), ?_⟩⟩
      · rw [ec, nI_1] at q; exact absurd q (nI_ge (by omega) (by omega))
      · rw [nI_1, a1 i (by omega), a1 (i + 1) (by omega)]
        have ef : (I (k + 1) i - I (k + 1) (i + 1)) / 4 = hfl (I (k + 1)) i := rfl
        rw [ef]
        refine ih (i + 1) _ (by omega) (fun j hj => ?_) (fun j hj => ?_) (fun a j b1 b2 => ?_)
        · rw [u2_a (by omega), u2_a (by omega)]; exact a1 j hj
        · by_cases q1 : j = i + 1
          · subst q1
            rw [u2_s, u2_k (by omega), a2 (i + 1) hj, hg_s2 (by omega)]
          · rw [u2_k q1]
            by_cases q2 : j = i
            · subst q2
              rw [u2_s, a2 j hj, hg_s1 (by omega)]
            · rw [u2_k q2, a2 j hj, hg_s3 q2 q1]
        · rw [u2_a b1, u2_a b1]; exact a3 a j b1 b2
  have loop1 : ∀ n i J, i + n = nc → (∀ j, j < 6 → J (k + 2) j = I (k + 1) j) → (∀ j, j < 6 → J (k + 1) j = if j < i then hlo (I (k + 1)) j else I (k + 1) j) → (∀ a j, a ≠ k + 1 → a ≠ k + 2 → J a j = I a j) → B g MX2_burn 0 0 17 [(0, .ref k), (1, .int (nI ch)), (2, .int lg), (3, .int (nI i))] [] S P J Q := by
    intro n
    induction n with
    | zero =>
      intro i J he a1 a2 a3
      have ec : J k 0 = nI nc := by rw [a3 k 0 (by omega) (by omega)]; exact hc
      refine s_X2_burn_17 ⟨hK.1.1, fun _ => loop2 (nc - 1) 0 J (by omega) a1 (fun j hj => ?_) a3, fun q => ?_⟩
      · rw [a2 j hj, hg_0, show i = nc by omega]
      · rw [ec] at q; exact absurd (nI_le (by omega) (by omega)) q
    | succ n ih =>
      intro i J he a1 a2 a3
      have ec : J k 0 = nI nc := by rw [a3 k 0 (by omega) (by omega)]; exact hc
      refine s_X2_burn_17 ⟨hK.1.1, fun q => ?_, fun q => ⟨_, hK.2.1.1, hK.1.2.1, i, ixl hK.2.2.1 (by omega) (by decide), _, hK.2.1.2.1, hK.1.2.2.1, i, ixl hK.2.2.2.1 (by omega) (by decide), ?_⟩⟩
      · rw [ec] at q; exact absurd q (nI_ge (by omega) (by omega))
      · rw [nI_1, a1 i (by omega), a2 i (by omega), if_neg (by omega)]
        refine ih (i + 1) _ (by omega) (fun j hj => ?_) (fun j hj => ?_) (fun a j b1 b2 => ?_)
        · rw [u2_a (by omega)]; exact a1 j hj
        · by_cases q2 : j = i
          · subst q2
            rw [u2_s, if_pos (by omega)]; rfl
          · rw [u2_k q2, a2 j hj]
            by_cases q3 : j < i
            · rw [if_pos q3, if_pos (by omega)]
            · rw [if_neg q3, if_neg (by omega)]
        · rw [u2_a b1]; exact a3 a j b1 b2
  refine loop1 nc 0 _ (by omega) (fun j hj => ?_) (fun j hj => ?_) (fun a j b1 b2 => ?_)
  · simp [cpI, hj]
  · simp [cpI]
  · simp [cpI, b2]
/-- an int that is a number or none -/
def ob (n : Nat) : Int32 := if n = 0 then -1 else nI (n - 1)
def bpf (val : Nat → Int32) (fr : Nat → Bool) : Nat → Nat
  | 0 => 0
  | n + 1 => if fr n = true ∧ (bpf val fr n = 0 ∨ val (bpf val fr n - 1) < val n) then n + 1 else bpf val fr n
theorem bpf_le (val : Nat → Int32) (fr : Nat → Bool) : ∀ n, bpf val fr n ≤ n
  | 0 => Nat.le_refl 0
  | n + 1 => by
    have ih := bpf_le val fr n
    unfold bpf
    split <;> omega
theorem ob_m1 {n : Nat} (h : n < 2 ^ 31) : ob n = -1 ↔ n = 0 := by
  unfold ob
  by_cases q : n = 0
  · simp [q]
  · rw [if_neg q]
    exact ⟨fun z => absurd z (nI_m1 (by omega)), fun z => absurd z q⟩
theorem ob_n {n : Nat} (h : n ≠ 0) : ob n = nI (n - 1) := if_neg h
theorem t_bestFreePlace {nc : Nat} (hK : LK S P k) (hc : I k 0 = nI nc) (h6 : nc ≤ 6) (h : Q (some (.int (ob (bpf (I (k + 3)) (fun j => decide (I (k + 4) j = -1)) (4 * nc))))) S P I) : T g MX2_bestFreePlace 0 0 [.ref k] S P I Q := by
  refine T_of rfl (Nat.le_of_ble_eq_true rfl) (s_X2_bestFreePlace_0 ?_)
  have e4 : I k 0 * 4 = nI (4 * nc) := by rw [hc, Nat.mul_comm]; exact pk_mul nc 4
  have loop : ∀ n i, i + n = 4 * nc → B g MX2_bestFreePlace 0 0 4 [(0, .ref k), (1, .int (ob (bpf (I (k + 3)) (fun j => decide (I (k + 4) j = -1)) i))), (2, .int (nI i))] [] S P I Q := by
    intro n
    induction n with
    | zero =>
      intro i he
      refine s_X2_bestFreePlace_4 ⟨hK.1.1, fun _ => ?_, fun q => ?_⟩
      · rw [show i = 4 * nc by omega]; exact h
      · rw [e4] at q; exact absurd (nI_le (by omega) (by omega)) q
    | succ n ih =>
      intro i he
      have hle := bpf_le (I (k + 3)) (fun j => decide (I (k + 4) j = -1)) i
      have hs := ih (i + 1) (by omega)
      rw [bpf] at hs
      generalize bpf (I (k + 3)) (fun j => decide (I (k + 4) j = -1)) i = b at hle hs ⊢
      refine s_X2_bestFreePlace_4 ⟨hK.1.1, fun q => ?_, fun q => ⟨fun q1 => ⟨_, hK.2.1.2.2.2, hK.1.2.2.2.2, i, ixl hK.2.2.2.2.2 (by omega) (by decide), fun q2 => ?_, fun q2 => ?_⟩, fun q1 => ?_⟩⟩
      · rw [e4] at q; exact absurd q (nI_ge (by omega) (by omega))
      · rw [if_neg (by simp [q2])] at hs
        rw [nI_1]; exact hs
      · have hb : b = 0 := (ob_m1 (by omega)).mp q1
        rw [if_pos ⟨by simp [q2], Or.inl hb⟩] at hs
        rw [nI_1]; exact hs
      · have hb : b ≠ 0 := fun z => q1 ((ob_m1 (by omega)).mpr z)
        rw [ob_n hb]
        refine ⟨_, hK.2.1.2.2.1, hK.1.2.2.2.1, i, ixl hK.2.2.2.2.1 (by omega) (by decide), b - 1, ixl hK.2.2.2.2.1 (by omega) (by decide), fun q2 => ?_, fun q2 => ⟨_, hK.2.1.2.2.2, hK.1.2.2.2.2, i, ixl hK.2.2.2.2.2 (by omega) (by decide), fun q3 => ?_, fun q3 => ?_⟩⟩
        · rw [if_neg (fun z => z.2.elim hb (fun z => Int32.not_lt.mpr q2 z))] at hs
          rw [nI_1]; rw [ob_n hb] at hs; exact hs
        · rw [if_neg (by simp [q3])] at hs
          rw [nI_1]; rw [ob_n hb] at hs; exact hs
        · rw [if_pos ⟨by simp [q3], Or.inr (Int32.not_le.mp q2)⟩] at hs
          rw [nI_1]; exact hs
  exact loop (4 * nc) 0 (by omega)
end KILN2
