/-! loops of the kiln -/
def gm (f : Nat → Int32) : Nat → Int32
  | 0 => f 0
  | n + 1 => imax (gm f n) (f (n + 1))
def sm (f : Nat → Int32) : Nat → Int32
  | 0 => 0
  | n + 1 => sm f n + f n
def fil (I : IT) (b : Nat) (f : Nat → Int32) (i n : Nat) : IT := fun a j => if a = b ∧ i ≤ j ∧ j < n then f j else I a j
theorem fil_0 (I : IT) (b : Nat) (f : Nat → Int32) (n : Nat) : fil I b f n n = I := by
  funext a j
  unfold fil
  rw [if_neg (by omega)]
theorem fil_s (I : IT) (b : Nat) (f : Nat → Int32) {i n : Nat} (h : i < n) : fil (u2 I b i (f i)) b f (i + 1) n = fil I b f i n := by
  funext a j
  unfold fil u2
  by_cases h1 : a = b
  · subst h1
    by_cases h2 : j = i
    · subst h2
      rw [if_neg (by omega), if_pos ⟨rfl, rfl⟩, if_pos (by omega)]
    · by_cases h3 : i + 1 ≤ j ∧ j < n
      · rw [if_pos ⟨rfl, h3⟩, if_pos (by omega)]
      · rw [if_neg (by omega), if_neg (by omega), if_neg (by omega)]
  · rw [if_neg (by simp [h1]), if_neg (by simp [h1]), if_neg (by simp [h1])]
theorem fil_in {I : IT} {b : Nat} {f : Nat → Int32} {i n j : Nat} (h1 : i ≤ j) (h2 : j < n) : fil I b f i n b j = f j := by unfold fil; rw [if_pos ⟨rfl, h1, h2⟩]
theorem fil_a {I : IT} {b a : Nat} {f : Nat → Int32} {i n j : Nat} (h : a ≠ b) : fil I b f i n a j = I a j := by unfold fil; rw [if_neg (by simp [h])]
section KILN
variable {g : GT} {S : ST} {P : PT} {I : IT} {Q : QT} {k : Nat}
theorem t_greatestHeat {nc : Nat} (hK : LK S P k) (hc : I k 0 = nI nc) (h1 : 1 ≤ nc) (h6 : nc ≤ 6) (h : Q (some (.int (gm (I (k + 1)) (nc - 1)))) S P I) : T g MX2_greatestHeat 0 0 [.ref k] S P I Q := by
  refine T_of rfl (Nat.le_of_ble_eq_true rfl) (s_X2_greatestHeat_0 ⟨hK.1.1, _, hK.2.1.1, hK.1.2.1, 0, ixe (j := 0) rfl hK.2.2.1 (by decide) (by decide), ?_⟩)
  have loop : ∀ n i, 1 ≤ i → i + n = nc → B g MX2_greatestHeat 0 0 9 [(0, .ref k), (1, .int (gm (I (k + 1)) (i - 1))), (2, .int (nI i))] [] S P I Q := by
    intro n
    induction n with
    | zero =>
      intro i hi he
      refine s_X2_greatestHeat_9 ⟨hK.1.1, fun _ => ?_, fun q => ?_⟩
      · rw [show i - 1 = nc - 1 by omega]; exact h
      · rw [hc] at q; exact absurd (nI_le (by omega) (by omega)) q
    | succ n ih =>
      intro i hi he
      refine s_X2_greatestHeat_9 ⟨hK.1.1, fun q => ?_, fun q => ⟨_, hK.2.1.1, hK.1.2.1, i, ixl hK.2.2.1 (by omega) (by decide), ?_⟩⟩
      · rw [hc] at q; exact absurd q (nI_ge (by omega) (by omega))
      · have := ih (i + 1) (by omega) (by omega)
        rw [show i + 1 - 1 = (i - 1) + 1 by omega, gm, show i - 1 + 1 = i by omega] at this
        rw [nI_1]
        exact this
  exact loop (nc - 1) 1 (Nat.le_refl 1) (by omega)
theorem t_heatsTogether {nc : Nat} (hK : LK S P k) (hc : I k 0 = nI nc) (h6 : nc ≤ 6) (h : Q (some (.int (sm (I (k + 1)) nc))) S P I) : T g MX2_heatsTogether 0 0 [.ref k] S P I Q := by
  refine T_of rfl (Nat.le_of_ble_eq_true rfl) (s_X2_heatsTogether_0 ?_)
  have loop : ∀ n i, i + n = nc → B g MX2_heatsTogether 0 0 4 [(0, .ref k), (1, .int (sm (I (k + 1)) i)), (2, .int (nI i))] [] S P I Q := by
    intro n
    induction n with
    | zero =>
      intro i he
      refine s_X2_heatsTogether_4 ⟨hK.1.1, fun _ => ?_, fun q => ?_⟩
      · rw [show i = nc by omega]; exact h
      · rw [hc] at q; exact absurd (nI_le (by omega) (by omega)) q
    | succ n ih =>
      intro i he
      refine s_X2_heatsTogether_4 ⟨hK.1.1, fun q => ?_, fun q => ⟨_, hK.2.1.1, hK.1.2.1, i, ixl hK.2.2.1 (by omega) (by decide), ?_⟩⟩
      · rw [hc] at q; exact absurd q (nI_ge (by omega) (by omega))
      · rw [nI_1]
        exact ih (i + 1) (by omega)
  exact loop nc 0 (by omega)
def kv (j : Nat) : Int32 := (10 - nI (j / 4)) + nI (j % 4)
theorem t_build {c : Int32} (hK : LK S P k) (h : Q none S P (fil (fil (u2 I k 0 c) (k + 1) (fun _ => 20) 0 6) (k + 3) kv 0 24)) : T g MX2_build 0 0 [.ref k, .int c] S P I Q := by
  refine T_of rfl (Nat.le_of_ble_eq_true rfl) (s_X2_build_0 ⟨hK.1.1, ?_⟩)
  have loop2 : ∀ n i J, i + n = 24 → Q none S P (fil J (k + 3) kv i 24) → B g MX2_build 0 0 29 [(0, .ref k), (1, .int c), (2, .int (nI i))] [] S P J Q := by
    intro n
    induction n with
    | zero =>
      intro i J he hq
      rw [show i = 24 by omega] at hq ⊢
      rw [fil_0] at hq
      exact s_X2_build_29 ⟨fun _ => hq, fun q => absurd (by decide) q⟩
    | succ n ih =>
      intro i J he hq
      refine s_X2_build_29 ⟨fun q => absurd q (nI_ge (b := 24) (by omega) (by decide)), fun q => ⟨hK.1.1, _, hK.2.1.2.2.1, hK.1.2.2.2.1, i, ixl hK.2.2.2.2.1 (by omega) (by decide), ?_⟩⟩
      have e : (10 - nI i / 4) + (nI i - nI i / 4 * 4) = kv i := by
        have e1 : nI i / 4 = nI (i / 4) := pk_div (a := i) (d := 4) (by omega) (by decide) (by decide)
        have e2 : nI i - nI i / 4 * 4 = nI (i % 4) := pk_rem (a := i) (d := 4) (by omega) (by decide) (by decide)
        rw [e2, e1]; rfl
      rw [e]
      rw [nI_1]
      refine ih (i + 1) _ (by omega) ?_
      rw [fil_s _ _ _ (by omega)]
      exact hq
  have loop1 : ∀ n i J, i + n = 6 → Q none S P (fil (fil J (k + 1) (fun _ => 20) i 6) (k + 3) kv 0 24) → B g MX2_build 0 0 7 [(0, .ref k), (1, .int c), (2, .int (nI i))] [] S P J Q := by
    intro n
    induction n with
    | zero =>
      intro i J he hq
      rw [show i = 6 by omega] at hq ⊢
      rw [fil_0] at hq
      exact s_X2_build_7 ⟨fun _ => loop2 24 0 J rfl hq, fun q => absurd (by decide) q⟩
    | succ n ih =>
      intro i J he hq
      refine s_X2_build_7 ⟨fun q => absurd q (nI_ge (b := 6) (by omega) (by decide)), fun q => ⟨hK.1.1, _, hK.2.1.1, hK.1.2.1, i, ixl hK.2.2.1 (by omega) (by decide), ?_⟩⟩
      rw [nI_1]
      refine ih (i + 1) _ (by omega) ?_
      rw [fil_s J (k + 1) (fun _ => 20) (by omega)]
      exact hq
  exact loop1 6 0 _ rfl h
theorem t_clear (hK : LK S P k) (h : Q none S P (fil I (k + 4) (fun _ => -1) 0 24)) : T g MX2_clear 0 0 [.ref k] S P I Q := by
  refine T_of rfl (Nat.le_of_ble_eq_true rfl) (s_X2_clear_0 ?_)
  have loop : ∀ n i J, i + n = 24 → Q none S P (fil J (k + 4) (fun _ => -1) i 24) → B g MX2_clear 0 0 2 [(0, .ref k), (1, .int (nI i))] [] S P J Q := by
    intro n
    induction n with
    | zero =>
      intro i J he hq
      rw [show i = 24 by omega] at hq ⊢
      rw [fil_0] at hq
      exact s_X2_clear_2 ⟨fun _ => hq, fun q => absurd (by decide) q⟩
    | succ n ih =>
      intro i J he hq
      refine s_X2_clear_2 ⟨fun q => absurd q (nI_ge (b := 24) (by omega) (by decide)), fun q => ⟨hK.1.1, _, hK.2.1.2.2.2, hK.1.2.2.2.2, i, ixl hK.2.2.2.2.2 (by omega) (by decide), ?_⟩⟩
      rw [nI_1]
      refine ih (i + 1) _ (by omega) ?_
      rw [fil_s J (k + 4) (fun _ => -1) (by omega)]
      exact hq
  exact loop 24 0 _ rfl h
end KILN
