section CNT
variable {g : GT} {S : ST} {P : PT} {I : IT} {Q : QT} {v m np nc nh : Nat}
theorem ct_t {p : Nat → Bool} {n : Nat} (h : p n = true) : nI (fb_ct p (n + 1)) = nI (fb_ct p n) + 1 := by rw [fb_ct_succ, h, if_pos rfl, nI_1]
theorem ct_f {p : Nat → Bool} {n : Nat} (h : p n = false) : nI (fb_ct p (n + 1)) = nI (fb_ct p n) := by rw [fb_ct_succ, h]; rfl
theorem t_standingPots (hL : LV S P v) (hn : I v 11 = nI np) (h24 : np ≤ 24) (h : Q (some (.int (nI (fb_ct (fun p => decide (¬ I (pA v p) 4 = -1)) np)))) S P I) : T g MX7_standingPots 0 0 [.ref v] S P I Q := by
  refine T_of rfl (Nat.le_of_ble_eq_true rfl) (s_X7_standingPots_0 ?_)
  have loop : ∀ n i, i + n = np → B g MX7_standingPots 0 0 4 [(0, .ref v), (1, .int (nI (fb_ct (fun p => decide (¬ I (pA v p) 4 = -1)) i))), (2, .int (nI i))] [] S P I Q := by
    intro n
    induction n with
    | zero =>
      intro i he
      refine s_X7_standingPots_4 ⟨hL.t, fun _ => ?_, fun q => ?_⟩
      · rw [show i = np by omega]; exact h
      · rw [hn] at q; exact absurd (nI_le (by omega) (by omega)) q
    | succ n ih =>
      intro i he
      have hs := ih (i + 1) (by omega)
      refine s_X7_standingPots_4 ⟨hL.t, fun q => ?_, fun q => ⟨_, hL.p10, hL.t18, i, ixl hL.l18 (by omega) (by decide), _, hL.pp (by omega), hL.po (by omega), fun c => ?_, fun c => ?_⟩⟩
      · rw [hn] at q; exact absurd q (nI_ge (by omega) (by omega))
      · rw [ct_f (by simp [c])] at hs
        rw [nI_1 i]; exact hs
      · rw [ct_t (by simp [c])] at hs
        rw [nI_1 i]; exact hs
  exact loop np 0 (by omega)
theorem t9_standing (hL : LM S P m) (hn : I (m + 1) 1 = nI np) (h24 : np ≤ 24) (h : Q (some (.int (nI (fb_ct (fun p => decide (¬ I (m + 1) (300 + 8 * p + 4) < 0)) np)))) S P I) : T g MX9_standing 0 0 [.ref m] S P I Q := by
  refine T_of rfl (Nat.le_of_ble_eq_true rfl) (s_X9_standing_0 ?_)
  have loop : ∀ n i, i + n = np → B g MX9_standing 0 0 4 [(0, .ref m), (1, .int (nI (fb_ct (fun p => decide (¬ I (m + 1) (300 + 8 * p + 4) < 0)) i))), (2, .int (nI i))] [] S P I Q := by
    intro n
    induction n with
    | zero =>
      intro i he
      refine s_X9_standing_4 ⟨hL.t, _, hL.p, hL.a, 1, hL.ix rfl (by decide), fun _ => ?_, fun q => ?_⟩
      · rw [show i = np by omega]; exact h
      · rw [hn] at q; exact absurd (nI_le (by omega) (by omega)) q
    | succ n ih =>
      intro i he
      have hs := ih (i + 1) (by omega)
      refine s_X9_standing_4 ⟨hL.t, _, hL.p, hL.a, 1, hL.ix rfl (by decide), fun q => ?_, fun q => ⟨300 + 8 * i + 4, hL.ix (n300 i 4) (by omega), fun c => ?_, fun c => ?_⟩⟩
      · rw [hn] at q; exact absurd q (nI_ge (by omega) (by omega))
      · rw [ct_f (by simp [c])] at hs
        rw [nI_1, Int32.add_zero]; exact hs
      · rw [ct_t (by simp only [c, not_false_eq_true, decide_true])] at hs
        rw [nI_1 i]; exact hs
  exact loop np 0 (by omega)
theorem t_potsOf {x b : Int32} (hL : LV S P v) (hn : I v 11 = nI np) (h24 : np ≤ 24) (h : Q (some (.int (nI (fb_ct (fun p => decide (I (pA v p) 0 = x ∧ (¬ I (pA v p) 4 = -1 ∨ b = 0))) np)))) S P I) : T g MX7_potsOf 0 0 [.ref v, .int x, .int b] S P I Q := by
  refine T_of rfl (Nat.le_of_ble_eq_true rfl) (s_X7_potsOf_0 ?_)
  have loop : ∀ n i, i + n = np → B g MX7_potsOf 0 0 5 [(0, .ref v), (1, .int x), (2, .int b), (3, .int (nI (fb_ct (fun p => decide (I (pA v p) 0 = x ∧ (¬ I (pA v p) 4 = -1 ∨ b = 0))) i))), (4, .int (nI i))] [] S P I Q := by
    intro n
    induction n with
    | zero =>
      intro i he
      refine s_X7_potsOf_5 ⟨hL.t, fun _ => ?_, fun q => ?_⟩
      · rw [show i = np by omega]; exact h
      · rw [hn] at q; exact absurd (nI_le (by omega) (by omega)) q
    | succ n ih =>
      intro i he
      have hs := ih (i + 1) (by omega)
      refine s_X7_potsOf_5 ⟨hL.t, fun q => ?_, fun q => ⟨_, hL.p10, hL.t18, i, ixl hL.l18 (by omega) (by decide), _, hL.pp (by omega), hL.po (by omega), fun c => ?_, fun c => ⟨fun c2 => ⟨fun c3 => ?_, fun c3 => ?_⟩, fun c2 => ?_⟩⟩⟩
      · rw [hn] at q; exact absurd q (nI_ge (by omega) (by omega))
      · rw [ct_f (by simp [c])] at hs
        rw [nI_1 i]; exact hs
      · rw [ct_f (by simp [c2, c3])] at hs
        rw [nI_1 i]; exact hs
      · rw [ct_t (by simp [c, c3])] at hs
        rw [nI_1 i]; exact hs
      · rw [ct_t (by simp [c, c2])] at hs
        rw [nI_1 i]; exact hs
  exact loop np 0 (by omega)
theorem t9_greatestHeat (hL : LM S P m) (hc : I (m + 1) 2 = nI nc) (h1 : 1 ≤ nc) (h6 : nc ≤ 6) (h : Q (some (.int (gm (fun c => I (m + 1) (10 + c)) (nc - 1)))) S P I) : T g MX9_greatestHeat 0 0 [.ref m] S P I Q := by
  refine T_of rfl (Nat.le_of_ble_eq_true rfl) (s_X9_greatestHeat_0 ⟨hL.t, _, hL.p, hL.a, 10, hL.ix rfl (by decide), ?_⟩)
  have loop : ∀ n i, 1 ≤ i → i + n = nc → B g MX9_greatestHeat 0 0 10 [(0, .ref m), (1, .int (gm (fun c => I (m + 1) (10 + c)) (i - 1))), (2, .int (nI i))] [] S P I Q := by
    intro n
    induction n with
    | zero =>
      intro i hi he
      refine s_X9_greatestHeat_10 ⟨hL.t, _, hL.p, hL.a, 2, hL.ix rfl (by decide), fun _ => ?_, fun q => ?_⟩
      · rw [show i - 1 = nc - 1 by omega]; exact h
      · rw [hc] at q; exact absurd (nI_le (by omega) (by omega)) q
    | succ n ih =>
      intro i hi he
      have hs := ih (i + 1) (by omega) (by omega)
      rw [show i + 1 - 1 = (i - 1) + 1 by omega, gm, show i - 1 + 1 = i by omega] at hs
      unfold imax at hs
      refine s_X9_greatestHeat_10 ⟨hL.t, _, hL.p, hL.a, 2, hL.ix rfl (by decide), fun q => ?_, fun q => ⟨10 + i, hL.ix (nI_add 10 i) (by omega), fun c => ?_, fun c => ?_⟩⟩
      · rw [hc] at q; exact absurd q (nI_ge (by omega) (by omega))
      · rw [if_neg (Int32.not_lt.mpr c)] at hs
        rw [nI_1 i]; exact hs
      · rw [if_pos (Int32.not_le.mp c)] at hs
        rw [nI_1 i]; exact hs
  exact loop (nc - 1) 1 (Nat.le_refl 1) (by omega)
/-- the first of a row's numbers of a kind, or none -/
def fst1 (f : Nat → Prop) (n : Nat) (r : Int32) : Prop := (r = -1 ∧ ∀ p, p < n → ¬ f p) ∨ ∃ p, p < n ∧ r = nI p ∧ f p ∧ ∀ q, q < p → ¬ f q
theorem t9_at0 {x : Int32} (hL : LM S P m) (hn : I (m + 1) 1 = nI np) (h24 : np ≤ 24) (h : ∀ r, fst1 (fun p => I (m + 1) (300 + 8 * p + 4) = x) np r → Q (some (.int r)) S P I) : T g MX9_at0 0 0 [.ref m, .int x] S P I Q := by
  refine T_of rfl (Nat.le_of_ble_eq_true rfl) (s_X9_at0_0 ?_)
  have loop : ∀ n i, i + n = np → (∀ q, q < i → ¬ I (m + 1) (300 + 8 * q + 4) = x) → B g MX9_at0 0 0 2 [(0, .ref m), (1, .int x), (2, .int (nI i))] [] S P I Q := by
    intro n
    induction n with
    | zero =>
      intro i he hi
      refine s_X9_at0_2 ⟨hL.t, _, hL.p, hL.a, 1, hL.ix rfl (by decide), fun _ => ?_, fun q => ?_⟩
      · exact h _ (Or.inl ⟨rfl, fun p hp => hi p (by omega)⟩)
      · rw [hn] at q; exact absurd (nI_le (by omega) (by omega)) q
    | succ n ih =>
      intro i he hi
      refine s_X9_at0_2 ⟨hL.t, _, hL.p, hL.a, 1, hL.ix rfl (by decide), fun q => ?_, fun q => ⟨300 + 8 * i + 4, hL.ix (n300 i 4) (by omega), fun c => ?_, fun c => ?_⟩⟩
      · rw [hn] at q; exact absurd q (nI_ge (by omega) (by omega))
      · rw [nI_1]
        refine ih (i + 1) (by omega) (fun q hq => ?_)
        by_cases e : q = i
        · subst e; exact c
        · exact hi q (by omega)
      · exact h _ (Or.inr ⟨i, by omega, rfl, c, hi⟩)
  exact loop np 0 (by omega) (fun q hq => absurd hq (Nat.not_lt_zero q))
theorem t9_waiting {x : Int32} (hL : LM S P m) (hn : I (m + 1) 1 = nI np) (h24 : np ≤ 24) (h : ∀ r, fst1 (fun p => I (m + 1) (300 + 8 * p + 4) < 0 ∧ I (m + 1) (300 + 8 * p + 0) = x) np r → Q (some (.int r)) S P I) : T g MX9_waiting 0 0 [.ref m, .int x] S P I Q := by
  refine T_of rfl (Nat.le_of_ble_eq_true rfl) (s_X9_waiting_0 ?_)
  have loop : ∀ n i, i + n = np → (∀ q, q < i → ¬ (I (m + 1) (300 + 8 * q + 4) < 0 ∧ I (m + 1) (300 + 8 * q + 0) = x)) → B g MX9_waiting 0 0 2 [(0, .ref m), (1, .int x), (2, .int (nI i))] [] S P I Q := by
    intro n
    induction n with
    | zero =>
      intro i he hi
      refine s_X9_waiting_2 ⟨hL.t, _, hL.p, hL.a, 1, hL.ix rfl (by decide), fun _ => ?_, fun q => ?_⟩
      · exact h _ (Or.inl ⟨rfl, fun p hp => hi p (by omega)⟩)
      · rw [hn] at q; exact absurd (nI_le (by omega) (by omega)) q
    | succ n ih =>
      intro i he hi
      have nx : ¬ (I (m + 1) (300 + 8 * i + 4) < 0 ∧ I (m + 1) (300 + 8 * i + 0) = x) → B g MX9_waiting 0 0 2 [(0, .ref m), (1, .int x), (2, .int (nI i + 1))] [] S P I Q := by
        intro c
        rw [nI_1]
        refine ih (i + 1) (by omega) (fun q hq => ?_)
        by_cases e : q = i
        · subst e; exact c
        · exact hi q (by omega)
      refine s_X9_waiting_2 ⟨hL.t, _, hL.p, hL.a, 1, hL.ix rfl (by decide), fun q => ?_, fun q => ⟨300 + 8 * i + 4, hL.ix (n300 i 4) (by omega), fun c => ⟨300 + 8 * i + 0, hL.ix (n300 i 0) (by omega), fun c2 => nx (fun z => c2 z.2), fun c2 => ?_⟩, fun c => nx (fun z => c z.1)⟩⟩
      · rw [hn] at q; exact absurd q (nI_ge (by omega) (by omega))
      · exact h _ (Or.inr ⟨i, by omega, rfl, ⟨c, c2⟩, hi⟩)
  exact loop np 0 (by omega) (fun q hq => absurd hq (Nat.not_lt_zero q))
theorem ob_neg {n : Nat} (h : n < 2 ^ 31) : ob n < 0 ↔ n = 0 := by
  unfold ob
  by_cases q : n = 0
  · simp [q]
  · rw [if_neg q]
    exact ⟨fun z => absurd z (nI_pos (by omega)), fun z => absurd z q⟩
theorem t9_bestPlace (hL : LM S P m) (hn : I (m + 1) 1 = nI np) (h24 : np ≤ 24) (hc : I (m + 1) 2 = nI nc) (h6 : nc ≤ 6) (fr : Nat → Bool) (hfr : ∀ k, k < 24 → (fr k = true ↔ ∀ p, p < np → ¬ I (m + 1) (300 + 8 * p + 4) = nI k)) (h : Q (some (.int (ob (bpf (fun j => I (m + 1) (16 + j)) fr (4 * nc))))) S P I) : T g MX9_bestPlace 0 0 [.ref m] S P I Q := by
  refine T_of rfl (Nat.le_of_ble_eq_true rfl) (s_X9_bestPlace_0 ?_)
  have e4 : 4 * I (m + 1) 2 = nI (4 * nc) := by rw [hc]; exact pk_mul 4 nc
  have loop : ∀ n i, i + n = 4 * nc → B g MX9_bestPlace 0 0 4 [(0, .ref m), (1, .int (ob (bpf (fun j => I (m + 1) (16 + j)) fr i))), (2, .int (nI i))] [] S P I Q := by
    intro n
    induction n with
    | zero =>
      intro i he
      refine s_X9_bestPlace_4 ⟨hL.t, _, hL.p, hL.a, 2, hL.ix rfl (by decide), fun _ => ?_, fun q => ?_⟩
      · rw [show i = 4 * nc by omega]; exact h
      · rw [e4] at q; exact absurd (nI_le (by omega) (by omega)) q
    | succ n ih =>
      intro i he
      have hle := bpf_le (fun j => I (m + 1) (16 + j)) fr i
      have hs := ih (i + 1) (by omega)
      rw [bpf] at hs
      generalize bpf (fun j => I (m + 1) (16 + j)) fr i = b at hle hs ⊢
      refine s_X9_bestPlace_4 ⟨hL.t, _, hL.p, hL.a, 2, hL.ix rfl (by decide), fun q => ?_, fun q => t9_at0 hL hn h24 (fun r hr => s_X9_bestPlace_21 ⟨fun q1 => ?_, fun q1 => ⟨fun q2 => ?_, fun q2 => ?_⟩⟩)⟩
      · rw [e4] at q; exact absurd q (nI_ge (by omega) (by omega))
      · have hf : ¬ fr i = true := by
          intro z
          rcases hr with ⟨e, -⟩ | ⟨p, hp, -, e, -⟩
          · rw [e] at q1; exact absurd q1 (by decide)
          · exact (hfr i (by omega)).mp z p hp e
        rw [if_neg (fun z => hf z.1)] at hs
        rw [nI_1 i]; exact hs
      · have hf : fr i = true := by
          rcases hr with ⟨-, e⟩ | ⟨p, hp, e, -⟩
          · exact (hfr i (by omega)).mpr e
          · rw [e] at q1; exact absurd (nI_pos' (by omega)) q1
        rw [if_pos ⟨hf, Or.inl ((ob_neg (by omega)).mp q2)⟩] at hs
        rw [nI_1 i]; exact hs
      · have hf : fr i = true := by
          rcases hr with ⟨-, e⟩ | ⟨p, hp, e, -⟩
          · exact (hfr i (by omega)).mpr e
          · rw [e] at q1; exact absurd (nI_pos' (by omega)) q1
        have hb : b ≠ 0 := fun z => q2 ((ob_neg (by omega)).mpr z)
        rw [ob_n hb]
        refine ⟨hL.t, _, hL.p, hL.a, 16 + i, hL.ix (nI_add 16 i) (by omega), 16 + (b - 1), hL.ix (nI_add 16 (b - 1)) (by omega), fun q3 => ?_, fun q3 => ?_⟩
        · rw [if_neg (fun z => z.2.elim hb (fun z => Int32.not_lt.mpr q3 z)), ob_n hb] at hs
          rw [nI_1 i]; exact hs
        · rw [if_pos ⟨hf, Or.inr (Int32.not_le.mp q3)⟩] at hs
          rw [nI_1 i]; exact hs
  exact loop (4 * nc) 0 (by omega)
def bhf (had : Nat → Int32) (wt : Nat → Bool) : Nat → Nat
  | 0 => 0
  | n + 1 => if wt n = true ∧ (bhf had wt n = 0 ∨ had n < had (bhf had wt n - 1)) then n + 1 else bhf had wt n
theorem bhf_le (had : Nat → Int32) (wt : Nat → Bool) : ∀ n, bhf had wt n ≤ n
  | 0 => Nat.le_refl 0
  | n + 1 => by
    have ih := bhf_le had wt n
    unfold bhf
    split <;> omega
theorem t9_nextHouse (hL : LM S P m) (hn : I (m + 1) 1 = nI np) (h24 : np ≤ 24) (hh : I (m + 1) 0 = nI nh) (h8 : nh ≤ 8) (wt : Nat → Bool) (hwt : ∀ k, k < 8 → (wt k = true ↔ ∃ p, p < np ∧ I (m + 1) (300 + 8 * p + 4) < 0 ∧ I (m + 1) (300 + 8 * p + 0) = nI k)) (h : Q (some (.int (ob (bhf (fun j => I (m + 1) (60 + 30 * j + 1)) wt nh)))) S P I) : T g MX9_nextHouse 0 0 [.ref m] S P I Q := by
  refine T_of rfl (Nat.le_of_ble_eq_true rfl) (s_X9_nextHouse_0 ?_)
  have loop : ∀ n i, i + n = nh → B g MX9_nextHouse 0 0 4 [(0, .ref m), (1, .int (ob (bhf (fun j => I (m + 1) (60 + 30 * j + 1)) wt i))), (2, .int (nI i))] [] S P I Q := by
    intro n
    induction n with
    | zero =>
      intro i he
      refine s_X9_nextHouse_4 ⟨hL.t, _, hL.p, hL.a, 0, hL.ix rfl (by decide), fun _ => ?_, fun q => ?_⟩
      · rw [show i = nh by omega]; exact h
      · rw [hh] at q; exact absurd (nI_le (by omega) (by omega)) q
    | succ n ih =>
      intro i he
      have hle := bhf_le (fun j => I (m + 1) (60 + 30 * j + 1)) wt i
      have hs := ih (i + 1) (by omega)
      rw [bhf] at hs
      generalize bhf (fun j => I (m + 1) (60 + 30 * j + 1)) wt i = b at hle hs ⊢
      refine s_X9_nextHouse_4 ⟨hL.t, _, hL.p, hL.a, 0, hL.ix rfl (by decide), fun q => ?_, fun q => t9_waiting hL hn h24 (fun r hr => s_X9_nextHouse_19 ⟨fun q1 => ?_, fun q1 => ⟨fun q2 => ?_, fun q2 => ?_⟩⟩)⟩
      · rw [hh] at q; exact absurd q (nI_ge (by omega) (by omega))
      · have hf : ¬ wt i = true := by
          intro z
          rcases hr with ⟨-, e⟩ | ⟨p, hp, e, -⟩
          · obtain ⟨p, hp, e1, e2⟩ := (hwt i (by omega)).mp z
            exact e p hp ⟨e1, e2⟩
          · rw [e] at q1; exact nI_pos (by omega) q1
        rw [if_neg (fun z => hf z.1)] at hs
        rw [nI_1 i]; exact hs
      · have hf : wt i = true := by
          rcases hr with ⟨e, -⟩ | ⟨p, hp, -, e, -⟩
          · rw [e] at q1; exact absurd (by decide) q1
          · exact (hwt i (by omega)).mpr ⟨p, hp, e⟩
        rw [if_pos ⟨hf, Or.inl ((ob_neg (by omega)).mp q2)⟩] at hs
        rw [nI_1 i]; exact hs
      · have hf : wt i = true := by
          rcases hr with ⟨e, -⟩ | ⟨p, hp, -, e, -⟩
          · rw [e] at q1; exact absurd (by decide) q1
          · exact (hwt i (by omega)).mpr ⟨p, hp, e⟩
        have hb : b ≠ 0 := fun z => q2 ((ob_neg (by omega)).mpr z)
        rw [ob_n hb]
        refine ⟨hL.t, _, hL.p, hL.a, 60 + 30 * i + 1, hL.ix (n60 i 1) (by omega), 60 + 30 * (b - 1) + 1, hL.ix (n60 (b - 1) 1) (by omega), fun q3 => ?_, fun q3 => ?_⟩
        · rw [if_neg (fun z => z.2.elim hb (fun z => Int32.not_lt.mpr q3 z)), ob_n hb] at hs
          rw [nI_1 i]; exact hs
        · rw [if_pos ⟨hf, Or.inr (Int32.not_le.mp q3)⟩] at hs
          rw [nI_1 i]; exact hs
  exact loop nh 0 (by omega)
end CNT
