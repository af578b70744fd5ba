/-! what the custom tells of a pot -/
def sbj (I : IT) (a s : Nat) : Int32 := match s with
  | 0 => if I a 4 = -1 then 0 else I a 4
  | 1 => if I a 5 = -1 then 0 else I a 5
  | 2 => I a 1
  | 3 => I a 2
  | 4 => I a 0
  | 5 => I a 3
  | _ => I a 7
def ask9 (A : Nat → Int32) (s : Nat) : Int32 := match s with
  | 0 => (if A 4 < 0 then 0 else A 4) / 4
  | 1 => (if A 4 < 0 then 0 else A 4) - (if A 4 < 0 then 0 else A 4) / 4 * 4
  | 2 => A 1
  | 3 => A 2
  | 4 => A 0
  | 5 => A 3
  | _ => A 6
theorem m1_neg : ((-1 : Int32)) < 0 := by decide
theorem ask_sbj {I : IT} {a nh nc : Nat} {A : Nat → Int32} (h : RVp1 I a A nh nc) (h6 : nc ≤ 6) : ∀ s, s < 7 → ask9 A s = sbj I a s := by
  obtain ⟨h0, h1, h2, h3, h5, h7, hp⟩ := h
  intro s hs
  rcases (show s = 0 ∨ s = 1 ∨ s = 2 ∨ s = 3 ∨ s = 4 ∨ s = 5 ∨ s = 6 by omega) with rfl | rfl | rfl | rfl | rfl | rfl | rfl
  · rcases hp with ⟨e1, e2, e3⟩ | ⟨c, s, hc, hs2, e1, e2, e3⟩
    · simp only [ask9, sbj]
      rw [e1, e2, if_pos m1_neg, if_pos rfl]; rfl
    · simp only [ask9, sbj]
      rw [e1, e2, if_neg (nI_pos (by omega)), if_neg (nI_m1 (by omega))]
      have := pk_div (a := 4 * c + s) (d := 4) (by omega) (by decide) (by decide)
      rw [show (4 * c + s) / 4 = c by omega] at this
      exact this
  · rcases hp with ⟨e1, e2, e3⟩ | ⟨c, s, hc, hs2, e1, e2, e3⟩
    · simp only [ask9, sbj]
      rw [e1, e3, if_pos m1_neg, if_pos rfl]; rfl
    · simp only [ask9, sbj]
      rw [e1, e3, if_neg (nI_pos (by omega)), if_neg (nI_m1 (by omega))]
      have := pk_rem (a := 4 * c + s) (d := 4) (by omega) (by decide) (by decide)
      rw [show (4 * c + s) % 4 = s by omega] at this
      exact this
  · exact h1.1
  · exact h2.1
  · exact h0.1
  · exact h3.1
  · exact h7
def tok (b : Bool) (sg v nn : Int32) : Bool := b ^^ (if sg = 60 then decide (v < nn) else if sg = 62 then decide (nn < v) else decide (v = nn))
theorem rel_tok {b : Bool} {sg v nn : Int32} (hs : sg = 60 ∨ sg = 62 ∨ sg = 61) : ((rel b sg &&& (if v < nn then 1 else if nn < v then 4 else 2)) = 0) ↔ tok b sg v nn = false := by
  rcases Int32.lt_or_le v nn with q | q
  · have q2 : ¬ nn < v := Int32.not_lt.mpr (Int32.le_of_lt q)
    have q3 : ¬ v = nn := fun e => by rw [e] at q; exact Int32.lt_irrefl q
    rw [if_pos q]
    cases b <;> rcases hs with rfl | rfl | rfl <;> simp [rel, tok, q, q2, q3] <;> decide
  · rcases Int32.lt_or_le nn v with q2 | q2
    · have q1 : ¬ v < nn := Int32.not_lt.mpr q
      have q3 : ¬ v = nn := fun e => by rw [e] at q2; exact Int32.lt_irrefl q2
      rw [if_neg q1, if_pos q2]
      cases b <;> rcases hs with rfl | rfl | rfl <;> simp [rel, tok, q1, q2, q3] <;> decide
    · have e : v = nn := Int32.le_antisymm q2 q
      subst e
      rw [if_neg Int32.lt_irrefl, if_neg Int32.lt_irrefl]
      cases b <;> rcases hs with rfl | rfl | rfl <;> simp [rel, tok, Int32.lt_irrefl] <;> decide
/-- the tests of a line from the t-th on -/
def lht (A sv : Nat → Int32) (l : Nat) : Nat → Nat → Bool
  | 0, _ => true
  | k + 1, t => tok (decide (A (500 + 18 * l + (1 + 4 * t)) = 1)) (A (500 + 18 * l + (3 + 4 * t))) (sv ((A (500 + 18 * l + (2 + 4 * t))).toNatClampNeg - 1)) (A (500 + 18 * l + (4 + 4 * t))) && lht A sv l k (t + 1)
def lhA (A sv : Nat → Int32) (l : Nat) : Bool := lht A sv l (A (500 + 18 * l)).toNatClampNeg 0
def pfl (A sv : Nat → Int32) : Nat → Nat → Int32
  | 0, _ => 0
  | k + 1, l => if lhA A sv l then A (500 + 18 * l + 17) else pfl A sv k (l + 1)
section CUST
variable {g : GT} {S : ST} {P : PT} {I : IT} {Q : QT} {c a m nl p : Nat} {A sv : Nat → Int32}
theorem t_subject {s : Nat} (hs : s < 7) (ht : sT S a = 4) (h : Q (some (.int (sbj I a s))) S P I) : T g MX3_subject 0 0 [.ref a, .int (nI s)] S P I Q := by
  have no : ∀ k : Nat, k < 7 → nI s = nI k → s = k := fun k hk e => nI_inj (by omega) (by omega) e
  refine T_of rfl (Nat.le_of_ble_eq_true rfl) (s_X3_subject_0 ⟨fun q => ?_, fun q => ?_, fun q => ?_, fun q => ?_, fun q => ?_, fun q => ?_, fun q => ?_, fun q0 q1 q2 q3 q4 q5 q6 => ?_⟩)
  · have e := no 0 (by decide) q
    subst e
    refine ⟨ht, fun z => ?_, fun z => ?_⟩
    · simp only [sbj, if_neg z] at h; exact h
    · simp only [sbj, if_pos z] at h; exact h
  · have e := no 1 (by decide) q
    subst e
    refine ⟨ht, fun z => ?_, fun z => ?_⟩
    · simp only [sbj, if_neg z] at h; exact h
    · simp only [sbj, if_pos z] at h; exact h
  · have e := no 2 (by decide) q
    subst e
    exact ⟨ht, h⟩
  · have e := no 3 (by decide) q
    subst e
    exact ⟨ht, h⟩
  · have e := no 4 (by decide) q
    subst e
    exact ⟨ht, h⟩
  · have e := no 5 (by decide) q
    subst e
    exact ⟨ht, h⟩
  · have e := no 6 (by decide) q
    subst e
    exact ⟨ht, h⟩
  · exfalso
    rcases (show s = 0 ∨ s = 1 ∨ s = 2 ∨ s = 3 ∨ s = 4 ∨ s = 5 ∨ s = 6 by omega) with rfl | rfl | rfl | rfl | rfl | rfl | rfl
    · exact q0 rfl
    · exact q1 rfl
    · exact q2 rfl
    · exact q3 rfl
    · exact q4 rfl
    · exact q5 rfl
    · exact q6 rfl
theorem t_holds {b : Bool} {s r : Nat} {sg nn : Int32} (hC : LC S P c) (ht : sT S a = 4) (hr : r < 48) (hs : s < 7) (h3 : I (c + 3) r = nI s) (hsg : sg = 60 ∨ sg = 62 ∨ sg = 61) (h4 : I (c + 4) r = rel b sg) (h5 : I (c + 5) r = nn) (h : Q (some (.int (bi (tok b sg (sbj I a s) nn = true)))) S P I) : T g MX0_holds 0 0 [.ref c, .int (nI r), .ref a] S P I Q := by
  have fin : ∀ f : Int32, f = (if sbj I a s < nn then 1 else if nn < sbj I a s then 4 else 2) → B g MX0_holds 0 0 40 [(0, .ref c), (1, .int (nI r)), (2, .ref a), (3, .int (sbj I a s)), (4, .int nn)] [.int f] S P I Q := by
    intro f hf
    subst hf
    refine s_X0_holds_40 ⟨hC.1.1, _, hC.2.1.2.2.2.1, hC.1.2.2.2.2.1, r, ixl hC.2.2.2.2.2.1 hr (by decide), fun q => ?_, fun q => ?_⟩
    · rw [h4] at q
      rw [bi_f (by rw [(rel_tok hsg).mp q]; decide)] at h
      exact h
    · rw [h4] at q
      have : tok b sg (sbj I a s) nn = true := by
        cases e : tok b sg (sbj I a s) nn with
        | true => rfl
        | false => exact absurd ((rel_tok hsg).mpr e) q
      rw [bi_t this] at h
      exact h
  refine T_of rfl (Nat.le_of_ble_eq_true rfl) (s_X0_holds_0 ⟨hC.1.1, _, hC.2.1.2.2.1, hC.1.2.2.2.1, r, ixl hC.2.2.2.2.1 hr (by decide), ht, ?_⟩)
  rw [h3]
  refine t_subject hs ht (s_X0_holds_10 ⟨hC.1.1, _, hC.2.1.2.2.2.2, hC.1.2.2.2.2.2, r, ixl hC.2.2.2.2.2.2 hr (by decide), fun q => ⟨fun q2 => ?_, fun q2 => ?_⟩, fun q => ?_⟩)
  · rw [h5] at q q2 ⊢
    exact fin 2 (by rw [if_neg (Int32.not_lt.mpr q), if_neg (Int32.not_lt.mpr q2)])
  · rw [h5] at q q2 ⊢
    exact fin 4 (by rw [if_neg (Int32.not_lt.mpr q), if_pos (Int32.not_le.mp q2)])
  · rw [h5] at q ⊢
    exact fin 1 (by rw [if_pos (Int32.not_le.mp q)])
theorem lht_step {l k t : Nat} {b : Bool} {s : Nat} {sg nn : Int32} (e1 : A (500 + 18 * l + (1 + 4 * t)) = (if b then 1 else 0)) (e2 : A (500 + 18 * l + (2 + 4 * t)) = nI (s + 1)) (hs : s < 7) (e3 : A (500 + 18 * l + (3 + 4 * t)) = sg) (e4 : A (500 + 18 * l + (4 + 4 * t)) = nn) : lht A sv l (k + 1) t = (tok b sg (sv s) nn && lht A sv l k (t + 1)) := by
  rw [lht, e1, e2, e3, e4, nI_clamp (by omega)]
  have : decide ((if b = true then (1 : Int32) else 0) = 1) = b := by cases b <;> decide
  rw [this]
  rfl
theorem t_allHold {l : Nat} (hC : LC S P c) (ht : sT S a = 4) (hl : l < 12) (hR : RVc1 I c l (fun i => A (500 + 18 * l + i))) (hsv : ∀ s, s < 7 → sbj I a s = sv s) (h : Q (some (.int (bi (lhA A sv l = true)))) S P I) : T g MX0_allHold 0 0 [.ref c, .int (nI l), .ref a] S P I Q := by
  obtain ⟨-, nt, hnt, e0, e1, e2⟩ := hR
  have e0' : (A (500 + 18 * l)).toNatClampNeg = nt := by
    have : A (500 + 18 * l) = nI nt := e0
    rw [this, nI_clamp (by omega)]
  unfold lhA at h
  rw [e0'] at h
  refine T_of rfl (Nat.le_of_ble_eq_true rfl) (s_X0_allHold_0 ?_)
  have loop : ∀ k t, t + k = nt → lht A sv l k t = lht A sv l nt 0 → B g MX0_allHold 0 0 2 [(0, .ref c), (1, .int (nI l)), (2, .ref a), (3, .int (nI t))] [] S P I Q := by
    intro k
    induction k with
    | zero =>
      intro t he hq
      refine s_X0_allHold_2 ⟨hC.1.1, _, hC.2.1.2.1, hC.1.2.2.1, l, ixl hC.2.2.2.1 hl (by decide), fun _ => ?_, fun q => ?_⟩
      · have e : bi (lht A sv l nt 0 = true) = 1 := bi_t hq.symm
        rw [e] at h
        exact h
      · rw [e1] at q; exact absurd (nI_le (by omega) (by omega)) q
    | succ k ih =>
      intro t he hq
      obtain ⟨b, s, hs, f1, f2, f3, f4, f5, f6⟩ := e2 t (by omega)
      rw [lht_step f1 f2 hs rfl rfl] at hq
      refine s_X0_allHold_2 ⟨hC.1.1, _, hC.2.1.2.1, hC.1.2.2.1, l, ixl hC.2.2.2.1 hl (by decide), fun q => ?_, fun q => ?_⟩
      · rw [e1] at q; exact absurd q (nI_ge (by omega) (by omega))
      · rw [n4s]
        refine t_holds hC ht (by omega) hs f3 f4 f5 f6.symm (s_X0_allHold_22 ⟨fun w => ?_, fun w => ?_⟩)
        · rw [nI_1]
          rw [hsv s hs] at w
          have ht2 : tok b (A (500 + 18 * l + (3 + 4 * t))) (sv s) (A (500 + 18 * l + (4 + 4 * t))) = true := Decidable.byContradiction fun z => w (bi_f z)
          rw [ht2, Bool.true_and] at hq
          exact ih (t + 1) (by omega) hq
        · rw [hsv s hs] at w
          have ht2 : tok b (A (500 + 18 * l + (3 + 4 * t))) (sv s) (A (500 + 18 * l + (4 + 4 * t))) = false := by
            cases e : tok b (A (500 + 18 * l + (3 + 4 * t))) (sv s) (A (500 + 18 * l + (4 + 4 * t))) with
            | false => rfl
            | true =>
              have : bi (tok b (A (500 + 18 * l + (3 + 4 * t))) (sv s) (A (500 + 18 * l + (4 + 4 * t))) = true) = 0 := w
              rw [bi_t e] at this
              exact absurd this (by decide)
          rw [ht2, Bool.false_and] at hq
          have e : bi (lht A sv l nt 0 = true) = 0 := bi_f (by rw [← hq]; decide)
          rw [e] at h
          exact h
  exact loop nt 0 (by omega) rfl
theorem t_partFor (hC : LC S P c) (ht : sT S a = 4) (hR : RVc I c A nl) (hsv : ∀ s, s < 7 → sbj I a s = sv s) (h : Q (some (.int (pfl A sv nl 0))) S P I) : T g MX0_partFor 0 0 [.ref c, .ref a] S P I Q := by
  obtain ⟨⟨e6, e0, h12⟩, hl⟩ := hR
  refine T_of rfl (Nat.le_of_ble_eq_true rfl) (s_X0_partFor_0 ?_)
  have loop : ∀ k l, l + k = nl → pfl A sv k l = pfl A sv nl 0 → B g MX0_partFor 0 0 2 [(0, .ref c), (1, .ref a), (2, .int (nI l))] [] S P I Q := by
    intro k
    induction k with
    | zero =>
      intro l he hq
      refine s_X0_partFor_2 ⟨hC.1.1, fun _ => ?_, fun q => ?_⟩
      · rw [← hq] at h; exact h
      · rw [e0] at q; exact absurd (nI_le (by omega) (by omega)) q
    | succ k ih =>
      intro l he hq
      rw [pfl] at hq
      refine s_X0_partFor_2 ⟨hC.1.1, fun q => ?_, fun q => t_allHold hC ht (by omega) (hl l (by omega)) hsv (s_X0_partFor_16 ⟨fun w => ?_, fun w => ⟨hC.1.1, _, hC.2.1.1, hC.1.2.1, l, ixl hC.2.2.1 (by omega) (by decide), ?_⟩⟩)⟩
      · rw [e0] at q; exact absurd q (nI_ge (by omega) (by omega))
      · have : ¬ lhA A sv l = true := fun z => by rw [bi_t z] at w; exact absurd w (by decide)
        rw [if_neg this] at hq
        rw [nI_1]; exact ih (l + 1) (by omega) hq
      · have : lhA A sv l = true := Decidable.byContradiction fun z => w (bi_f z)
        rw [if_pos this] at hq
        have e : A (500 + 18 * l + 17) = I (c + 1) l := (hl l (by omega)).1
        rw [← hq, e] at h
        exact h
  exact loop nl 0 (by omega) rfl
end CUST
