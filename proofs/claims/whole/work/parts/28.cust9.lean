section CUST9
variable {g : GT} {S : ST} {P : PT} {I : IT} {Q : QT} {c m nl p : Nat} {sv : Nat → Int32}
theorem t9_asked {s : Nat} (hs : s < 7) (hp : p < 24) (hL : LM S P m) (h : Q (some (.int (ask9 (fun i => I (m + 1) (300 + 8 * p + i)) s))) S P I) : T g MX9_asked 0 0 [.ref m, .int (nI p), .int (nI (s + 1))] S P I Q := by
  have no : ∀ k : Nat, k < 7 → nI (s + 1) = nI (k + 1) → s = k := fun k hk e => by
    have := nI_inj (by omega) (by omega) e
    omega
  have fin : ∀ w : Int32, w = (if I (m + 1) (300 + 8 * p + 4) < 0 then 0 else I (m + 1) (300 + 8 * p + 4)) → B g MX9_asked 0 0 18 [(0, .ref m), (1, .int (nI p)), (2, .int (nI (s + 1)))] [.int w] S P I Q := by
    intro w hw
    refine s_X9_asked_18 ⟨fun q => ?_, fun q => ?_, fun q => ?_, fun q => ?_, fun q => ?_, fun q => ?_, fun q0 q1 q2 q3 q4 q5 => ?_⟩
    · have e := no 0 (by decide) q
      subst e
      rw [hw]; exact h
    · have e := no 1 (by decide) q
      subst e
      rw [hw]; exact h
    · have e := no 2 (by decide) q
      subst e
      exact ⟨hL.t, _, hL.p, hL.a, 300 + 8 * p + 1, hL.ix (n300 p 1) (by omega), h⟩
    · have e := no 3 (by decide) q
      subst e
      exact ⟨hL.t, _, hL.p, hL.a, 300 + 8 * p + 2, hL.ix (n300 p 2) (by omega), h⟩
    · have e := no 4 (by decide) q
      subst e
      exact ⟨hL.t, _, hL.p, hL.a, 300 + 8 * p + 0, hL.ix (n300 p 0) (by omega), h⟩
    · have e := no 5 (by decide) q
      subst e
      exact ⟨hL.t, _, hL.p, hL.a, 300 + 8 * p + 3, hL.ix (n300 p 3) (by omega), h⟩
    · have e : s = 6 := by
        rcases (show s = 0 ∨ s = 1 ∨ s = 2 ∨ s = 3 ∨ s = 4 ∨ s = 5 ∨ s = 6 by omega) with rfl | rfl | rfl | rfl | rfl | rfl | rfl
        · exact absurd rfl q0
        · exact absurd rfl q1
        · exact absurd rfl q2
        · exact absurd rfl q3
        · exact absurd rfl q4
        · exact absurd rfl q5
        · rfl
      subst e
      exact ⟨hL.t, _, hL.p, hL.a, 300 + 8 * p + 6, hL.ix (n300 p 6) (by omega), h⟩
  refine T_of rfl (Nat.le_of_ble_eq_true rfl) (s_X9_asked_0 ⟨hL.t, _, hL.p, hL.a, 300 + 8 * p + 4, hL.ix (n300 p 4) (by omega), fun q => fin 0 (by rw [if_pos q]), fun q => fin _ (by rw [if_neg q])⟩)
theorem n500 (l k : Nat) : nI (500 + 18 * l) + nI k = nI (500 + 18 * l + k) := nI_add _ _
theorem n500t (l t : Nat) : (nI (500 + 18 * l) + 1) + 4 * nI t = nI (500 + 18 * l + (1 + 4 * t)) := by
  show (nI (500 + 18 * l) + nI 1) + nI 4 * nI t = _
  rw [pk_mul, nI_add, nI_add]
  congr 1
  omega
theorem t9_holds {l : Nat} (hL : LM S P m) (hl : l < 12) (hp : p < 24) (hR : RVc1 I c l (fun i => I (m + 1) (500 + 18 * l + i))) (hsv : ∀ s, s < 7 → ask9 (fun i => I (m + 1) (300 + 8 * p + i)) s = sv s) (h : Q (some (.int (bi (lhA (I (m + 1)) sv l = true)))) S P I) : T g MX9_holds 0 0 [.ref m, .int (nI p), .int (nI (500 + 18 * l))] S P I Q := by
  obtain ⟨-, nt, hnt, e0, -, e2⟩ := hR
  have e0 : I (m + 1) (500 + 18 * l) = nI nt := e0
  have e0' : (I (m + 1) (500 + 18 * l)).toNatClampNeg = nt := by rw [e0, nI_clamp (by omega)]
  unfold lhA at h
  rw [e0'] at h
  generalize hA : I (m + 1) = A at h e2 e0 e0' hsv
  refine T_of rfl (Nat.le_of_ble_eq_true rfl) (s_X9_holds_0 ?_)
  have stop : ∀ t, lht A sv l nt 0 = false → B g MX9_holds 0 0 5 [(0, .ref m), (1, .int (nI p)), (2, .int (nI (500 + 18 * l))), (3, .int 0), (4, .int (nI t))] [] S P I Q := by
    intro t hq
    have e : bi (lht A sv l nt 0 = true) = 0 := bi_f (by rw [hq]; decide)
    rw [e] at h
    exact s_X9_holds_5 ⟨hL.t, _, hL.p, hL.a, 500 + 18 * l, hL.ix rfl (by omega), fun _ => ⟨Or.inl rfl, h⟩, fun _ => ⟨fun _ => ⟨Or.inl rfl, h⟩, fun z => absurd rfl z⟩⟩
  have loop : ∀ k t, t + k = nt → lht A sv l k t = lht A sv l nt 0 → B g MX9_holds 0 0 5 [(0, .ref m), (1, .int (nI p)), (2, .int (nI (500 + 18 * l))), (3, .int 1), (4, .int (nI t))] [] S P I Q := by
    intro k
    induction k with
    | zero =>
      intro t he hq
      have e : bi (lht A sv l nt 0 = true) = 1 := bi_t hq.symm
      rw [e] at h
      refine s_X9_holds_5 ⟨hL.t, _, hL.p, hL.a, 500 + 18 * l, hL.ix rfl (by omega), fun _ => ⟨Or.inr rfl, h⟩, fun q => ?_⟩
      rw [hA, e0] at q; exact absurd (nI_le (by omega) (by omega)) q
    | succ k ih =>
      intro t he hq
      obtain ⟨b, s, hs, f1, f2, f3, f4, f5, f6⟩ := e2 t (by omega)
      have f1 : A (500 + 18 * l + (1 + 4 * t)) = if b = true then 1 else 0 := f1
      have f2 : A (500 + 18 * l + (2 + 4 * t)) = nI (s + 1) := f2
      rw [lht_step f1 f2 hs rfl rfl] at hq
      have nx : ∀ y : Bool, y = tok b (A (500 + 18 * l + (3 + 4 * t))) (sv s) (A (500 + 18 * l + (4 + 4 * t))) → B g MX9_holds 0 0 5 [(0, .ref m), (1, .int (nI p)), (2, .int (nI (500 + 18 * l))), (3, .int (if y then 1 else 0)), (4, .int (nI t + 1))] [] S P I Q := by
        intro y hy
        rw [← hy] at hq
        rw [nI_1]
        cases y with
        | true =>
          rw [Bool.true_and] at hq
          exact ih (t + 1) (by omega) hq
        | false =>
          rw [Bool.false_and] at hq
          exact stop (t + 1) hq.symm
      have fin : ∀ y : Bool, (b ^^ y) = tok b (A (500 + 18 * l + (3 + 4 * t))) (sv s) (A (500 + 18 * l + (4 + 4 * t))) → B g MX9_holds 0 0 127 [(0, .ref m), (1, .int (nI p)), (2, .int (nI (500 + 18 * l))), (3, .int 1), (4, .int (nI t)), (5, .int ((nI (500 + 18 * l) + 1) + 4 * nI t)), (6, .int (sv s)), (7, .int (A (500 + 18 * l + (4 + 4 * t))))] [.int (if y then 1 else 0)] S P I Q := by
        intro y hy
        have h3 := nx _ hy
        refine s_X9_holds_127 ⟨hL.t, _, hL.p, hL.a, 500 + 18 * l + (1 + 4 * t), hL.ix (n500t l t) (by omega), fun q => ⟨fun q2 => ?_, fun q2 => ?_⟩, fun q => ⟨fun q2 => ?_, fun q2 => ?_⟩⟩
        all_goals
          rw [hA, f1] at q
          cases b <;> cases y <;> first | exact h3 | exact absurd rfl q | exact absurd q (by decide) | exact absurd q2 (by decide) | exact absurd rfl q2
      refine s_X9_holds_5 ⟨hL.t, _, hL.p, hL.a, 500 + 18 * l, hL.ix rfl (by omega), fun q => ?_, fun q => ⟨fun z => absurd z (by decide), fun _ => ⟨500 + 18 * l + (2 + 4 * t), hL.ix (by rw [n500t, nI_1]; congr 1; omega) (by omega), ?_⟩⟩⟩
      · rw [hA, e0] at q; exact absurd q (nI_ge (by omega) (by omega))
      · rw [hA, f2]
        refine t9_asked hs hp hL ?_
        rw [hA, hsv s hs]
        refine s_X9_holds_44 ⟨hL.t, _, hL.p, hL.a, 500 + 18 * l + (4 + 4 * t), hL.ix (by rw [n500t]; exact (nI_add _ 3).trans (by congr 1; omega)) (by omega), 500 + 18 * l + (3 + 4 * t), hL.ix (by rw [n500t, nI_2]; congr 1; omega) (by omega), fun q1 => ⟨fun q2 => ⟨fun q3 => ?_, fun q3 => ?_⟩, fun q2 => ⟨fun q3 => ?_, fun q3 => ?_⟩⟩, fun q1 => ⟨fun q3 => ?_, fun q3 => ?_⟩⟩
        all_goals
          rw [hA] at *
          first
            | (refine fin false ?_; simp only [tok]; rw [if_neg q1, if_neg q2, decide_eq_false q3])
            | (refine fin true ?_; simp only [tok]; rw [if_neg q1, if_neg q2, decide_eq_true q3])
            | (refine fin false ?_; simp only [tok]; rw [if_neg q1, if_pos q2, decide_eq_false (Int32.not_lt.mpr q3)])
            | (refine fin true ?_; simp only [tok]; rw [if_neg q1, if_pos q2, decide_eq_true (Int32.not_le.mp q3)])
            | (refine fin false ?_; simp only [tok]; rw [if_pos q1, decide_eq_false (Int32.not_lt.mpr q3)])
            | (refine fin true ?_; simp only [tok]; rw [if_pos q1, decide_eq_true (Int32.not_le.mp q3)])
  exact loop nt 0 (by omega) rfl
theorem n500c (l : Nat) : (500 + 18 * nI l : Int32) = nI (500 + 18 * l) := by
  show nI 500 + nI 18 * nI l = _
  rw [pk_mul, nI_add]
theorem t9_customOf (hL : LM S P m) (hp : p < 24) (hR : RVc I c (I (m + 1)) nl) (hsv : ∀ s, s < 7 → ask9 (fun i => I (m + 1) (300 + 8 * p + i)) s = sv s) (h : Q (some (.int (pfl (I (m + 1)) sv nl 0))) S P I) : T g MX9_customOf 0 0 [.ref m, .int (nI p)] S P I Q := by
  obtain ⟨⟨e6, -, h12⟩, hl⟩ := hR
  refine T_of rfl (Nat.le_of_ble_eq_true rfl) (s_X9_customOf_0 ?_)
  have loop : ∀ k l, l + k = nl → pfl (I (m + 1)) sv k l = pfl (I (m + 1)) sv nl 0 → B g MX9_customOf 0 0 2 [(0, .ref m), (1, .int (nI p)), (2, .int (nI l))] [] S P I Q := by
    intro k
    induction k with
    | zero =>
      intro l he hq
      refine s_X9_customOf_2 ⟨hL.t, _, hL.p, hL.a, 6, hL.ix rfl (by decide), fun _ => ?_, fun q => ?_⟩
      · rw [← hq] at h; exact h
      · rw [e6] at q; exact absurd (nI_le (by omega) (by omega)) q
    | succ k ih =>
      intro l he hq
      rw [pfl] at hq
      refine s_X9_customOf_2 ⟨hL.t, _, hL.p, hL.a, 6, hL.ix rfl (by decide), fun q => ?_, fun q => ?_⟩
      · rw [e6] at q; exact absurd q (nI_ge (by omega) (by omega))
      · rw [n500c]
        refine t9_holds hL (by omega) hp (hl l (by omega)) hsv (s_X9_customOf_26 ⟨fun w => ?_, fun w => ⟨hL.t, _, hL.p, hL.a, 500 + 18 * l + 17, hL.ix (by rw [n500c]; exact n500 l 17) (by omega), ?_⟩⟩)
        · have : ¬ lhA (I (m + 1)) sv l = true := fun z => by rw [bi_t z] at w; exact absurd w (by decide)
          rw [if_neg this] at hq
          rw [nI_1]; exact ih (l + 1) (by omega) hq
        · have : lhA (I (m + 1)) sv l = true := Decidable.byContradiction fun z => w (bi_f z)
          rw [if_pos this] at hq
          rw [← hq] at h
          exact h
  exact loop nl 0 (by omega) rfl
end CUST9
