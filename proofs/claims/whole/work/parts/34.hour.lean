section HEAT
theorem tdv4 (x : Int) : (0 ≤ x → 0 ≤ x.tdiv 4 ∧ 4 * x.tdiv 4 ≤ x) ∧ (x ≤ 0 → x.tdiv 4 ≤ 0 ∧ x ≤ 4 * x.tdiv 4) := by
  refine ⟨fun h => ?_, fun h => ?_⟩
  · rw [Int.tdiv_eq_ediv_of_nonneg h]; omega
  · have e : x.tdiv 4 = -((-x).tdiv 4) := by rw [Int.neg_tdiv, Int.neg_neg]
    rw [e, Int.tdiv_eq_ediv_of_nonneg (by omega)]; omega
theorem bmo {x : Int} (h1 : -2147483648 ≤ x) (h2 : x < 2147483648) : x.bmod (2 ^ 32) = x := Int.bmod_eq_of_le (by omega) (by omega)
theorem isub {a b : Int32} (h1 : -2147483648 ≤ a.toInt - b.toInt) (h2 : a.toInt - b.toInt < 2147483648) : (a - b).toInt = a.toInt - b.toInt := by rw [Int32.toInt_sub, bmo h1 h2]
theorem iadd {a b : Int32} (h1 : -2147483648 ≤ a.toInt + b.toInt) (h2 : a.toInt + b.toInt < 2147483648) : (a + b).toInt = a.toInt + b.toInt := by rw [Int32.toInt_add, bmo h1 h2]
theorem fl_bd {a b : Int32} {M : Int} (hM : M < 1073741824) (ha : 20 ≤ a.toInt ∧ a.toInt ≤ M) (hb : 20 ≤ b.toInt ∧ b.toInt ≤ M) : ∃ t : Int, ((a - b) / 4).toInt = t ∧ (b.toInt ≤ a.toInt → 0 ≤ t ∧ 4 * t ≤ a.toInt - b.toInt) ∧ (a.toInt ≤ b.toInt → t ≤ 0 ∧ a.toInt - b.toInt ≤ 4 * t) := by
  have e := isub (a := a) (b := b) (by omega) (by omega)
  have h := tdv4 (a.toInt - b.toInt)
  have e4 : ((4 : Int32)).toInt = 4 := by decide
  refine ⟨(a.toInt - b.toInt).tdiv 4, ?_, fun q => h.1 (by omega), fun q => h.2 (by omega)⟩
  rw [Int32.toInt_div, e, e4, bmo]
  · rcases Int.le_total b.toInt a.toInt with q | q
    · have := h.1 (by omega); omega
    · have := h.2 (by omega); omega
  · rcases Int.le_total b.toInt a.toInt with q | q
    · have := h.1 (by omega); omega
    · have := h.2 (by omega); omega
theorem lo_bd {a : Int32} {M : Int} (hM : M < 1073741824) (ha : 20 ≤ a.toInt ∧ a.toInt ≤ M) : ∃ t : Int, (a - (a - 20) / 16).toInt = a.toInt - t ∧ 0 ≤ t ∧ 16 * t ≤ a.toInt - 20 := by
  have e20 : ((20 : Int32)).toInt = 20 := by decide
  have e16 : ((16 : Int32)).toInt = 16 := by decide
  have e := isub (a := a) (b := 20) (by omega) (by omega)
  have ed : ((a - 20) / 16).toInt = (a.toInt - 20) / 16 := by
    rw [Int32.toInt_div, e, e20, e16, Int.tdiv_eq_ediv_of_nonneg (by omega), bmo (by omega) (by omega)]
  exact ⟨(a.toInt - 20) / 16, by rw [isub (by omega) (by omega), ed], by omega, by omega⟩
theorem hn_bd {h : Nat → Int32} {nc j : Nat} {M : Int} (hM : M < 1073741824) (hj : j < nc) (hh : ∀ i, i < nc → 20 ≤ (h i).toInt ∧ (h i).toInt ≤ M) : 20 ≤ (hn h nc j).toInt ∧ (hn h nc j).toInt ≤ M := by
  have hb := hh j hj
  obtain ⟨t0, a0, a1, a2⟩ := lo_bd hM hb
  have e0 : ((0 : Int32)).toInt = 0 := by decide
  have f1 : ∃ t : Int, (if j + 1 < nc then hfl h j else 0).toInt = t ∧ -(M - (h j).toInt) ≤ 4 * t ∧ 4 * t ≤ (h j).toInt - 20 := by
    by_cases q : j + 1 < nc
    · rw [if_pos q]
      have hc := hh (j + 1) q
      obtain ⟨t, b0, b1, b2⟩ := fl_bd hM hb hc
      refine ⟨t, b0, ?_, ?_⟩
      · rcases Int.le_total (h (j + 1)).toInt (h j).toInt with z | z
        · have := b1 z; omega
        · have := b2 z; omega
      · rcases Int.le_total (h (j + 1)).toInt (h j).toInt with z | z
        · have := b1 z; omega
        · have := b2 z; omega
    · rw [if_neg q]; exact ⟨0, e0, by omega, by omega⟩
  have f2 : ∃ t : Int, (if 1 ≤ j then hfl h (j - 1) else 0).toInt = t ∧ -((h j).toInt - 20) ≤ 4 * t ∧ 4 * t ≤ M - (h j).toInt := by
    by_cases q : 1 ≤ j
    · rw [if_pos q]
      have hc := hh (j - 1) (by omega)
      obtain ⟨t, b0, b1, b2⟩ := fl_bd hM hc hb
      unfold hfl
      rw [show j - 1 + 1 = j by omega]
      refine ⟨t, b0, ?_, ?_⟩
      · rcases Int.le_total (h j).toInt (h (j - 1)).toInt with z | z
        · have := b1 z; omega
        · have := b2 z; omega
      · rcases Int.le_total (h j).toInt (h (j - 1)).toInt with z | z
        · have := b1 z; omega
        · have := b2 z; omega
    · rw [if_neg q]; exact ⟨0, e0, by omega, by omega⟩
  obtain ⟨t1, b0, b1, b2⟩ := f1
  obtain ⟨t2, c0, c1, c2⟩ := f2
  have d1 : (hlo h j - (if j + 1 < nc then hfl h j else 0)).toInt = (h j).toInt - t0 - t1 := by
    rw [isub (by rw [b0]; unfold hlo; rw [a0]; omega) (by rw [b0]; unfold hlo; rw [a0]; omega), b0]; unfold hlo; rw [a0]
  have d2 : (hn h nc j).toInt = (h j).toInt - t0 - t1 + t2 := by
    unfold hn
    rw [iadd (by rw [d1, c0]; omega) (by rw [d1, c0]; omega), d1, c0]
  rw [d2]; omega
theorem abs2 {a b : Int32} (ha : 0 ≤ a.toInt) (hb : 0 ≤ b.toInt) : iabs (a - b) = if a ≤ b then b - a else a - b := by
  have a2 := Int32.toInt_lt a
  have b2 := Int32.toInt_lt b
  have e := isub (a := a) (b := b) (by omega) (by omega)
  have e0 : ((0 : Int32)).toInt = 0 := by decide
  unfold iabs
  by_cases q : a ≤ b
  · rw [if_pos q]
    by_cases z : (0 : Int32) ≤ a - b
    · rw [if_pos z]
      rw [Int32.le_iff_toInt_le] at q z
      have : a = b := Int32.toInt_inj.mp (by omega)
      rw [this]
    · rw [if_neg z]; grind
  · rw [if_neg q, if_pos]
    rw [Int32.le_iff_toInt_le] at q ⊢
    omega
end HEAT
/-! an hour on the heats and the pots, as numbers: heats, wets, cracks, ripes, hours, logs -/
def d2 (a b : Int32) : Int32 := if a ≤ b then b - a else a - b
def bw (chg tgh ht w : Int32) : Int32 := if chg ≤ tgh - 10 * w then (if ht < 100 then w else if w ≤ 0 then w else w - 1) else w
def br (chg tgh ht w r : Int32) : Int32 := if chg ≤ tgh - 10 * w then (if ht < 600 then r else r + (ht - 600) / 50) else r
def bcr (chg tgh w c : Int32) : Int32 := if chg ≤ tgh - 10 * w then c else 1
abbrev HS := (Nat → Int32) × (Nat → Int32) × (Nat → Int32) × (Nat → Int32) × Int32 × Int32
def hH (nc ch : Nat) (lg : Int32) (h : Nat → Int32) (j : Nat) : Int32 := if j < nc then hn h nc j + (if j = ch then 60 * lg else 0) else h j
def hrf (nc : Nat) (sd : Nat → Bool) (cp : Nat → Nat) (tg : Nat → Int32) (ch : Nat) (lg : Int32) (s : HS) : HS :=
  (hH nc ch lg s.1,
   fun p => if sd p = true ∧ s.2.2.1 p = 0 then bw (d2 (hH nc ch lg s.1 (cp p)) (s.1 (cp p))) (tg p) (hH nc ch lg s.1 (cp p)) (s.2.1 p) else s.2.1 p,
   fun p => if sd p = true ∧ s.2.2.1 p = 0 then bcr (d2 (hH nc ch lg s.1 (cp p)) (s.1 (cp p))) (tg p) (s.2.1 p) (s.2.2.1 p) else s.2.2.1 p,
   fun p => if sd p = true ∧ s.2.2.1 p = 0 then br (d2 (hH nc ch lg s.1 (cp p)) (s.1 (cp p))) (tg p) (hH nc ch lg s.1 (cp p)) (s.2.1 p) (s.2.2.2.1 p) else s.2.2.2.1 p,
   s.2.2.2.2.1 + 1, s.2.2.2.2.2 + lg)
def aC (I : IT) (v np : Nat) (s : HS) : Prop := (∀ j, j < 6 → I (v + 14) j = s.1 j) ∧ (∀ p, p < np → I (pA v p) 3 = s.2.1 p ∧ I (pA v p) 6 = s.2.2.1 p ∧ I (pA v p) 7 = s.2.2.2.1 p) ∧ I (v + 13) 1 = s.2.2.2.2.1 ∧ I (v + 13) 2 = s.2.2.2.2.2
def aM (A : Nat → Int32) (np : Nat) (s : HS) : Prop := (∀ j, j < 6 → A (10 + j) = s.1 j) ∧ (∀ p, p < np → A (300 + 8 * p + 3) = s.2.1 p ∧ A (300 + 8 * p + 5) = s.2.2.1 p ∧ A (300 + 8 * p + 6) = s.2.2.2.1 p) ∧ A 3 = s.2.2.2.2.1 ∧ A 4 = s.2.2.2.2.2
def PFc (I : IT) (v np nc : Nat) (sd : Nat → Bool) (cp sh : Nat → Nat) (tg : Nat → Int32) : Prop := ∀ p, p < np → (I (pA v p) 4 = -1 ↔ sd p = false) ∧ (sd p = true → I (pA v p) 4 = nI (cp p) ∧ cp p < nc) ∧ I (pA v p) 1 = nI (sh p) ∧ sh p < 5 ∧ I (v + 11) (sh p) = tg p
def PFm (A : Nat → Int32) (np nc : Nat) (sd : Nat → Bool) (cp sh : Nat → Nat) (tg : Nat → Int32) : Prop := ∀ p, p < np → (A (300 + 8 * p + 4) < 0 ↔ sd p = false) ∧ (sd p = true → A (300 + 8 * p + 4) / 4 = nI (cp p) ∧ cp p < nc) ∧ A (300 + 8 * p + 1) = nI (sh p) ∧ sh p < 5 ∧ A (41 + 2 * sh p) = tg p
def frC (v np : Nat) (I J : IT) : Prop := ∀ a k, (a ≠ v + 13 ∨ (k ≠ 1 ∧ k ≠ 2)) → a ≠ v + 14 → a ≠ v + 15 → (a < v + 59 ∨ v + 59 + np ≤ a ∨ (k ≠ 3 ∧ k ≠ 6 ∧ k ≠ 7)) → J a k = I a k
def frM (m np : Nat) (I J : IT) : Prop := (∀ k, k ≠ 3 → k ≠ 4 → (k < 10 ∨ 16 ≤ k) → (∀ p, p < np → k ≠ 300 + 8 * p + 3 ∧ k ≠ 300 + 8 * p + 5 ∧ k ≠ 300 + 8 * p + 6) → J (m + 1) k = I (m + 1) k) ∧ ∀ a k, a ≠ m + 1 → a ≠ m + 5 → J a k = I a k
section HOUR
variable {g : GT} {S : ST} {P : PT} {I I' : IT} {Q : QT} {x n m v p np nc nh nl c j ch : Nat} {z lg : Int32} {A A' : Nat → Int32} {sd : Nat → Bool} {cp sh : Nat → Nat} {tg : Nat → Int32} {s : HS}
theorem t_bear {a : Nat} {x1 x2 x3 : Int32} (hp : sT S a = 4) (h : ∀ J : IT, J a 3 = bw x2 x3 x1 (I a 3) → J a 6 = bcr x2 x3 (I a 3) (I a 6) → J a 7 = br x2 x3 x1 (I a 3) (I a 7) → (∀ b k, (b ≠ a ∨ (k ≠ 3 ∧ k ≠ 6 ∧ k ≠ 7)) → J b k = I b k) → Q none S P J) : T g MX3_bear 0 0 [.ref a, .int x1, .int x2, .int x3] S P I Q := by
  refine T_of rfl (Nat.le_of_ble_eq_true rfl) (s_X3_bear_0 ⟨hp, fun q => ⟨fun q1 => ⟨fun q2 => ?_, fun q2 => ⟨fun q3 => ?_, fun q3 => ?_⟩⟩, fun q1 => ⟨fun q2 => ?_, fun q2 => ⟨fun q3 => ?_, fun q3 => ?_⟩⟩⟩, fun q => ?_⟩)
  · exact h _ (by simp [bw, q, q2]) (by simp [bcr, q]) (by simp [br, q, q1]) (fun b k _ => rfl)
  · exact h _ (by simp [bw, q, q2, q3]) (by simp [bcr, q]) (by simp [br, q, q1]) (fun b k _ => rfl)
  · exact h _ (by simp [bw, q, q2, q3, u2]) (by simp [bcr, q, u2]) (by simp [br, q, q1, u2]) (fun b k hk => by rcases hk with hk | hk <;> simp [u2, hk])
  · exact h _ (by simp [bw, q, q2, u2]) (by simp [bcr, q, u2]) (by simp [br, q, q1, u2]) (fun b k hk => by rcases hk with hk | hk <;> simp [u2, hk])
  · exact h _ (by simp [bw, q, q2, q3, u2]) (by simp [bcr, q, u2]) (by simp [br, q, q1, u2]) (fun b k hk => by rcases hk with hk | hk <;> simp [u2, hk])
  · exact h _ (by simp [bw, q, q2, q3, u2]) (by simp [bcr, q, u2]) (by simp [br, q, q1, u2]) (fun b k hk => by rcases hk with hk | hk <;> simp [u2, hk])
  · exact h _ (by simp [bw, q, u2]) (by simp [bcr, q, u2]) (by simp [br, q, u2]) (fun b k hk => by rcases hk with hk | hk <;> simp [u2, hk])
theorem t_passHour (hL : LV S P v) (hnp : I v 11 = nI np) (h24 : np ≤ 24) (hc : I (v + 13) 0 = nI nc) (h2 : 2 ≤ nc) (h6 : nc ≤ 6) (hch : ch < nc) (hs : aC I v np s) (hF : PFc I v np nc sd cp sh tg) (hab : ∀ c, c < nc → iabs (hH nc ch lg s.1 c - s.1 c) = d2 (hH nc ch lg s.1 c) (s.1 c))
    (h : ∀ J : IT, aC J v np (hrf nc sd cp tg ch lg s) → frC v np I J → Q none S P J) : T g MX7_passHour 0 0 [.ref v, .int (nI ch), .int lg] S P I Q := by
  obtain ⟨hs1, hs2, hs3, hs4⟩ := hs
  refine T_of rfl (Nat.le_of_ble_eq_true rfl) (s_X7_passHour_0 ⟨hL.t, _, hL.p9, hL.kp, t_burn hL.ki hc h2 h6 hch fun J b1 b2 b3 b4 b5 b6 b7 => s_X7_passHour_9 ?_⟩)
  have e1 : ∀ j, j < 6 → J (v + 14) j = hH nc ch lg s.1 j := by
    intro j hj
    unfold hH
    by_cases q : j < nc
    · rw [if_pos q, b2 j q]
      have : hn (I (v + 14)) nc j = hn s.1 nc j := by
        unfold hn hlo hfl
        by_cases q1 : j + 1 < nc
        · by_cases q2 : 1 ≤ j
          · rw [if_pos q1, if_pos q1, if_pos q2, if_pos q2, hs1 j hj, hs1 (j + 1) (by omega), hs1 (j - 1) (by omega), hs1 (j - 1 + 1) (by omega)]
          · rw [if_pos q1, if_pos q1, if_neg q2, if_neg q2, hs1 j hj, hs1 (j + 1) (by omega)]
        · by_cases q2 : 1 ≤ j
          · rw [if_neg q1, if_neg q1, if_pos q2, if_pos q2, hs1 j hj, hs1 (j - 1) (by omega), hs1 (j - 1 + 1) (by omega)]
          · rw [if_neg q1, if_neg q1, if_neg q2, if_neg q2, hs1 j hj]
      rw [show v + 13 + 1 = v + 14 from rfl, this]
    · rw [if_neg q, ← hs1 j hj]; exact b3 j (by omega) hj
  have e2 : ∀ j, j < 6 → J (v + 15) j = s.1 j := fun j hj => (b1 j hj).trans (hs1 j hj)
  have loop : ∀ k i K, i + k = np → (∀ p, p < i → K (pA v p) 3 = (hrf nc sd cp tg ch lg s).2.1 p ∧ K (pA v p) 6 = (hrf nc sd cp tg ch lg s).2.2.1 p ∧ K (pA v p) 7 = (hrf nc sd cp tg ch lg s).2.2.2.1 p) → (∀ p, i ≤ p → p < np → K (pA v p) 3 = s.2.1 p ∧ K (pA v p) 6 = s.2.2.1 p ∧ K (pA v p) 7 = s.2.2.2.1 p) → (∀ a k, (a < v + 59 ∨ v + 59 + np ≤ a ∨ (k ≠ 3 ∧ k ≠ 6 ∧ k ≠ 7)) → K a k = J a k) → B g MX7_passHour 0 0 11 [(0, .ref v), (1, .int (nI ch)), (2, .int lg), (3, .int (nI i))] [] S P K Q := by
    intro k
    induction k with
    | zero =>
      intro i K he a1 a2 a3
      have ei : i = np := by omega
      subst ei
      have ec : K v 11 = nI i := by rw [a3 v 11 (by omega), b6 v 11 (by omega) (by omega) (by omega)]; exact hnp
      refine s_X7_passHour_11 ⟨hL.t, fun _ => h K ⟨fun j hj => (a3 _ _ (by omega)).trans (e1 j hj), a1, ?_, ?_⟩ (fun a k q1 q2 q3 q4 => ?_), fun q => ?_⟩
      · rw [a3 _ _ (by omega), b4, hs3]; rfl
      · rw [a3 _ _ (by omega), b5, hs4]; rfl
      · rw [a3 a k q4]
        by_cases e : a = v + 13
        · subst e; exact b7 k (by omega) (by omega)
        · exact b6 a k e q2 q3
      · rw [ec] at q; exact absurd (nI_le (by omega) (by omega)) q
    | succ k ih =>
      intro i K he a1 a2 a3
      have ec : K v 11 = nI np := by rw [a3 v 11 (by omega), b6 v 11 (by omega) (by omega) (by omega)]; exact hnp
      have hi : i < np := by omega
      obtain ⟨f1, f2, f3, f4, f5⟩ := hF i hi
      obtain ⟨c3, c6, c7⟩ := a2 i (Nat.le_refl _) hi
      have pe : ∀ k, k ≠ 3 ∧ k ≠ 6 ∧ k ≠ 7 → K (pA v i) k = I (pA v i) k := fun k hk => (a3 _ _ (Or.inr (Or.inr hk))).trans (b6 _ _ (by unfold pA; omega) (by unfold pA; omega) (by unfold pA; omega))
      have nx : ∀ K2 : IT, K2 (pA v i) 3 = (hrf nc sd cp tg ch lg s).2.1 i → K2 (pA v i) 6 = (hrf nc sd cp tg ch lg s).2.2.1 i → K2 (pA v i) 7 = (hrf nc sd cp tg ch lg s).2.2.2.1 i → (∀ b k, (b ≠ pA v i ∨ (k ≠ 3 ∧ k ≠ 6 ∧ k ≠ 7)) → K2 b k = K b k) → B g MX7_passHour 0 0 83 [(0, .ref v), (1, .int (nI ch)), (2, .int lg), (3, .int (nI i)), (4, .ref (pA v i))] [] S P K2 Q := by
        intro K2 g1 g2 g3 g4
        refine s_X7_passHour_83 ?_
        rw [nI_1]
        refine ih (i + 1) K2 (by omega) (fun p hp => ?_) (fun p hp hp2 => ?_) (fun a k hk => ?_)
        · by_cases e : p = i
          · subst e; exact ⟨g1, g2, g3⟩
          · have ne : pA v p ≠ pA v i := by unfold pA; omega
            rw [g4 _ _ (Or.inl ne), g4 _ _ (Or.inl ne), g4 _ _ (Or.inl ne)]; exact a1 p (by omega)
        · have ne : pA v p ≠ pA v i := by unfold pA; omega
          rw [g4 _ _ (Or.inl ne), g4 _ _ (Or.inl ne), g4 _ _ (Or.inl ne)]; exact a2 p (by omega) hp2
        · rw [g4 a k (by unfold pA; omega)]; exact a3 a k hk
      refine s_X7_passHour_11 ⟨hL.t, fun q => ?_, fun q => ⟨_, hL.p10, hL.t18, i, ixl hL.l18 (by omega) (by decide), _, hL.pp (by omega), hL.po (by omega), fun q1 => ?_, fun q1 => ⟨fun q2 => ?_, fun q2 => ?_⟩⟩⟩
      · rw [ec] at q; exact absurd q (nI_ge (by omega) (by omega))
      · rw [pe 4 (by decide)] at q1
        have hd := f1.mp q1
        exact nx K (by rw [c3]; simp [hrf, hd]) (by rw [c6]; simp [hrf, hd]) (by rw [c7]; simp [hrf, hd]) (fun _ _ _ => rfl)
      · rw [c6] at q2
        exact nx K (by rw [c3]; simp [hrf, q2]) (by rw [c6]; simp [hrf, q2]) (by rw [c7]; simp [hrf, q2]) (fun _ _ _ => rfl)
      · rw [pe 4 (by decide)] at q1
        rw [c6] at q2
        have hd : sd i = true := by
          cases hb : sd i with
          | true => rfl
          | false => exact absurd (f1.mpr hb) q1
        obtain ⟨g1, g2⟩ := f2 hd
        refine ⟨_, hL.p9, hL.kp, _, hL.ki.2.1.1, hL.ki.1.2.1, cp i, ixe (by rw [pe 4 (by decide)]; exact g1) hL.ki.2.2.1 (by omega) (by decide), _, hL.ki.2.1.2.1, hL.ki.1.2.2.1, cp i, ixe (by rw [pe 4 (by decide)]; exact g1) hL.ki.2.2.2.1 (by omega) (by decide), _, hL.p7, hL.t11, sh i, ixe (by rw [pe 1 (by decide)]; exact f3) hL.l11 f4 (by decide), ?_⟩
        have x1 : K (v + 13 + 1) (cp i) = hH nc ch lg s.1 (cp i) := by rw [a3 _ _ (by omega)]; exact e1 _ (by omega)
        have x2 : K (v + 13 + 2) (cp i) = s.1 (cp i) := by rw [a3 _ _ (by omega)]; exact e2 _ (by omega)
        have x3 : K (v + 11) (sh i) = tg i := by rw [a3 _ _ (by omega), b6 _ _ (by omega) (by omega) (by omega)]; exact f5
        rw [x1, x2, x3, hab _ g2]
        refine t_bear (hL.po (by omega)) (fun K2 g1 g2 g3 g4 => nx K2 ?_ ?_ ?_ g4)
        · rw [g1, c3]; simp only [hrf]; rw [if_pos ⟨hd, q2⟩]
        · rw [g2, c3, c6]; simp only [hrf]; rw [if_pos ⟨hd, q2⟩]
        · rw [g3, c3, c7]; simp only [hrf]; rw [if_pos ⟨hd, q2⟩]
  refine loop np 0 J (by omega) (fun p hp => absurd hp (Nat.not_lt_zero p)) (fun p _ hp => ?_) (fun _ _ _ => rfl)
  rw [b6 _ _ (by unfold pA; omega) (by unfold pA; omega) (by unfold pA; omega), b6 _ _ (by unfold pA; omega) (by unfold pA; omega) (by unfold pA; omega), b6 _ _ (by unfold pA; omega) (by unfold pA; omega) (by unfold pA; omega)]
  exact hs2 p hp
end HOUR
