section HOUR9
variable {g : GT} {S : ST} {P : PT} {I I' : IT} {Q : QT} {x n m v p np nc nh nl c j ch : Nat} {z lg : Int32} {A A' : Nat → Int32} {sd : Nat → Bool} {cp sh : Nat → Nat} {tg : Nat → Int32} {s : HS}
theorem n41 (q : Nat) : (40 + 2 * nI q) + 1 = nI (41 + 2 * q) := by
  have e : 2 * nI q = nI (2 * q) := by rw [Nat.mul_comm]; exact (Int32.mul_comm _ _).trans (pk_mul q 2)
  rw [e, show (40 : Int32) = nI 40 from rfl, nI_add, nI_1, show 40 + 2 * q + 1 = 41 + 2 * q by omega]
theorem t9_bakes {b : Nat} (hL : LM S P m) (hp : p < 24) (hc : c < 6) (hs : I (m + 1) (300 + 8 * p + 1) = nI b) (hb : b < 5)
    (h : ∀ J : IT, J (m + 1) (300 + 8 * p + 3) = bw (d2 (I (m + 1) (10 + c)) (I (m + 5) c)) (I (m + 1) (41 + 2 * b)) (I (m + 1) (10 + c)) (I (m + 1) (300 + 8 * p + 3)) → J (m + 1) (300 + 8 * p + 5) = bcr (d2 (I (m + 1) (10 + c)) (I (m + 5) c)) (I (m + 1) (41 + 2 * b)) (I (m + 1) (300 + 8 * p + 3)) (I (m + 1) (300 + 8 * p + 5)) → J (m + 1) (300 + 8 * p + 6) = br (d2 (I (m + 1) (10 + c)) (I (m + 5) c)) (I (m + 1) (41 + 2 * b)) (I (m + 1) (10 + c)) (I (m + 1) (300 + 8 * p + 3)) (I (m + 1) (300 + 8 * p + 6)) → (∀ a k, (a ≠ m + 1 ∨ (k ≠ 300 + 8 * p + 3 ∧ k ≠ 300 + 8 * p + 5 ∧ k ≠ 300 + 8 * p + 6)) → J a k = I a k) → Q none S P J) : T g MX9_bakes 0 0 [.ref m, .int (nI p), .int (nI c)] S P I Q := by
  have go : ∀ d, d = d2 (I (m + 1) (10 + c)) (I (m + 5) c) → B g MX9_bakes 0 0 39 [(0, .ref m), (1, .int (nI p)), (2, .int (nI c)), (3, .int (I (m + 1) (10 + c)))] [.int d] S P I Q := by
    intro d hd
    rw [← hd] at h
    clear hd
    refine s_X9_bakes_39 ⟨hL.t, _, hL.p, hL.a, 300 + 8 * p + 1, hL.ix (n300 p 1) (by omega), 41 + 2 * b, hL.ix (by rw [hs]; exact n41 b) (by omega), 300 + 8 * p + 3, hL.ix (n300 p 3) (by omega), fun q => ⟨fun q1 => ?_, fun q1 => ⟨300 + 8 * p + 6, hL.ix (n300 p 6) (by omega), ?_⟩⟩, fun q => ⟨300 + 8 * p + 5, hL.ix (n300 p 5) (by omega), ?_⟩⟩
    · refine s_X9_bakes_112 ⟨fun q2 => ?_, fun q2 => ⟨hL.t, _, hL.p, hL.a, 300 + 8 * p + 3, hL.ix (n300 p 3) (by omega), fun q3 => ?_, fun q3 => ?_⟩⟩
      · exact h _ (by simp [bw, q, q2]) (by simp [bcr, q]) (by simp [br, q, q1]) (fun _ _ _ => rfl)
      · exact h _ (by simp [bw, q, q2, q3]) (by simp [bcr, q]) (by simp [br, q, q1]) (fun _ _ _ => rfl)
      · exact h _ (by simp [bw, q, q2, q3, u2]) (by simp [bcr, q, u2]) (by simp [br, q, q1, u2]) (fun b k hk => by rcases hk with hk | hk <;> simp [u2, hk])
    · have e3 : u2 I (m + 1) (300 + 8 * p + 6) (I (m + 1) (300 + 8 * p + 6) + (I (m + 1) (10 + c) - 600) / 50) (m + 1) (300 + 8 * p + 3) = I (m + 1) (300 + 8 * p + 3) := u2_k (by omega)
      refine s_X9_bakes_112 ⟨fun q2 => ?_, fun q2 => ⟨hL.t, _, hL.p, hL.a, 300 + 8 * p + 3, hL.ix (n300 p 3) (by omega), fun q3 => ?_, fun q3 => ?_⟩⟩
      · exact h _ (by simp [bw, q, q2, u2]) (by simp [bcr, q, u2]) (by simp [br, q, q1, u2]) (fun b k hk => by rcases hk with hk | hk <;> simp [u2, hk])
      · rw [e3] at q3
        exact h _ (by simp [bw, q, q2, q3, u2]) (by simp [bcr, q, u2]) (by simp [br, q, q1, u2]) (fun b k hk => by rcases hk with hk | hk <;> simp [u2, hk])
      · rw [e3] at q3 ⊢
        exact h _ (by simp [bw, q, q2, q3, u2]) (by simp [bcr, q, u2]) (by simp [br, q, q1, u2]) (fun b k hk => by rcases hk with hk | hk <;> simp [u2, hk])
    · exact h _ (by simp [bw, q, u2]) (by simp [bcr, q, u2]) (by simp [br, q, u2]) (fun b k hk => by rcases hk with hk | hk <;> simp [u2, hk])
  refine T_of rfl (Nat.le_of_ble_eq_true rfl) (s_X9_bakes_0 ⟨hL.t, _, hL.p, hL.a, 10 + c, hL.ix (nI_add 10 c) (by omega), _, hL.2.2.2.2.1, hL.2.2.2.2.2.1, c, ixl hL.2.2.2.2.2.2 hc (by decide), fun q => ?_, fun q => ?_⟩)
  · exact go _ (by unfold d2; rw [if_pos q])
  · exact go _ (by unfold d2; rw [if_neg q])
def hq (h : Nat → Int32) (nc i j : Nat) : Int32 := hg h nc i j + (if j < nc then (h j - 20) / 16 else 0)
theorem hq_0 (h : Nat → Int32) (nc j : Nat) : hq h nc 0 j = h j := by
  unfold hq
  rw [hg_0]
  by_cases q : j < nc
  · rw [if_pos q, if_pos q]; unfold hlo; grind
  · rw [if_neg q, if_neg q]; grind
theorem hq_s1 {h : Nat → Int32} {nc i : Nat} (hi : i < nc) : hq h nc (i + 1) i = hq h nc i i - hfl h i := by
  unfold hq
  rw [hg_s1 hi]; grind
theorem hq_s2 {h : Nat → Int32} {nc i : Nat} (hi : i + 1 < nc) : hq h nc (i + 1) (i + 1) = hq h nc i (i + 1) + hfl h i := by
  unfold hq
  rw [hg_s2 hi]; grind
theorem hq_s3 {h : Nat → Int32} {nc i j : Nat} (h1 : j ≠ i) (h2 : j ≠ i + 1) : hq h nc (i + 1) j = hq h nc i j := by
  unfold hq
  rw [hg_s3 h1 h2]
theorem hq_l {h : Nat → Int32} {nc i : Nat} (hi : i < nc) : hq h nc (nc - 1) i - (h i - 20) / 16 = hn h nc i := by
  unfold hq
  rw [if_pos hi, hg_n hi]; grind
theorem hq_o {h : Nat → Int32} {nc i j : Nat} (hi : ¬ j < nc) : hq h nc i j = h j := by
  unfold hq hg
  rw [if_neg hi, if_neg hi]; grind
theorem t9_hour (hL : LM S P m) (hnp : I (m + 1) 1 = nI np) (h24 : np ≤ 24) (hc : I (m + 1) 2 = nI nc) (h2 : 2 ≤ nc) (h6 : nc ≤ 6) (hch : ch < nc) (hs : aM (I (m + 1)) np s) (hF : PFm (I (m + 1)) np nc sd cp sh tg)
    (h : ∀ J : IT, aM (J (m + 1)) np (hrf nc sd cp tg ch lg s) → frM m np I J → Q none S P J) : T g MX9_hour 0 0 [.ref m, .int (nI ch), .int lg] S P I Q := by
  obtain ⟨hs1, hs2, hs3, hs4⟩ := hs
  have pots : ∀ J : IT, (∀ j, j < 6 → J (m + 1) (10 + j) = hH nc ch lg s.1 j) → (∀ j, j < nc → J (m + 5) j = s.1 j) → (∀ k, (k < 10 ∨ 16 ≤ k) → J (m + 1) k = I (m + 1) k) → (∀ a k, a ≠ m + 1 → a ≠ m + 5 → J a k = I a k) → B g MX9_hour 0 0 169 [(0, .ref m), (1, .int (nI ch)), (2, .int lg), (3, .int (nI nc)), (4, .int 0)] [] S P J Q := by
    intro J e1 e2 e3 e4
    have loop : ∀ k i K, i + k = np → (∀ p, p < i → K (m + 1) (300 + 8 * p + 3) = (hrf nc sd cp tg ch lg s).2.1 p ∧ K (m + 1) (300 + 8 * p + 5) = (hrf nc sd cp tg ch lg s).2.2.1 p ∧ K (m + 1) (300 + 8 * p + 6) = (hrf nc sd cp tg ch lg s).2.2.2.1 p) → (∀ k, (∀ p, p < i → k ≠ 300 + 8 * p + 3 ∧ k ≠ 300 + 8 * p + 5 ∧ k ≠ 300 + 8 * p + 6) → K (m + 1) k = J (m + 1) k) → (∀ a k, a ≠ m + 1 → K a k = J a k) → B g MX9_hour 0 0 169 [(0, .ref m), (1, .int (nI ch)), (2, .int lg), (3, .int (nI nc)), (4, .int (nI i))] [] S P K Q := by
      intro k
      induction k with
      | zero =>
        intro i K he a1 a2 a3
        have ei : i = np := by omega
        subst ei
        have ek : ∀ k, k < 300 → K (m + 1) k = J (m + 1) k := fun k hk => a2 k (fun p hp => by omega)
        refine s_X9_hour_169 ⟨hL.t, _, hL.p, hL.a, 1, hL.ix rfl (by decide), fun _ => ⟨3, hL.ix rfl (by decide), 4, hL.ix rfl (by decide), h _ ⟨fun j hj => ?_, fun p hp => ?_, ?_, ?_⟩ ⟨fun k q1 q2 q3 q4 => ?_, fun a k q1 q2 => ?_⟩⟩, fun q => ?_⟩
        · rw [u2_k (by omega), u2_k (by omega), ek _ (by omega)]; exact e1 j hj
        · rw [u2_k (by omega), u2_k (by omega), u2_k (by omega), u2_k (by omega), u2_k (by omega), u2_k (by omega)]; exact a1 p hp
        · rw [u2_k (by decide), u2_s, ek 3 (by decide), e3 3 (by decide), hs3]; rfl
        · rw [u2_s, u2_k (by decide), ek 4 (by decide), e3 4 (by decide), hs4]; rfl
        · rw [u2_k q2, u2_k q1, a2 k q4]; exact e3 k q3
        · rw [u2_a q1, u2_a q1, a3 a k q1]; exact e4 a k q1 q2
        · rw [ek 1 (by decide), e3 1 (by decide), hnp] at q; exact absurd (nI_le (by omega) (by omega)) q
      | succ k ih =>
        intro i K he a1 a2 a3
        have hi : i < np := by omega
        have ek : ∀ k, (k < 300 ∨ 300 + 8 * i ≤ k) → K (m + 1) k = J (m + 1) k := fun k hk => a2 k (fun p hp => by omega)
        have eI : ∀ k, (k < 10 ∨ (16 ≤ k ∧ k < 300) ∨ 300 + 8 * i ≤ k) → K (m + 1) k = I (m + 1) k := fun k hk => (ek k (by omega)).trans (e3 k (by omega))
        obtain ⟨f1, f2, f3, f4, f5⟩ := hF i hi
        obtain ⟨c3, c5, c6⟩ := hs2 i hi
        rw [← eI _ (by omega)] at c3 c5 c6 f1 f2 f3 f5
        have nx : ∀ K2 : IT, K2 (m + 1) (300 + 8 * i + 3) = (hrf nc sd cp tg ch lg s).2.1 i → K2 (m + 1) (300 + 8 * i + 5) = (hrf nc sd cp tg ch lg s).2.2.1 i → K2 (m + 1) (300 + 8 * i + 6) = (hrf nc sd cp tg ch lg s).2.2.2.1 i → (∀ a k, (a ≠ m + 1 ∨ (k ≠ 300 + 8 * i + 3 ∧ k ≠ 300 + 8 * i + 5 ∧ k ≠ 300 + 8 * i + 6)) → K2 a k = K a k) → B g MX9_hour 0 0 214 [(0, .ref m), (1, .int (nI ch)), (2, .int lg), (3, .int (nI nc)), (4, .int (nI i))] [] S P K2 Q := by
          intro K2 g1 g2 g3 g4
          refine s_X9_hour_214 ?_
          rw [nI_1]
          refine ih (i + 1) K2 (by omega) (fun p hp => ?_) (fun k hk => ?_) (fun a k ha => ?_)
          · by_cases e : p = i
            · subst e; exact ⟨g1, g2, g3⟩
            · rw [g4 _ _ (Or.inr (by omega)), g4 _ _ (Or.inr (by omega)), g4 _ _ (Or.inr (by omega))]; exact a1 p (by omega)
          · rw [g4 _ _ (Or.inr (hk i (by omega)))]; exact a2 k (fun p hp => hk p (by omega))
          · rw [g4 _ _ (Or.inl ha)]; exact a3 a k ha
        refine s_X9_hour_169 ⟨hL.t, _, hL.p, hL.a, 1, hL.ix rfl (by decide), fun q => ?_, fun q => ⟨300 + 8 * i + 4, hL.ix (n300 i 4) (by omega), fun q1 => ?_, fun q1 => ⟨300 + 8 * i + 5, hL.ix (n300 i 5) (by omega), fun q2 => ?_, fun q2 => ?_⟩⟩⟩
        · rw [eI 1 (by omega), hnp] at q; exact absurd q (nI_ge (by omega) (by omega))
        · have hd := f1.mp q1
          exact nx K (by rw [c3]; simp [hrf, hd]) (by rw [c5]; simp [hrf, hd]) (by rw [c6]; simp [hrf, hd]) (fun _ _ _ => rfl)
        · rw [c5] at q2
          exact nx K (by rw [c3]; simp [hrf, q2]) (by rw [c5]; simp [hrf, q2]) (by rw [c6]; simp [hrf, q2]) (fun _ _ _ => rfl)
        · rw [c5] at q2
          have hd : sd i = true := by
            cases hb : sd i with
            | true => rfl
            | false => exact absurd (f1.mpr hb) q1
          obtain ⟨g1, g2⟩ := f2 hd
          rw [g1]
          refine t9_bakes hL (by omega) (by omega) f3 f4 (fun K2 g3 g4 g5 g6 => nx K2 ?_ ?_ ?_ g6)
          all_goals have x1 : K (m + 1) (10 + cp i) = hH nc ch lg s.1 (cp i) := (ek _ (by omega)).trans (e1 _ (by omega))
          all_goals have x2 : K (m + 5) (cp i) = s.1 (cp i) := (a3 _ _ (by omega)).trans (e2 _ g2)
          · rw [g3, x1, x2, f5, c3]; simp only [hrf]; rw [if_pos ⟨hd, q2⟩]
          · rw [g4, x1, x2, f5, c3, c5]; simp only [hrf]; rw [if_pos ⟨hd, q2⟩]
          · rw [g5, x1, x2, f5, c3, c6]; simp only [hrf]; rw [if_pos ⟨hd, q2⟩]
    exact loop np 0 J (by omega) (fun p hp => absurd hp (Nat.not_lt_zero p)) (fun _ _ => rfl) (fun _ _ _ => rfl)
  have loop2 : ∀ k i J, i + k = nc → (∀ j, j < 6 → J (m + 1) (10 + j) = if j < i then hn s.1 nc j else hq s.1 nc (nc - 1) j) → (∀ j, j < nc → J (m + 5) j = s.1 j) → (∀ k, (k < 10 ∨ 16 ≤ k) → J (m + 1) k = I (m + 1) k) → (∀ a k, a ≠ m + 1 → a ≠ m + 5 → J a k = I a k) → B g MX9_hour 0 0 112 [(0, .ref m), (1, .int (nI ch)), (2, .int lg), (3, .int (nI nc)), (4, .int (nI i))] [] S P J Q := by
    intro k
    induction k with
    | zero =>
      intro i J he a1 a2 a3 a4
      have ei : i = nc := by omega
      subst ei
      refine s_X9_hour_112 ⟨fun _ => ⟨hL.t, _, hL.p, hL.a, 10 + ch, hL.ix (nI_add 10 ch) (by omega), pots _ (fun j hj => ?_) (fun j hj => ?_) (fun k hk => ?_) (fun a k q1 q2 => ?_)⟩, fun q => absurd (nI_le (Nat.le_refl _) (by omega)) q⟩
      · unfold hH
        by_cases e : j = ch
        · subst e
          rw [u2_s, a1 j hj, if_pos hch, if_pos hch, if_pos rfl]
        · rw [u2_k (by omega), a1 j hj]
          by_cases e2 : j < i
          · rw [if_pos e2, if_pos e2, if_neg e]; grind
          · rw [if_neg e2, if_neg e2, hq_o e2]
      · rw [u2_a (by omega)]; exact a2 j hj
      · rw [u2_k (by omega)]; exact a3 k hk
      · rw [u2_a q1]; exact a4 a k q1 q2
    | succ k ih =>
      intro i J he a1 a2 a3 a4
      refine s_X9_hour_112 ⟨fun q => absurd q (nI_ge (by omega) (by omega)), fun q => ⟨hL.t, _, hL.p, hL.a, 10 + i, hL.ix (nI_add 10 i) (by omega), _, hL.2.2.2.2.1, hL.2.2.2.2.2.1, i, ixl hL.2.2.2.2.2.2 (by omega) (by decide), ?_⟩⟩
      rw [nI_1, a1 i (by omega), if_neg (by omega), a2 i (by omega), hq_l (by omega)]
      refine ih (i + 1) _ (by omega) (fun j hj => ?_) (fun j hj => ?_) (fun k hk => ?_) (fun a k q1 q2 => ?_)
      · by_cases e : j = i
        · subst e; rw [u2_s, if_pos (by omega)]
        · rw [u2_k (by omega), a1 j hj]
          by_cases e2 : j < i
          · rw [if_pos e2, if_pos (by omega)]
          · rw [if_neg e2, if_neg (by omega)]
      · rw [u2_a (by omega)]; exact a2 j hj
      · rw [u2_k (by omega)]; exact a3 k hk
      · rw [u2_a q1]; exact a4 a k q1 q2
  have loop1 : ∀ k i J, i + 1 + k = nc → (∀ j, j < 6 → J (m + 1) (10 + j) = hq s.1 nc i j) → (∀ j, j < nc → J (m + 5) j = s.1 j) → (∀ k, (k < 10 ∨ 16 ≤ k) → J (m + 1) k = I (m + 1) k) → (∀ a k, a ≠ m + 1 → a ≠ m + 5 → J a k = I a k) → B g MX9_hour 0 0 42 [(0, .ref m), (1, .int (nI ch)), (2, .int lg), (3, .int (nI nc)), (4, .int (nI i))] [] S P J Q := by
    intro k
    induction k with
    | zero =>
      intro i J he a1 a2 a3 a4
      have ei : i = nc - 1 := by omega
      subst ei
      refine s_X9_hour_42 ⟨fun _ => loop2 nc 0 J (by omega) (fun j hj => ?_) a2 a3 a4, fun q => ?_⟩
      · rw [if_neg (by omega)]; exact a1 j hj
      · rw [nI_1] at q; exact absurd (nI_le (by omega) (by omega)) q
    | succ k ih =>
      intro i J he a1 a2 a3 a4
      refine s_X9_hour_42 ⟨fun q => ?_, fun q => ⟨hL.t, _, hL.2.2.2.2.1, hL.2.2.2.2.2.1, i, ixl hL.2.2.2.2.2.2 (by omega) (by decide), i + 1, ixe (nI_1 i) hL.2.2.2.2.2.2 (by omega) (by decide), _, hL.p, hL.a, 10 + i, hL.ix (nI_add 10 i) (by omega), 10 + (i + 1), hL.ix (by rw [show (10 : Int32) = nI 10 from rfl, nI_add, nI_1]; rfl) (by omega), ?_⟩⟩
      · rw [nI_1] at q; exact absurd q (nI_ge (by omega) (by omega))
      · rw [nI_1, a2 i (by omega), a2 (i + 1) (by omega)]
        have ef : (s.1 i - s.1 (i + 1)) / 4 = hfl s.1 i := rfl
        rw [ef]
        refine ih (i + 1) _ (by omega) (fun j hj => ?_) (fun j hj => ?_) (fun k hk => ?_) (fun a k q1 q2 => ?_)
        · by_cases e1 : j = i + 1
          · subst e1
            rw [u2_s, u2_k (by omega), a1 _ hj, hq_s2 (by omega)]
          · rw [u2_k (by omega)]
            by_cases e2 : j = i
            · subst e2
              rw [u2_s, a1 _ hj, hq_s1 (by omega)]
            · rw [u2_k (by omega), a1 j hj, hq_s3 e2 e1]
        · rw [u2_a (by omega), u2_a (by omega)]; exact a2 j hj
        · rw [u2_k (by omega), u2_k (by omega)]; exact a3 k hk
        · rw [u2_a q1, u2_a q1]; exact a4 a k q1 q2
  have loop0 : ∀ k i J, i + k = nc → (∀ k, J (m + 1) k = I (m + 1) k) → (∀ j, j < i → J (m + 5) j = s.1 j) → (∀ a k, a ≠ m + 5 → J a k = I a k) → B g MX9_hour 0 0 10 [(0, .ref m), (1, .int (nI ch)), (2, .int lg), (3, .int (nI nc)), (4, .int (nI i))] [] S P J Q := by
    intro k
    induction k with
    | zero =>
      intro i J he a1 a2 a3
      have ei : i = nc := by omega
      subst ei
      exact s_X9_hour_10 ⟨fun _ => loop1 (i - 1) 0 J (by omega) (fun j hj => by rw [a1, hs1 j hj, hq_0]) a2 (fun k _ => a1 k) (fun a k _ q => a3 a k q), fun q => absurd (nI_le (Nat.le_refl _) (by omega)) q⟩
    | succ k ih =>
      intro i J he a1 a2 a3
      refine s_X9_hour_10 ⟨fun q => absurd q (nI_ge (by omega) (by omega)), fun q => ⟨hL.t, _, hL.2.2.2.2.1, _, hL.p, hL.a, 10 + i, hL.ix (nI_add 10 i) (by omega), hL.2.2.2.2.2.1, i, ixl hL.2.2.2.2.2.2 (by omega) (by decide), ?_⟩⟩
      rw [nI_1]
      refine ih (i + 1) _ (by omega) (fun k => ?_) (fun j hj => ?_) (fun a k q1 => ?_)
      · rw [u2_a (by omega)]; exact a1 k
      · by_cases e : j = i
        · subst e; rw [u2_s, a1]; exact hs1 j (by omega)
        · rw [u2_k e]; exact a2 j (by omega)
      · rw [u2_a q1]; exact a3 a k q1
  refine T_of rfl (Nat.le_of_ble_eq_true rfl) (s_X9_hour_0 ⟨hL.t, _, hL.p, hL.a, 2, hL.ix rfl (by decide), ?_⟩)
  rw [hc]
  exact loop0 nc 0 I (by omega) (fun _ => rfl) (fun j hj => absurd hj (Nat.not_lt_zero j)) (fun _ _ _ => rfl)
end HOUR9
