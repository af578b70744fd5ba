section OPEN3
variable {g : GT} {S : ST} {P : PT} {I I' J K L : IT} {Q : QT} {x n m v p np nc nh nl c j ch o cc : Nat} {z : Int32} {A A' f3 : Nat → Int32} {sd : Nat → Bool} {ow : Nat → Nat} {ck wr pt rv : Nat → Int32} {s : OS}
theorem t9_open_b {w : Nat} (hL : LM S P m) (hnp : L (m + 1) 1 = nI np) (h24 : np ≤ 24) (hsd : ∀ p, p < np → (L (m + 1) (300 + 8 * p + 4) < 0 ↔ sd p = false))
    (h : ∀ J : IT, (∀ q, q < np → sd q = false → ∀ k, k < 8 → J (m + 1) (300 + 8 * wcn sd q + k) = L (m + 1) (300 + 8 * q + k)) → J (m + 1) 1 = nI (wcn sd np) → J (m + 1) 5 = L (m + 1) 5 + 1 → (∀ k, k ≠ 1 → k ≠ 5 → (k < 300 ∨ 492 ≤ k) → J (m + 1) k = L (m + 1) k) → (∀ a k, a ≠ m + 1 → J a k = L a k) → Q (some (.int (nI w))) S P J) : B g MX9_open 0 0 62 [(0, .ref m), (1, .int (nI w)), (2, .int 0), (3, .int 0)] [] S P L Q := by
  have loop : ∀ k i K, i + k = np → (∀ q, q < i → sd q = false → ∀ k, k < 8 → K (m + 1) (300 + 8 * wcn sd q + k) = L (m + 1) (300 + 8 * q + k)) → (∀ j, (j < 300 ∨ 300 + 8 * i ≤ j) → K (m + 1) j = L (m + 1) j) → (∀ a k, a ≠ m + 1 → K a k = L a k) → B g MX9_open 0 0 62 [(0, .ref m), (1, .int (nI w)), (2, .int (nI (wcn sd i))), (3, .int (nI i))] [] S P K Q := by
    intro k
    induction k with
    | zero =>
      intro i K he a1 a2 a3
      have ei : i = np := by omega
      subst ei
      refine s_X9_open_62 ⟨hL.t, _, hL.p, hL.a, 1, hL.ix rfl (by decide), fun _ => ⟨5, hL.ix rfl (by decide), h _ (fun q hq hd k hk => ?_) ?_ ?_ (fun k h1 h2 h3 => ?_) (fun a k ha => ?_)⟩, fun q => ?_⟩
      · have hw := wcn_le sd q
        rw [u2_k (by omega), u2_k (by omega)]; exact a1 q hq hd k hk
      · rw [u2_k (by decide), u2_s]
      · rw [u2_s, u2_k (by decide), a2 5 (by omega)]
      · rw [u2_k h2, u2_k h1]; exact a2 k (by omega)
      · rw [u2_a ha, u2_a ha]; exact a3 a k ha
      · rw [a2 1 (by omega), hnp] at q; exact absurd (nI_le (Nat.le_refl _) (by omega)) q
    | succ k ih =>
      intro i K he a1 a2 a3
      have hi : i < np := by omega
      have hwl := wcn_le sd i
      have f1 := hsd i hi
      refine s_X9_open_62 ⟨hL.t, _, hL.p, hL.a, 1, hL.ix rfl (by decide), fun q => ?_, fun q => ⟨300 + 8 * i + 4, hL.ix (n300 i 4) (by omega), fun q1 => ?_, fun q1 => ?_⟩⟩
      · rw [a2 1 (by omega), hnp] at q; exact absurd q (nI_ge (by omega) (by omega))
      · rw [a2 _ (by omega)] at q1
        have hd := f1.mp q1
        have inner : ∀ k2 b K2, b + k2 = 8 → (∀ j, j < b → K2 (m + 1) (300 + 8 * wcn sd i + j) = L (m + 1) (300 + 8 * i + j)) → (∀ j, (j < 300 + 8 * wcn sd i ∨ 300 + 8 * wcn sd i + 8 ≤ j) → K2 (m + 1) j = K (m + 1) j) → (∀ j, 300 + 8 * i ≤ j → K2 (m + 1) j = L (m + 1) j) → (∀ a k, a ≠ m + 1 → K2 a k = L a k) → B g MX9_open 0 0 86 [(0, .ref m), (1, .int (nI w)), (2, .int (nI (wcn sd i))), (3, .int (nI i)), (4, .int (nI b))] [] S P K2 Q := by
          intro k2
          induction k2 with
          | zero =>
            intro b K2 hb b1 b2 b3 b4
            have eb : b = 8 := by omega
            subst eb
            refine s_X9_open_86 ⟨fun _ => ?_, fun q => absurd (by decide) q⟩
            rw [nI_1, nI_1, ← wcn_f hd]
            refine ih (i + 1) K2 (by omega) (fun q hq hdq k hk => ?_) (fun j hj => ?_) b4
            · by_cases e : q = i
              · subst e; exact b1 k hk
              · have := wcn_lt hdq (show q < i by omega)
                rw [b2 _ (by omega)]; exact a1 q (by omega) hdq k hk
            · rcases hj with t | t
              · rw [b2 _ (by omega)]; exact a2 j (by omega)
              · exact b3 j (by omega)
          | succ k2 ih2 =>
            intro b K2 hb b1 b2 b3 b4
            refine s_X9_open_86 ⟨fun q => absurd q (nI_ge (b := 8) (by omega) (by decide)), fun q => ⟨hL.t, _, hL.p, hL.a, 300 + 8 * i + b, hL.ix (n300 i b) (by omega), 300 + 8 * wcn sd i + b, hL.ix (n300 _ b) (by omega), ?_⟩⟩
            rw [nI_1, b3 _ (by omega)]
            refine ih2 (b + 1) _ (by omega) (fun j hj => ?_) (fun j hj => ?_) (fun j hj => ?_) (fun a k ha => ?_)
            · by_cases e : j = b
              · subst e; rw [u2_s]
              · rw [u2_k (by omega)]; exact b1 j (by omega)
            · rw [u2_k (by omega)]; exact b2 j hj
            · by_cases e : j = 300 + 8 * wcn sd i + b
              · have : wcn sd i = i := by omega
                rw [e, u2_s, this]
              · rw [u2_k e]; exact b3 j hj
            · rw [u2_a ha]; exact b4 a k ha
        exact inner 8 0 K (by omega) (fun j hj => absurd hj (Nat.not_lt_zero j)) (fun _ _ => rfl) (fun j hj => a2 j (by omega)) a3
      · rw [a2 _ (by omega)] at q1
        have hd : sd i = true := by
          cases hb : sd i with
          | true => rfl
          | false => exact absurd (f1.mpr hb) q1
        rw [nI_1, ← wcn_t hd]
        refine ih (i + 1) K (by omega) (fun q hq hdq k hk => ?_) (fun j hj => a2 j (by omega)) a3
        have hq2 : q < i := by
          rcases Nat.lt_or_ge q i with t | t
          · exact t
          · rw [show q = i by omega, hd] at hdq; cases hdq
        exact a1 q hq2 hdq k hk
  exact loop np 0 L (by omega) (fun q hq => absurd hq (Nat.not_lt_zero q)) (fun _ _ => rfl) (fun _ _ _ => rfl)
theorem t9_open_a (hL : LM S P m) (hnh : I (m + 1) 0 = nI nh) (h8 : nh ≤ 8) (hnp : I (m + 1) 1 = nI np) (h24 : np ≤ 24) (hcc : cc + 6 ≤ m) (hC : RVc I cc (I (m + 1)) nl) (hP : POm (I (m + 1)) np nh nl sd ow ck wr pt rv) (hw0 : s.2.2 = 0) (hs : ∀ h, h < nh → I (m + 1) (60 + 30 * h + 0) = s.1 h ∧ I (m + 1) (60 + 30 * h + 3) = s.2.1 h)
    (h : ∀ J : IT, (∀ h, h < nh → J (m + 1) (60 + 30 * h + 0) = (oit nh sd ow ck wr pt rv s np).1 h ∧ J (m + 1) (60 + 30 * h + 3) = (oit nh sd ow ck wr pt rv s np).2.1 h) → frOm m nh I J → B g MX9_open 0 0 62 [(0, .ref m), (1, .int (nI (oit nh sd ow ck wr pt rv s np).2.2)), (2, .int 0), (3, .int 0)] [] S P J Q) : B g MX9_open 0 0 23 [(0, .ref m), (1, .int 0), (2, .int 0)] [] S P I Q := by
  have loop : ∀ k i K, i + k = np → (∀ h, h < nh → K (m + 1) (60 + 30 * h + 0) = (oit nh sd ow ck wr pt rv s i).1 h ∧ K (m + 1) (60 + 30 * h + 3) = (oit nh sd ow ck wr pt rv s i).2.1 h) → frOm m nh I K → ∀ w, w = (oit nh sd ow ck wr pt rv s i).2.2 → B g MX9_open 0 0 23 [(0, .ref m), (1, .int (nI w)), (2, .int (nI i))] [] S P K Q := by
    intro k
    induction k with
    | zero =>
      intro i K he a1 a2 w hw
      have ei : i = np := by omega
      subst ei
      refine s_X9_open_23 ⟨hL.t, _, hL.p, hL.a, 1, hL.ix rfl (by decide), fun _ => ?_, fun q => ?_⟩
      · rw [hw]; exact h K a1 a2
      · rw [a2.1 1 (fun h hh => by omega), hnp] at q; exact absurd (nI_le (Nat.le_refl _) (by omega)) q
    | succ k ih =>
      intro i K he a1 a2 w hw
      have hi : i < np := by omega
      have eB : ∀ k, (300 ≤ k ∨ k < 60) → K (m + 1) k = I (m + 1) k := fun k hk => a2.1 k (fun h hh => by omega)
      obtain ⟨f1, ⟨sz, gz, p0, p1, p2, p3, p4, p5, p6, p7⟩, p8, p9, p10⟩ := hP i hi
      refine s_X9_open_23 ⟨hL.t, _, hL.p, hL.a, 1, hL.ix rfl (by decide), fun q => ?_, fun q => ⟨300 + 8 * i + 4, hL.ix (n300 i 4) (by omega), fun q1 => ?_, fun q1 => ?_⟩⟩
      · rw [a2.1 1 (fun h hh => by omega), hnp] at q; exact absurd q (nI_ge (by omega) (by omega))
      · rw [eB _ (by omega)] at q1
        have hd := f1.mp q1
        rw [nI_1]
        refine ih (i + 1) K (by omega) (fun y hy => ?_) a2 w ?_
        · simp only [oit, hd]; exact a1 y hy
        · rw [hw]; simp only [oit, hd]; rfl
      · rw [eB _ (by omega)] at q1
        have hd : sd i = true := by
          cases hb : sd i with
          | true => rfl
          | false => exact absurd (f1.mpr hb) q1
        have eF : ∀ a k, a < m → K a k = I a k := fun a k ha => a2.2 _ _ (by omega)
        have hC2 : RVc K cc (K (m + 1)) nl := hC.cong (eF _ _ (by omega)) (fun j _ => eF _ _ (by omega)) (fun j _ => eF _ _ (by omega)) (fun j _ => eF _ _ (by omega)) (fun j _ => eF _ _ (by omega)) (fun j _ => eF _ _ (by omega)) (eB _ (by omega)) (fun k h1 h2 => eB _ (by omega))
        have eAsk : (fun j => K (m + 1) (300 + 8 * i + j)) = fun j => I (m + 1) (300 + 8 * i + j) := funext fun j => eB _ (by omega)
        refine t9_gives (f := (oit nh sd ow ck wr pt rv s i).1) (f3 := (oit nh sd ow ck wr pt rv s i).2.1) (sv := ask9 (fun j => I (m + 1) (300 + 8 * i + j))) (wr := wr i) (rv := rv i) (o := ow i) (sz := sz) (gz := gz) hL ((eB _ (by omega)).trans hnh) h8 (by omega) ((eB _ (by omega)).trans p0) p1 ((eB _ (by omega)).trans p2) p3 ((eB _ (by omega)).trans p4) ((eB _ (by omega)).trans p5) p6 (by rw [eB _ (by omega), eB _ (by omega)]; exact p7) hC2 (fun y hy => by rw [eAsk]) a1 (fun K2 b1 b2 => ?_)
        have r01 : rv i = 0 ∨ rv i = 1 := by rw [← p7]; exact wi_01 _ _ _
        have ek8 : K (m + 1) (300 + 8 * i + 5) = ck i := (eB _ (by omega)).trans p8
        have epf : pfl (K (m + 1)) (ask9 (fun j => I (m + 1) (300 + 8 * i + j))) nl 0 = pt i := (pfl_cong (fun k hk => eB k (by omega)) nl 0).trans p10
        have b3 := gsW_r (ck := K (m + 1) (300 + 8 * i + 5)) (rv := rv i) w r01
        have nx : ∀ w', w' = gsW (K (m + 1) (300 + 8 * i + 5)) (rv i) w → B g MX9_open 0 0 23 [(0, .ref m), (1, .int (nI w')), (2, .int (nI i + 1))] [] S P K2 Q := by
          intro w' hw'
          rw [nI_1]
          refine ih (i + 1) K2 (by omega) (fun y hy => ?_) ⟨fun k hk => ?_, fun a k ha => ?_⟩ w' ?_
          · have := b1 y hy
            rw [this.1, this.2, epf, ek8]
            simp only [oit, hd]
            exact ⟨rfl, rfl⟩
          · rw [b2.1 k hk]; exact a2.1 k hk
          · rw [b2.2 a k ha]; exact a2.2 a k ha
          · rw [hw', hw, ek8]; simp only [oit, hd]; rfl
        refine s_X9_open_46 ⟨fun q3 => ?_, fun q3 => ?_⟩
        · exact nx w (b3.1 q3).symm
        · rw [nI_1 w]; exact nx (w + 1) (b3.2 q3).symm
  exact loop np 0 I (by omega) hs ⟨fun _ _ => rfl, fun _ _ _ => rfl⟩ 0 hw0.symm
end OPEN3
