def POc (I : IT) (v np nh nl : Nat) (A : Nat → Int32) (sd : Nat → Bool) (ow : Nat → Nat) (ck wr pt rv : Nat → Int32) : Prop := ∀ p, p < np → (I (pA v p) 4 = -1 ↔ sd p = false) ∧ (∃ sz gz : Nat, I (pA v p) 0 = nI (ow p) ∧ ow p < nh ∧ I (pA v p) 1 = nI sz ∧ sz < 5 ∧ I (v + 10) sz = wr p ∧ I (pA v p) 2 = nI gz ∧ gz < 4 ∧ rpv (I (pA v p) 7) (I (v + 12) gz) = rv p) ∧ I (pA v p) 6 = ck p ∧ (ck p = 0 ∨ ck p = 1) ∧ pfl A (sbj I (pA v p)) nl 0 = pt p
def POm (A : Nat → Int32) (np nh nl : Nat) (sd : Nat → Bool) (ow : Nat → Nat) (ck wr pt rv : Nat → Int32) : Prop := ∀ p, p < np → (A (300 + 8 * p + 4) < 0 ↔ sd p = false) ∧ (∃ sz gz : Nat, A (300 + 8 * p + 0) = nI (ow p) ∧ ow p < nh ∧ A (300 + 8 * p + 1) = nI sz ∧ sz < 5 ∧ A (40 + 2 * sz) = wr p ∧ A (300 + 8 * p + 2) = nI gz ∧ gz < 4 ∧ rpv (A (300 + 8 * p + 6)) (A (50 + gz)) = rv p) ∧ A (300 + 8 * p + 5) = ck p ∧ (ck p = 0 ∨ ck p = 1) ∧ pfl A (ask9 (fun i => A (300 + 8 * p + i))) nl 0 = pt p
section OPEN2
variable {g : GT} {S : ST} {P : PT} {I I' J K : IT} {Q : QT} {x n m v p np nc nh nl c j ch o : Nat} {z : Int32} {A A' f3 : Nat → Int32} {sd : Nat → Bool} {ow : Nat → Nat} {ck wr pt rv : Nat → Int32} {s : OS}
theorem gsW_r {ck rv : Int32} (w : Nat) (hr : rv = 0 ∨ rv = 1) : ((if ck = 0 then rv else 0) = 0 → gsW ck rv w = w) ∧ (¬ (if ck = 0 then rv else 0) = 0 → gsW ck rv w = w + 1) := by
  unfold gsW
  by_cases q : ck = 0
  · rw [if_pos q]
    exact ⟨fun z => if_neg (fun t => t.2 z), fun z => if_pos ⟨q, z⟩⟩
  · rw [if_neg q]
    exact ⟨fun _ => if_neg (fun t => q t.1), fun z => absurd rfl z⟩
theorem t_giveAllBack (hL : LV S P v) (hnh : I v 5 = nI nh) (h8 : nh ≤ 8) (hnp : I v 11 = nI np) (h24 : np ≤ 24) (hC : RVc I (v + 3) A nl) (hP : POc I v np nh nl A sd ow ck wr pt rv) (hw0 : s.2.2 = 0) (hs : ∀ h, h < nh → I (hA v h) 0 = s.1 h ∧ I (hA v h) 3 = s.2.1 h)
    (h : ∀ J : IT, (∀ h, h < nh → J (hA v h) 0 = (oit nh sd ow ck wr pt rv s np).1 h ∧ J (hA v h) 3 = (oit nh sd ow ck wr pt rv s np).2.1 h) → (∀ q, q < np → sd q = false → ∀ k, k < 8 → J (pA v (wcn sd q)) k = I (pA v q) k) → (∀ q, wcn sd np ≤ q → q < 24 → ∀ k, J (pA v q) k = I (pA v q) k) → J v 11 = nI (wcn sd np) → J v 12 = I v 12 + 1 → (∀ k, k < 24 → J (v + 17) k = -1) → (∀ a k, a ≠ v + 17 → (a ≠ v ∨ (k ≠ 11 ∧ k ≠ 12)) → (a < v + 59 ∨ v + 83 ≤ a) → (∀ h, h < nh → a ≠ hA v h ∨ (k ≠ 0 ∧ k ≠ 3)) → J a k = I a k) → Q (some (.int (nI (oit nh sd ow ck wr pt rv s np).2.2))) S P J) : T g MX7_giveAllBack 0 0 [.ref v] S P I Q := by
  refine T_of rfl (Nat.le_of_ble_eq_true rfl) (s_X7_giveAllBack_0 ?_)
  have loop : ∀ k i K, i + k = np → (∀ h, h < nh → K (hA v h) 0 = (oit nh sd ow ck wr pt rv s i).1 h ∧ K (hA v h) 3 = (oit nh sd ow ck wr pt rv s i).2.1 h) → (∀ q, q < i → sd q = false → ∀ k, k < 8 → K (pA v (wcn sd q)) k = I (pA v q) k) → (∀ q, wcn sd i ≤ q → q < 24 → ∀ k, K (pA v q) k = I (pA v q) k) → (∀ a k, (a < v + 59 ∨ v + 83 ≤ a) → (∀ h, h < nh → a ≠ hA v h ∨ (k ≠ 0 ∧ k ≠ 3)) → K a k = I a k) → ∀ w, w = (oit nh sd ow ck wr pt rv s i).2.2 → B g MX7_giveAllBack 0 0 6 [(0, .ref v), (1, .int (nI w)), (2, .int (nI (wcn sd i))), (3, .int (nI i))] [] S P K Q := by
    intro k
    induction k with
    | zero =>
      intro i K he a1 a2 a3 a4 w hw
      have ei : i = np := by omega
      subst ei
      have e11 : K v 11 = nI i := (a4 _ _ (by omega) (fun h hh => by unfold hA; omega)).trans hnp
      refine s_X7_giveAllBack_6 ⟨hL.t, fun _ => ⟨_, hL.p9, hL.kp, t_clear hL.ki (s_X7_giveAllBack_77 ⟨hL.t, ?_⟩)⟩, fun q => ?_⟩
      · generalize hJ : u2 (fil (u2 K v 11 (nI (wcn sd i))) (v + 13 + 4) (fun _ => -1) 0 24) v 12 _ = J
        have eJ : ∀ a k, a ≠ v + 17 → (a ≠ v ∨ (k ≠ 11 ∧ k ≠ 12)) → J a k = K a k := fun a k h1 h2 => by
          rw [← hJ]
          rcases h2 with h2 | h2
          · rw [u2_a h2, fil_a (by omega), u2_a h2]
          · rw [u2_k h2.2, fil_a (by omega), u2_k h2.1]
        rw [hw]
        refine h J (fun y hy => ?_) (fun q hq hd k hk => ?_) (fun q h1 h2 k => ?_) ?_ ?_ (fun k hk => ?_) (fun a k h1 h2 h3 h4 => ?_)
        · rw [eJ _ _ (by unfold hA; omega) (by unfold hA; omega), eJ _ _ (by unfold hA; omega) (by unfold hA; omega)]; exact a1 y hy
        · rw [eJ _ _ (by unfold pA; omega) (by unfold pA; omega)]; exact a2 q hq hd k hk
        · rw [eJ _ _ (by unfold pA; omega) (by unfold pA; omega)]; exact a3 q h1 h2 k
        · rw [← hJ, u2_k (by decide), fil_a (by omega), u2_s]
        · rw [← hJ, u2_s, fil_a (by omega), u2_k (by decide), a4 _ _ (by omega) (fun h hh => by unfold hA; omega)]
        · rw [← hJ, u2_a (by omega), fil_in (by omega) hk]
        · rw [eJ a k h1 h2]; exact a4 a k h3 h4
      · rw [e11] at q; exact absurd (nI_le (Nat.le_refl _) (by omega)) q
    | succ k ih =>
      intro i K he a1 a2 a3 a4 w hw
      have hi : i < np := by omega
      have e11 : K v 11 = nI np := (a4 _ _ (by omega) (fun h hh => by unfold hA; omega)).trans hnp
      obtain ⟨f1, ⟨sz, gz, p0, p1, p2, p3, p4, p5, p6, p7⟩, p8, p9, p10⟩ := hP i hi
      have hwl := wcn_le sd i
      have eK := a3 i hwl (by omega)
      refine s_X7_giveAllBack_6 ⟨hL.t, fun q => ?_, fun q => ⟨_, hL.p10, hL.t18, i, ixl hL.l18 (by omega) (by decide), _, hL.pp (by omega), hL.po (by omega), fun q1 => ⟨wcn sd i, ixl hL.l18 (by omega) (by decide), _, hL.pp (by omega), hL.po (by omega), t_copyPot (hL.po (by omega)) (hL.po (by omega)) (by rw [eK, p8]; exact p9) (fun K2 b1 b2 => s_X7_giveAllBack_41 ?_)⟩, fun q1 => ?_⟩⟩
      · rw [e11] at q; exact absurd q (nI_ge (by omega) (by omega))
      · rw [eK] at q1
        have hd := f1.mp q1
        have hwf := wcn_f hd
        rw [nI_1, nI_1, ← wcn_f hd]
        refine ih (i + 1) K2 (by omega) (fun y hy => ?_) (fun q hq hdq k hk => ?_) (fun q h1 h2 k => ?_) (fun a k h1 h2 => ?_) w ?_
        · rw [b2 _ _ (by unfold hA pA; omega), b2 _ _ (by unfold hA pA; omega)]
          simp only [oit, hd]
          exact a1 y hy
        · by_cases e : q = i
          · subst e; rw [b1 k hk]; exact eK k
          · have := wcn_lt hdq (show q < i by omega)
            rw [b2 _ _ (by unfold pA; omega)]; exact a2 q (by omega) hdq k hk
        · rw [b2 _ _ (by unfold pA; omega)]; exact a3 q (by omega) h2 k
        · rw [b2 _ _ (by unfold pA; omega)]; exact a4 a k h1 h2
        · rw [hw]; simp only [oit, hd]; rfl
      · rw [eK] at q1
        have hd : sd i = true := by
          cases hb : sd i with
          | true => rfl
          | false => exact absurd (f1.mpr hb) q1
        have eF : ∀ a k, a < v + 19 → K a k = I a k := fun a k ha => a4 _ _ (by omega) (fun h hh => by unfold hA; omega)
        have hC2 : RVc K (v + 3) A nl := hC.cong (eF _ _ (by omega)) (fun j _ => eF _ _ (by omega)) (fun j _ => eF _ _ (by omega)) (fun j _ => eF _ _ (by omega)) (fun j _ => eF _ _ (by omega)) (fun j _ => eF _ _ (by omega)) rfl (fun _ _ _ => rfl)
        refine t_giveBack (f := (oit nh sd ow ck wr pt rv s i).1) (f3 := (oit nh sd ow ck wr pt rv s i).2.1) (sv := sbj I (pA v i)) (wr := wr i) (rv := rv i) hL ((eF _ _ (by omega)).trans hnh) h8 (by omega) (by rw [eK]; exact p0) p1 (by rw [eK]; exact p2) p3 (by rw [eF _ _ (by omega)]; exact p4) (by rw [eK]; exact p5) p6 (by rw [eK, eF _ _ (by omega)]; exact p7) hC2 (fun y hy => sbj_cong eK) a1 (fun K2 b1 b2 => ?_)
        have r01 : rv i = 0 ∨ rv i = 1 := by rw [← p7]; exact wi_01 _ _ _
        have ek8 : K (pA v i) 6 = ck i := (eK 6).trans p8
        have b3 := gsW_r (ck := K (pA v i) 6) (rv := rv i) w r01
        have nx : ∀ w', w' = gsW (K (pA v i) 6) (rv i) w → B g MX7_giveAllBack 0 0 6 [(0, .ref v), (1, .int (nI w')), (2, .int (nI (wcn sd i))), (3, .int (nI i + 1))] [] S P K2 Q := by
          intro w' hw'
          have hwt := wcn_t hd
          rw [nI_1, ← wcn_t hd]
          refine ih (i + 1) K2 (by omega) (fun y hy => ?_) (fun q hq hdq k hk => ?_) (fun q h1 h2 k => ?_) (fun a k h1 h2 => ?_) w' ?_
          · have := b1 y hy
            rw [this.1, this.2, p10, ek8]
            simp only [oit, hd]
            exact ⟨rfl, rfl⟩
          · have hq2 : q < i := by
              rcases Nat.lt_or_ge q i with t | t
              · exact t
              · rw [show q = i by omega, hd] at hdq; cases hdq
            have hle := wcn_le sd q
            rw [b2 _ _ (fun h hh => by unfold pA hA; omega)]; exact a2 q hq2 hdq k hk
          · rw [b2 _ _ (fun h hh => by unfold pA hA; omega)]; exact a3 q (by omega) h2 k
          · rw [b2 _ _ h2]; exact a4 a k h1 h2
          · rw [hw', hw, ek8]; simp only [oit, hd]; rfl
        refine s_X7_giveAllBack_53 ⟨fun q3 => ?_, fun q3 => ?_⟩
        · exact nx w (b3.1 q3).symm
        · rw [nI_1 w]; exact nx (w + 1) (b3.2 q3).symm
  exact loop np 0 I (by omega) hs (fun q hq => absurd hq (Nat.not_lt_zero q)) (fun _ _ _ _ => rfl) (fun _ _ _ _ => rfl) 0 hw0.symm
def frOm (m nh : Nat) (I J : IT) : Prop := (∀ k, (∀ h, h < nh → k ≠ 60 + 30 * h + 0 ∧ k ≠ 60 + 30 * h + 3) → J (m + 1) k = I (m + 1) k) ∧ ∀ a k, a ≠ m + 1 → J a k = I a k
theorem n40 (q : Nat) : 40 + 2 * nI q = nI (40 + 2 * q) := by
  have e : 2 * nI q = nI (2 * q) := by rw [Nat.mul_comm]; exact (Int32.mul_comm _ _).trans (pk_mul q 2)
  rw [e, show (40 : Int32) = nI 40 from rfl, nI_add]
theorem t9_isRipe {gz : Nat} (hL : LM S P m) (hp : p < 24) (e2 : I (m + 1) (300 + 8 * p + 2) = nI gz) (hgz : gz < 4) (h : Q (some (.int (rpv (I (m + 1) (300 + 8 * p + 6)) (I (m + 1) (50 + gz))))) S P I) : T g MX9_isRipe 0 0 [.ref m, .int (nI p)] S P I Q :=
  T_of rfl (Nat.le_of_ble_eq_true rfl) (s_X9_isRipe_0 ⟨hL.t, _, hL.p, hL.a, 300 + 8 * p + 2, hL.ix (n300 p 2) (by omega), 50 + gz, hL.ix (by rw [e2]; exact nI_add 50 gz) (by omega), 300 + 8 * p + 6, hL.ix (n300 p 6) (by omega), h⟩)
theorem t9_gives {f f3 sv : Nat → Int32} {wr rv : Int32} {sz gz cc : Nat} (hL : LM S P m) (hnh : I (m + 1) 0 = nI nh) (h8 : nh ≤ 8) (hp : p < 24) (e0 : I (m + 1) (300 + 8 * p + 0) = nI o) (ho : o < nh) (e1 : I (m + 1) (300 + 8 * p + 1) = nI sz) (hsz : sz < 5) (ewr : I (m + 1) (40 + 2 * sz) = wr) (e2 : I (m + 1) (300 + 8 * p + 2) = nI gz) (hgz : gz < 4) (erv : rpv (I (m + 1) (300 + 8 * p + 6)) (I (m + 1) (50 + gz)) = rv) (hC : RVc I cc (I (m + 1)) nl) (hsv : ∀ s, s < 7 → ask9 (fun i => I (m + 1) (300 + 8 * p + i)) s = sv s) (hs : ∀ h, h < nh → I (m + 1) (60 + 30 * h + 0) = f h ∧ I (m + 1) (60 + 30 * h + 3) = f3 h)
    (h : ∀ J : IT, (∀ h, h < nh → J (m + 1) (60 + 30 * h + 0) = gsS nh o (I (m + 1) (300 + 8 * p + 5)) wr (pfl (I (m + 1)) sv nl 0) rv f h ∧ J (m + 1) (60 + 30 * h + 3) = gsC o (I (m + 1) (300 + 8 * p + 5)) f3 h) → frOm m nh I J → Q (some (.int (if I (m + 1) (300 + 8 * p + 5) = 0 then rv else 0))) S P J) : T g MX9_gives 0 0 [.ref m, .int (nI p)] S P I Q := by
  have r01 : rv = 0 ∨ rv = 1 := by rw [← erv]; exact wi_01 _ _ _
  refine T_of rfl (Nat.le_of_ble_eq_true rfl) (s_X9_gives_0 ⟨hL.t, _, hL.p, hL.a, 300 + 8 * p + 0, hL.ix (n300 p 0) (by omega), 300 + 8 * p + 1, hL.ix (n300 p 1) (by omega), 40 + 2 * sz, hL.ix (by rw [e1]; exact n40 sz) (by omega), 300 + 8 * p + 5, hL.ix (n300 p 5) (by omega), fun q => ?_, fun q => ?_⟩)
  · rw [e0, ewr]
    refine t9_customOf hL hp hC hsv (s_X9_gives_66 ⟨hL.t, _, hL.p, hL.a, 0, hL.ix rfl (by decide), ?_, ?_⟩)
    · rw [hnh]; exact fun z => absurd (nI_inj (b := 0) (by omega) (by decide) z) (by omega)
    · rw [hnh]
      rw [if_neg q] at h
      have eE : wr * pfl (I (m + 1)) sv nl 0 / 100 / nI nh = gsE nh wr (pfl (I (m + 1)) sv nl 0) := rfl
      rw [eE]
      generalize hE : gsE nh wr (pfl (I (m + 1)) sv nl 0) = e at h
      have loop : ∀ k i K, i + k = nh → (∀ h, h < i → K (m + 1) (60 + 30 * h + 0) = f h - e) → (∀ h, i ≤ h → h < nh → K (m + 1) (60 + 30 * h + 0) = f h) → (∀ k, (∀ h, h < nh → k ≠ 60 + 30 * h + 0) → K (m + 1) k = I (m + 1) k) → (∀ a k, a ≠ m + 1 → K a k = I a k) → B g MX9_gives 0 0 82 [(0, .ref m), (1, .int (nI p)), (2, .int (nI o)), (3, .int wr), (4, .int e), (5, .int (nI i))] [] S P K Q := by
        intro k
        induction k with
        | zero =>
          intro i K he a1 a2 a3 a4
          have ei : i = nh := by omega
          subst ei
          have ek : K (m + 1) 0 = nI i := (a3 0 (fun h hh => by omega)).trans hnh
          refine s_X9_gives_82 ⟨hL.t, _, hL.p, hL.a, 0, hL.ix rfl (by decide), fun _ => ⟨60 + 30 * o + 0, hL.ix (n60 o 0) (by omega), 60 + 30 * o + 3, hL.ix (n60 o 3) (by omega), ?_⟩, fun q => ?_⟩
          · rw [ek, u2_k (show 60 + 30 * o + 3 ≠ 60 + 30 * o + 0 by omega), a1 o ho, a3 (60 + 30 * o + 3) (fun h hh => by omega), (hs o ho).2]
            refine h _ (fun y hy => ⟨?_, ?_⟩) ⟨fun k hk => ?_, fun a k ha => ?_⟩
            · rw [u2_k (by omega)]
              unfold gsS
              rw [if_neg q, hE]
              by_cases t : y = o
              · subst t; rw [u2_s, if_pos rfl]
              · rw [u2_k (by omega), a1 y hy, if_neg t]
            · unfold gsC
              rw [if_neg q]
              by_cases t : y = o
              · subst t; rw [u2_s, if_pos rfl]
              · rw [u2_k (by omega), u2_k (by omega), if_neg t, a3 _ (fun h hh => by omega)]; exact (hs y hy).2
            · rw [u2_k (hk o ho).2, u2_k (hk o ho).1]; exact a3 k (fun h hh => (hk h hh).1)
            · rw [u2_a ha, u2_a ha]; exact a4 a k ha
          · rw [ek] at q; exact absurd (nI_le (Nat.le_refl _) (by omega)) q
        | succ k ih =>
          intro i K he a1 a2 a3 a4
          have ek : K (m + 1) 0 = nI nh := (a3 0 (fun h hh => by omega)).trans hnh
          refine s_X9_gives_82 ⟨hL.t, _, hL.p, hL.a, 0, hL.ix rfl (by decide), fun q => ?_, fun q => ⟨60 + 30 * i + 0, hL.ix (n60 i 0) (by omega), ?_⟩⟩
          · rw [ek] at q; exact absurd q (nI_ge (by omega) (by omega))
          · have en : f i + -e = f i - e := by grind
            rw [nI_1, a2 i (Nat.le_refl _) (by omega), en]
            refine ih (i + 1) _ (by omega) (fun y hy => ?_) (fun y h1 h2 => ?_) (fun k hk => ?_) (fun a k ha => ?_)
            · by_cases t : y = i
              · subst t; rw [u2_s]
              · rw [u2_k (by omega)]; exact a1 y (by omega)
            · rw [u2_k (by omega)]; exact a2 y (by omega) h2
            · rw [u2_k (hk i (by omega))]; exact a3 k hk
            · rw [u2_a ha]; exact a4 a k ha
      exact loop nh 0 I (by omega) (fun y hy => absurd hy (Nat.not_lt_zero y)) (fun y _ hy => (hs y hy).1) (fun _ _ => rfl) (fun _ _ _ => rfl)
  · rw [e0, ewr]
    rw [if_pos q] at h
    refine t9_isRipe hL hp e2 hgz ?_
    rw [erv]
    have fin : ∀ w, w = (if rv = 0 then wr / 2 else wr) → T g MX9_isRipe 0 0 [.ref m, .int (nI p)] S P (u2 I (m + 1) (60 + 30 * o + 0) (I (m + 1) (60 + 30 * o + 0) + w)) (fun r S' P' I' => B g MX9_gives 0 0 59 [(0, .ref m), (1, .int (nI p)), (2, .int (nI o)), (3, .int wr)] (r.toList ++ []) S' P' I' Q) := by
      intro w hw
      refine t9_isRipe hL hp (by rw [u2_k (by omega)]; exact e2) hgz ?_
      rw [u2_k (by omega), u2_k (by omega), erv]
      refine s_X9_gives_59 ⟨r01, h _ (fun y hy => ⟨?_, ?_⟩) ⟨fun k hk => ?_, fun a k ha => ?_⟩⟩
      · unfold gsS
        rw [if_pos q]
        by_cases t : y = o
        · subst t; rw [u2_s, if_pos rfl, (hs y hy).1, hw]
        · rw [u2_k (by omega), if_neg t]; exact (hs y hy).1
      · unfold gsC
        rw [if_pos q, u2_k (by omega)]; exact (hs y hy).2
      · rw [u2_k (hk o ho).1]
      · rw [u2_a ha]
    refine s_X9_gives_41 ⟨fun q2 => ⟨hL.t, _, hL.p, hL.a, 60 + 30 * o + 0, hL.ix (n60 o 0) (by omega), hL.t, fin _ (by rw [if_pos q2])⟩, fun q2 => ⟨hL.t, _, hL.p, hL.a, 60 + 30 * o + 0, hL.ix (n60 o 0) (by omega), hL.t, fin _ (by rw [if_neg q2])⟩⟩
end OPEN2
