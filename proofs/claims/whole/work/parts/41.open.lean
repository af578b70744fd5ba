/-! what an opening does to the houses, as numbers: silver, cracked back, whole -/
abbrev OS := (Nat → Int32) × (Nat → Int32) × Nat
def gsE (nh : Nat) (wr pt : Int32) : Int32 := ((wr * pt) / 100) / nI nh
def gsS (nh o : Nat) (ck wr pt rv : Int32) (f : Nat → Int32) (h : Nat) : Int32 := if ck = 0 then (if h = o then f h + (if rv = 0 then wr / 2 else wr) else f h) else (if h = o then f h - gsE nh wr pt + gsE nh wr pt * nI nh else f h - gsE nh wr pt)
def gsC (o : Nat) (ck : Int32) (f : Nat → Int32) (h : Nat) : Int32 := if ck = 0 then f h else if h = o then f h + 1 else f h
def gsW (ck rv : Int32) (w : Nat) : Nat := if ck = 0 ∧ ¬ rv = 0 then w + 1 else w
def gst (nh : Nat) (ow : Nat → Nat) (ck wr pt rv : Nat → Int32) (p : Nat) (s : OS) : OS := (gsS nh (ow p) (ck p) (wr p) (pt p) (rv p) s.1, gsC (ow p) (ck p) s.2.1, gsW (ck p) (rv p) s.2.2)
def oit (nh : Nat) (sd : Nat → Bool) (ow : Nat → Nat) (ck wr pt rv : Nat → Int32) (s : OS) : Nat → OS
  | 0 => s
  | i + 1 => if sd i = true then gst nh ow ck wr pt rv i (oit nh sd ow ck wr pt rv s i) else oit nh sd ow ck wr pt rv s i
def frO (v nh : Nat) (I J : IT) : Prop := ∀ a k, (∀ h, h < nh → a ≠ hA v h ∨ (k ≠ 0 ∧ k ≠ 3)) → J a k = I a k
def wcn (sd : Nat → Bool) (i : Nat) : Nat := fb_ct (fun p => !sd p) i
theorem wcn_t {sd : Nat → Bool} {i : Nat} (h : sd i = true) : wcn sd (i + 1) = wcn sd i := by unfold wcn; rw [fb_ct_succ, h]; rfl
theorem wcn_f {sd : Nat → Bool} {i : Nat} (h : sd i = false) : wcn sd (i + 1) = wcn sd i + 1 := by unfold wcn; rw [fb_ct_succ, h]; rfl
theorem wcn_le (sd : Nat → Bool) (i : Nat) : wcn sd i ≤ i := fb_ct_le _ i
theorem wcn_lt {sd : Nat → Bool} {q i : Nat} (h : sd q = false) (hq : q < i) : wcn sd q < wcn sd i := by
  have := fb_ct_mono (fun p => !sd p) (show q + 1 ≤ i by omega)
  have e := wcn_f h
  unfold wcn at e ⊢
  omega
theorem lht_cong {A A' sv : Nat → Int32} (h : ∀ k, 500 ≤ k → A' k = A k) (l : Nat) : ∀ k t, lht A' sv l k t = lht A sv l k t
  | 0, _ => rfl
  | k + 1, t => by rw [lht, lht, lht_cong h l k (t + 1), h _ (by omega), h _ (by omega), h _ (by omega), h _ (by omega)]
theorem pfl_cong {A A' sv : Nat → Int32} (h : ∀ k, 500 ≤ k → A' k = A k) : ∀ k l, pfl A' sv k l = pfl A sv k l
  | 0, _ => rfl
  | k + 1, l => by
    have e : lhA A' sv l = lhA A sv l := by unfold lhA; rw [h _ (by omega), lht_cong h]
    rw [pfl, pfl, pfl_cong h k (l + 1), e, h _ (by omega)]
theorem sbj_cong {I K : IT} {a s : Nat} (h : ∀ k, K a k = I a k) : sbj K a s = sbj I a s := by
  unfold sbj
  simp only [h]
section OPEN
variable {g : GT} {S : ST} {P : PT} {I I' J K : IT} {Q : QT} {x n m v p np nc nh nl c j ch o : Nat} {z wr rv : Int32} {A A' f3 : Nat → Int32} {sv : Nat → Int32}
theorem t_shareLoss {f : Nat → Int32} (hL : LV S P v) (hnh : I v 5 = nI nh) (h8 : nh ≤ 8) (ho : o < nh) (hf : ∀ h, h < nh → I (hA v h) 0 = f h)
    (h : ∀ J : IT, (∀ h, h < nh → J (hA v h) 0 = if h = o then f h - z / nI nh + z / nI nh * nI nh else f h - z / nI nh) → (∀ a k, (∀ h, h < nh → a ≠ hA v h ∨ k ≠ 0) → J a k = I a k) → Q none S P J) : T g MX7_shareLoss 0 0 [.ref v, .ref (hA v o), .int z] S P I Q := by
  have n0 : ¬ I v 5 = 0 := by rw [hnh]; exact fun z => absurd (nI_inj (b := 0) (by omega) (by decide) z) (by omega)
  refine T_of rfl (Nat.le_of_ble_eq_true rfl) (s_X7_shareLoss_0 ⟨hL.t, fun _ => ⟨n0, ?_⟩, fun q => absurd q n0⟩)
  rw [hnh]
  have loop : ∀ k i K, i + k = nh → (∀ h, h < i → K (hA v h) 0 = f h - z / nI nh) → (∀ h, i ≤ h → h < nh → K (hA v h) 0 = f h) → (∀ a k, (∀ h, h < nh → a ≠ hA v h ∨ k ≠ 0) → K a k = I a k) → B g MX7_shareLoss 0 0 18 [(0, .ref v), (1, .ref (hA v o)), (2, .int z), (3, .int (z / nI nh)), (4, .int (nI i))] [] S P K Q := by
    intro k
    induction k with
    | zero =>
      intro i K he a1 a2 a3
      have ei : i = nh := by omega
      subst ei
      have e5 : K v 5 = nI i := (a3 v 5 (fun h hh => Or.inr (by decide))).trans hnh
      refine s_X7_shareLoss_18 ⟨hL.t, fun _ => ⟨(hL.ho (by omega)).1.1, ?_⟩, fun q => ?_⟩
      · rw [e5]
        refine h _ (fun y hy => ?_) (fun a k hk => ?_)
        · by_cases e : y = o
          · subst e; rw [u2_s, a1 y hy, if_pos rfl]
          · rw [u2_a (by unfold hA; omega), a1 y hy, if_neg e]
        · rcases hk o ho with t | t
          · rw [u2_a t]; exact a3 a k hk
          · rw [u2_k t]; exact a3 a k hk
      · rw [e5] at q; exact absurd (nI_le (Nat.le_refl _) (by omega)) q
    | succ k ih =>
      intro i K he a1 a2 a3
      have e5 : K v 5 = nI nh := (a3 v 5 (fun h hh => Or.inr (by decide))).trans hnh
      refine s_X7_shareLoss_18 ⟨hL.t, fun q => ?_, fun q => ⟨_, hL.p4, hL.t9, i, ixl hL.l9 (by omega) (by decide), _, hL.ph (by omega), (hL.ho (by omega)).1.1, ?_⟩⟩
      · rw [e5] at q; exact absurd q (nI_ge (by omega) (by omega))
      · rw [nI_1, a2 i (Nat.le_refl _) (by omega)]
        refine ih (i + 1) _ (by omega) (fun y hy => ?_) (fun y h1 h2 => ?_) (fun a k hk => ?_)
        · by_cases e : y = i
          · subst e; rw [u2_s]
          · rw [u2_a (by unfold hA; omega)]; exact a1 y (by omega)
        · rw [u2_a (by unfold hA; omega)]; exact a2 y (by omega) h2
        · rcases hk i (by omega) with t | t
          · rw [u2_a t]; exact a3 a k hk
          · rw [u2_k t]; exact a3 a k hk
  exact loop nh 0 I (by omega) (fun y hy => absurd hy (Nat.not_lt_zero y)) (fun y _ hy => hf y hy) (fun _ _ _ => rfl)
def rpv (r a : Int32) : Int32 := wi r ((8 * (10 - a)) + 20) (((8 * (10 - a)) + 20) + 6 * a)
theorem t_giveBack {f : Nat → Int32} {sz gz : Nat} (hL : LV S P v) (hnh : I v 5 = nI nh) (h8 : nh ≤ 8) (hp : p < 24) (e0 : I (pA v p) 0 = nI o) (ho : o < nh) (e1 : I (pA v p) 1 = nI sz) (hsz : sz < 5) (ewr : I (v + 10) sz = wr) (e2 : I (pA v p) 2 = nI gz) (hgz : gz < 4) (erv : rpv (I (pA v p) 7) (I (v + 12) gz) = rv) (hC : RVc I (v + 3) A nl) (hsv : ∀ s, s < 7 → sbj I (pA v p) s = sv s) (hs : ∀ h, h < nh → I (hA v h) 0 = f h ∧ I (hA v h) 3 = f3 h)
    (h : ∀ J : IT, (∀ h, h < nh → J (hA v h) 0 = gsS nh o (I (pA v p) 6) wr (pfl A sv nl 0) rv f h ∧ J (hA v h) 3 = gsC o (I (pA v p) 6) f3 h) → frO v nh I J → Q (some (.int (if I (pA v p) 6 = 0 then rv else 0))) S P J) : T g MX7_giveBack 0 0 [.ref v, .ref (pA v p)] S P I Q := by
  refine T_of rfl (Nat.le_of_ble_eq_true rfl) (s_X7_giveBack_0 ⟨hL.t, _, hL.p4, hL.po hp, hL.t9, o, ixe e0 hL.l9 (by omega) (by decide), _, hL.ph (by omega), _, hL.p6, hL.t10, sz, ixe e1 hL.l10 hsz (by decide), fun q => ?_, fun q => ⟨(hL.ho (by omega)).1.1, _, hL.p1, hL.cu.1.1, ?_⟩⟩)
  · rw [ewr]
    refine T_of rfl (Nat.le_of_ble_eq_true rfl) (s_X7_isRipe_0 ⟨hL.t, _, hL.p8, hL.po hp, hL.t12, gz, ixe e2 hL.l12 hgz (by decide), ?_⟩)
    have erv2 : wi (I (pA v p) 7) ((8 * (10 - I (v + 12) gz)) + 20) (((8 * (10 - I (v + 12) gz)) + 20) + 6 * I (v + 12) gz) = rv := erv
    have r01 : rv = 0 ∨ rv = 1 := by rw [← erv]; exact wi_01 _ _ _
    rw [erv2]
    rw [if_pos q] at h
    refine s_X7_giveBack_62 ⟨(hL.ho (by omega)).1.1, fun q2 => ⟨r01, h _ (fun y hy => ?_) (fun a k hk => ?_)⟩, fun q2 => ⟨r01, h _ (fun y hy => ?_) (fun a k hk => ?_)⟩⟩
    · unfold gsS gsC
      rw [if_pos q, if_pos q, if_pos q2]
      by_cases e : y = o
      · subst e; rw [u2_s, u2_k (by decide), if_pos rfl, (hs y hy).1]; exact ⟨rfl, (hs y hy).2⟩
      · rw [if_neg e, u2_a (by unfold hA; omega), u2_a (by unfold hA; omega)]; exact hs y hy
    · rcases hk o ho with t | t
      · rw [u2_a t]
      · rw [u2_k t.1]
    · unfold gsS gsC
      rw [if_pos q, if_pos q, if_neg q2]
      by_cases e : y = o
      · subst e; rw [u2_s, u2_k (by decide), if_pos rfl, (hs y hy).1]; exact ⟨rfl, (hs y hy).2⟩
      · rw [if_neg e, u2_a (by unfold hA; omega), u2_a (by unfold hA; omega)]; exact hs y hy
    · rcases hk o ho with t | t
      · rw [u2_a t]
      · rw [u2_k t.1]
  · rw [ewr]
    have hoA : hA v o ≠ pA v p := by unfold hA pA; omega
    have eF : ∀ a k, (a ≠ hA v o ∨ k ≠ 3) → u2 I (hA v o) 3 (I (hA v o) 3 + 1) a k = I a k := fun a k hk => hk.elim (fun t => u2_a t) (fun t => u2_k t)
    have hC2 : RVc (u2 I (hA v o) 3 (I (hA v o) 3 + 1)) (v + 3) A nl := hC.cong (eF _ _ (by unfold hA; omega)) (fun j _ => eF _ _ (by unfold hA; omega)) (fun j _ => eF _ _ (by unfold hA; omega)) (fun j _ => eF _ _ (by unfold hA; omega)) (fun j _ => eF _ _ (by unfold hA; omega)) (fun j _ => eF _ _ (by unfold hA; omega)) rfl (fun _ _ _ => rfl)
    refine t_partFor hL.cu (hL.po hp) hC2 (fun s hs => (sbj_cong (fun k => eF _ _ (Or.inl hoA.symm))).trans (hsv s hs)) (s_X7_giveBack_48 ⟨hL.t, ?_⟩)
    rw [if_neg q] at h
    refine t_shareLoss (f := f) hL ((eF _ _ (Or.inr (by decide))).trans hnh) h8 ho (fun y hy => (eF _ _ (Or.inr (by decide))).trans (hs y hy).1) (fun J b1 b2 => s_X7_giveBack_55 (h J (fun y hy => ⟨?_, ?_⟩) (fun a k hk => ?_)))
    · rw [b1 y hy]; unfold gsS gsE; rw [if_neg q]
    · rw [b2 _ _ (fun h hh => Or.inr (by decide))]
      unfold gsC
      rw [if_neg q]
      by_cases e : y = o
      · subst e; rw [u2_s, if_pos rfl, (hs y hy).2]
      · rw [if_neg e, u2_a (by unfold hA; omega)]; exact (hs y hy).2
    · rw [b2 a k (fun h hh => (hk h hh).elim Or.inl (fun t => Or.inr t.1))]
      exact eF a k ((hk o ho).elim Or.inl (fun t => Or.inr t.2))
theorem t_copyPot {a b : Nat} (ha : sT S a = 4) (hb : sT S b = 4) (h6 : I b 6 = 0 ∨ I b 6 = 1) (h : ∀ J : IT, (∀ k, k < 8 → J a k = I b k) → (∀ c k, c ≠ a → J c k = I c k) → Q none S P J) : T g MX3_copyFrom 0 0 [.ref a, .ref b] S P I Q := by
  refine T_of rfl (Nat.le_of_ble_eq_true rfl) (s_X3_copyFrom_0 ⟨hb, ha, h6, h _ (fun k hk => ?_) (fun c k hc => ?_)⟩)
  · rcases (show k = 0 ∨ k = 1 ∨ k = 2 ∨ k = 3 ∨ k = 4 ∨ k = 5 ∨ k = 6 ∨ k = 7 by omega) with rfl | rfl | rfl | rfl | rfl | rfl | rfl | rfl <;> simp [u2]
  · simp [u2, hc]
end OPEN
