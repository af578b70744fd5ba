/-- the token reader's object k over the tape t -/
def LZ (S : ST) (P : PT) (k t : Nat) : Prop := ((sT S k = 7 ∧ P k 0 = t + 1 ∧ P k 1 = k + 1 + 1 ∧ P k 2 = k + 2 + 1 ∧ P k 3 = k + 3 + 1) ∧ (sT S (k + 1) = 40 ∧ sL S (k + 1) = 301 ∧ sT S (k + 2) = 40 ∧ sL S (k + 2) = 301 ∧ sT S (k + 3) = 40 ∧ sL S (k + 3) = 301)) ∧ LT S P t ∧ t + 2 ≤ k
section SCAN
variable {g : GT} {S : ST} {P : PT} {I : IT} {Q : QT} {k t n p q e : Nat}
theorem t_wi {i : Nat} (hi : i < 12) (hZ : LZ S P k t) (h4 : I k 4 = nI q) (h5 : I k 5 = nI e) (hqe : q ≤ e) (he : e ≤ 300) (hl : ∀ j, q ≤ j → j < e → ltB (I (t + 1) j) = true) (hy : vl (I (t + 1)) q (e - q) = cW i → Q (some (.int 1)) S P I) (hn : ¬ vl (I (t + 1)) q (e - q) = cW i → Q (some (.int 0)) S P I) : T g MX6_wordIs 0 0 [.ref k, .ref (gK g i)] S P I Q :=
  t_wordIs hi hZ.1.1.1 hZ.1.1.2.1 hZ.2.1 h4 h5 hqe he (fun a b => hy ((word_iff hi hl).mp ⟨a, b⟩)) (fun a => hn (fun z => a ((word_iff hi hl).mpr z)))
theorem t_subj (hZ : LZ S P k t) (h4 : I k 4 = nI q) (h5 : I k 5 = nI e) (hqe : q ≤ e) (he : e ≤ 300) (hl : ∀ j, q ≤ j → j < e → ltB (I (t + 1) j) = true) (h : Q (some (.int (mS (vl (I (t + 1)) q (e - q))))) S P I) : T g MX6_subjectOfWord 0 0 [.ref k] S P I Q := by
  have w : ∀ (i : Nat) {R : QT}, i < 12 → (vl (I (t + 1)) q (e - q) = cW i → R (some (.int 1)) S P I) → (¬ vl (I (t + 1)) q (e - q) = cW i → R (some (.int 0)) S P I) → T g MX6_wordIs 0 0 [.ref k, .ref (gK g i)] S P I R := fun i R hi hy hn => t_wi hi hZ h4 h5 hqe he hl hy hn
  have hk := hZ.1.1.1
  unfold mS at h
  refine T_of rfl (Nat.le_of_ble_eq_true rfl) (s_X6_subjectOfWord_0 ⟨hk, w 5 (by decide) (fun y => s_X6_subjectOfWord_6 ⟨fun e => absurd e (by decide), fun _ => ?_⟩) (fun n5 => s_X6_subjectOfWord_6 ⟨fun _ => ⟨hk, ?_⟩, fun e => absurd rfl e⟩)⟩)
  · rw [if_pos y] at h; exact h
  rw [if_neg n5] at h
  refine w 6 (by decide) (fun y => s_X6_subjectOfWord_17 ⟨fun e => absurd e (by decide), fun _ => ?_⟩) (fun n6 => s_X6_subjectOfWord_17 ⟨fun _ => ⟨hk, ?_⟩, fun e => absurd rfl e⟩)
  · rw [if_pos y] at h; exact h
  rw [if_neg n6] at h
  refine w 7 (by decide) (fun y => s_X6_subjectOfWord_28 ⟨fun e => absurd e (by decide), fun _ => ?_⟩) (fun n7 => s_X6_subjectOfWord_28 ⟨fun _ => ⟨hk, ?_⟩, fun e => absurd rfl e⟩)
  · rw [if_pos y] at h; exact h
  rw [if_neg n7] at h
  refine w 8 (by decide) (fun y => s_X6_subjectOfWord_39 ⟨fun e => absurd e (by decide), fun _ => ?_⟩) (fun n8 => s_X6_subjectOfWord_39 ⟨fun _ => ⟨hk, ?_⟩, fun e => absurd rfl e⟩)
  · rw [if_pos y] at h; exact h
  rw [if_neg n8] at h
  refine w 9 (by decide) (fun y => s_X6_subjectOfWord_50 ⟨fun e => absurd e (by decide), fun _ => ?_⟩) (fun n9 => s_X6_subjectOfWord_50 ⟨fun _ => ⟨hk, ?_⟩, fun e => absurd rfl e⟩)
  · rw [if_pos y] at h; exact h
  rw [if_neg n9] at h
  refine w 10 (by decide) (fun y => s_X6_subjectOfWord_61 ⟨fun e => absurd e (by decide), fun _ => ?_⟩) (fun n10 => s_X6_subjectOfWord_61 ⟨fun _ => ⟨hk, ?_⟩, fun e => absurd rfl e⟩)
  · rw [if_pos y] at h; exact h
  rw [if_neg n10] at h
  refine w 11 (by decide) (fun y => s_X6_subjectOfWord_72 ⟨fun e => absurd e (by decide), fun _ => ?_⟩) (fun n11 => s_X6_subjectOfWord_72 ⟨fun _ => ?_, fun e => absurd rfl e⟩)
  · rw [if_pos y] at h; exact h
  · rw [if_neg n11] at h; exact h
theorem t_scanWord_b (hZ : LZ S P k t) (h4 : I k 4 = nI q) (h5 : I k 5 = nI e) (hqe : q ≤ e) (he : e ≤ 300) (hl : ∀ j, q ≤ j → j < e → ltB (I (t + 1) j) = true) (h6 : I k 6 = 0) (h : ∀ J : IT, J k 6 = mW (vl (I (t + 1)) q (e - q)) → (∀ a j, (a ≠ k ∨ j ≠ 6) → J a j = I a j) → Q (some (.int (kW (vl (I (t + 1)) q (e - q))))) S P J) : T g MX6_wordIs 0 0 [.ref k, .ref (gK g 0)] S P I (fun r S' P' I' => B g MX6_scanWord 0 0 51 [(0, .ref k)] (r.toList ++ []) S' P' I' Q) := by
  have w : ∀ (i : Nat) {R : QT}, i < 12 → (vl (I (t + 1)) q (e - q) = cW i → R (some (.int 1)) S P I) → (¬ vl (I (t + 1)) q (e - q) = cW i → R (some (.int 0)) S P I) → T g MX6_wordIs 0 0 [.ref k, .ref (gK g i)] S P I R := fun i R hi hy hn => t_wi hi hZ h4 h5 hqe he hl hy hn
  have hk := hZ.1.1.1
  have h0 := fun (z : mW (vl (I (t + 1)) q (e - q)) = 0) => h I (h6.trans z.symm) (fun _ _ _ => rfl)
  refine w 0 (by decide) (fun y => s_X6_scanWord_51 ⟨fun e => absurd e (by decide), fun _ => ?_⟩) (fun n0 => s_X6_scanWord_51 ⟨fun _ => ⟨hk, ?_⟩, fun e => absurd rfl e⟩)
  · have := h0 (by rw [mW, if_pos y]); rw [kW, if_pos y] at this; exact this
  refine w 1 (by decide) (fun y => s_X6_scanWord_63 ⟨fun e => absurd e (by decide), fun _ => ?_⟩) (fun n1 => s_X6_scanWord_63 ⟨fun _ => ⟨hk, ?_⟩, fun e => absurd rfl e⟩)
  · have := h0 (by rw [mW, if_neg n0, if_pos y]); rw [kW, if_neg n0, if_pos y] at this; exact this
  refine w 2 (by decide) (fun y => s_X6_scanWord_75 ⟨fun e => absurd e (by decide), fun _ => ?_⟩) (fun n2 => s_X6_scanWord_75 ⟨fun _ => ⟨hk, ?_⟩, fun e => absurd rfl e⟩)
  · have := h0 (by rw [mW, if_neg n0, if_neg n1, if_pos y]); rw [kW, if_neg n0, if_neg n1, if_pos y] at this; exact this
  refine w 3 (by decide) (fun y => s_X6_scanWord_87 ⟨fun e => absurd e (by decide), fun _ => ?_⟩) (fun n3 => s_X6_scanWord_87 ⟨fun _ => ⟨hk, ?_⟩, fun e => absurd rfl e⟩)
  · have := h0 (by rw [mW, if_neg n0, if_neg n1, if_neg n2, if_pos y]); rw [kW, if_neg n0, if_neg n1, if_neg n2, if_pos y] at this; exact this
  refine w 4 (by decide) (fun y => s_X6_scanWord_99 ⟨fun e => absurd e (by decide), fun _ => ?_⟩) (fun n4 => s_X6_scanWord_99 ⟨fun _ => ⟨hk, ?_⟩, fun e => absurd rfl e⟩)
  · have := h0 (by rw [mW, if_neg n0, if_neg n1, if_neg n2, if_neg n3, if_pos y]); rw [kW, if_neg n0, if_neg n1, if_neg n2, if_neg n3, if_pos y] at this; exact this
  have hh := h (u2 I k 6 (mS (vl (I (t + 1)) q (e - q)))) (by rw [u2_s, mW, if_neg n0, if_neg n1, if_neg n2, if_neg n3, if_neg n4]) (fun a j z => z.elim (fun y => u2_a y) (fun y => u2_k y))
  rw [kW, if_neg n0, if_neg n1, if_neg n2, if_neg n3, if_neg n4] at hh
  refine t_subj hZ h4 h5 hqe he hl (s_X6_scanWord_110 ⟨hk, hk, fun z => ?_, fun z => ?_⟩)
  · rw [u2_s] at z; rw [if_neg z] at hh; exact hh
  · rw [u2_s] at z; rw [if_pos z] at hh; exact hh
theorem t_scanWord (hZ : LZ S P k t) (h1 : I t 1 = nI n) (hn : n ≤ 300) (h4 : I k 4 = nI q) (h5 : I k 5 = nI q) (hq : q ≤ n) (h6 : I k 6 = 0) (h : ∀ J : IT, J k 5 = nI (rnE ltB (I (t + 1)) n q) → J k 6 = mW (vl (I (t + 1)) q (rnE ltB (I (t + 1)) n q - q)) → (∀ a j, (a ≠ k ∨ (j ≠ 5 ∧ j ≠ 6)) → J a j = I a j) → Q (some (.int (kW (vl (I (t + 1)) q (rnE ltB (I (t + 1)) n q - q))))) S P J) : T g MX6_scanWord 0 0 [.ref k] S P I Q := by
  have hk := hZ.1.1.1
  have hT := hZ.2.1
  have hkt := hZ.2.2
  refine T_of rfl (Nat.le_of_ble_eq_true rfl) ?_
  have fin : ∀ p J, q ≤ p → p ≤ n → rnE ltB (I (t + 1)) n q = p → J k 5 = nI p → (∀ a j, (a ≠ k ∨ j ≠ 5) → J a j = I a j) → T g MX6_wordIs 0 0 [.ref k, .ref (gK g 0)] S P J (fun r S' P' I' => B g MX6_scanWord 0 0 51 [(0, .ref k)] (r.toList ++ []) S' P' I' Q) := by
    intro p J a1 a2 a3 a4 a5
    have ef : J (t + 1) = I (t + 1) := funext (fun j => a5 _ j (Or.inl (by omega)))
    refine t_scanWord_b hZ (q := q) (e := p) ((a5 k 4 (Or.inr (by decide))).trans h4) a4 a1 (by omega) (fun j b1 b2 => by rw [ef]; exact rnE_in b1 (by rw [a3]; exact b2)) ((a5 k 6 (Or.inr (by decide))).trans h6) (fun L c1 c2 => ?_)
    rw [ef] at c1 ⊢
    rw [a3] at h
    exact h L ((c2 k 5 (Or.inr (by decide))).trans a4) c1 (fun a j z => (c2 a j (by omega)).trans (a5 a j (by omega)))
  have loop : ∀ r p J, p + r = n → q ≤ p → rnE ltB (I (t + 1)) n q = rnE ltB (I (t + 1)) n p → J k 5 = nI p → (∀ a j, (a ≠ k ∨ j ≠ 5) → J a j = I a j) → B g MX6_scanWord 0 0 0 [(0, .ref k)] [] S P J Q := by
    intro r
    induction r with
    | zero =>
      intro p J a0 a1 a3 a4 a5
      have e1 : J t 1 = nI n := (a5 t 1 (Or.inl (by omega))).trans h1
      refine s_X6_scanWord_0 ⟨hk, t, hZ.1.1.2.1, hT.1.1, fun _ => fin p J a1 (by omega) (by rw [a3]; exact rnE_stop (Or.inl (by omega))) a4 a5, fun z => ?_⟩
      rw [e1, a4] at z; exact absurd (nI_le (by omega) (by omega)) z
    | succ r ih =>
      intro p J a0 a1 a3 a4 a5
      have e1 : J t 1 = nI n := (a5 t 1 (Or.inl (by omega))).trans h1
      have ef : J (t + 1) = I (t + 1) := funext (fun j => a5 _ j (Or.inl (by omega)))
      refine s_X6_scanWord_0 ⟨hk, t, hZ.1.1.2.1, hT.1.1, fun z => ?_, fun _ => ⟨t + 1, hT.2.1, hT.1.2, p, ixe a4 hT.2.2 (by omega) (by decide), fun z => ?_, fun z => ?_⟩⟩
      · rw [e1, a4] at z; exact absurd z (nI_ge (by omega) (by omega))
      · rw [ef] at z
        exact fin p J a1 (by omega) (by rw [a3]; exact rnE_stop (Or.inr (lt0.mp z))) a4 a5
      · rw [ef] at z
        rw [a4, nI_1]
        refine ih (p + 1) _ (by omega) (by omega) (by rw [a3]; exact rnE_step (by omega) (lt1.mp z)) (u2_s _ _ _ _) (fun a j y => ?_)
        rw [show u2 J k 5 (nI (p + 1)) a j = J a j from y.elim (fun s => u2_a s) (fun s => u2_k s)]
        exact a5 a j y
  exact loop (n - q) q I (by omega) (Nat.le_refl q) rfl h5 (fun _ _ _ => rfl)
theorem t_scanNumber (hZ : LZ S P k t) (h1 : I t 1 = nI n) (hn : n ≤ 300) (h4 : I k 4 = nI q) (h5 : I k 5 = nI q) (hq : q ≤ n) (h6 : I k 6 = 0) (h : ∀ J : IT, J k 5 = nI (rnE dgB (I (t + 1)) n q) → J k 6 = nb (I (t + 1)) q (rnE dgB (I (t + 1)) n q - q) → (∀ a j, (a ≠ k ∨ (j ≠ 5 ∧ j ≠ 6)) → J a j = I a j) → Q (some (.int (if rnE dgB (I (t + 1)) n q - q ≤ 3 then 2 else 1))) S P J) : T g MX6_scanNumber 0 0 [.ref k] S P I Q := by
  have hk := hZ.1.1.1
  have hT := hZ.2.1
  have hkt := hZ.2.2
  refine T_of rfl (Nat.le_of_ble_eq_true rfl) ?_
  have fin : ∀ p J, q ≤ p → p ≤ n → rnE dgB (I (t + 1)) n q = p → J k 5 = nI p → J k 6 = nb (I (t + 1)) q (p - q) → (∀ a j, (a ≠ k ∨ (j ≠ 5 ∧ j ≠ 6)) → J a j = I a j) → B g MX6_scanNumber 0 0 72 [(0, .ref k)] [] S P J Q := by
    intro p J a1 a2 a3 a4 a6 a5
    have e4 : J k 4 = nI q := (a5 k 4 (Or.inr (by decide))).trans h4
    have hh := h J (by rw [a3]; exact a4) (by rw [a3]; exact a6) a5
    rw [a3] at hh
    refine s_X6_scanNumber_72 ⟨hk, fun z => ?_, fun z => ?_⟩
    · rw [a4, e4, pk_sub a1] at z
      rw [if_pos ((nI_cle (b := 3) (by omega) (by decide)).mp z)] at hh; exact hh
    · rw [a4, e4, pk_sub a1] at z
      rw [if_neg (fun y => z ((nI_cle (b := 3) (by omega) (by decide)).mpr y))] at hh; exact hh
  have loop : ∀ r p J, p + r = n → q ≤ p → rnE dgB (I (t + 1)) n q = rnE dgB (I (t + 1)) n p → J k 5 = nI p → J k 6 = nb (I (t + 1)) q (p - q) → (∀ a j, (a ≠ k ∨ (j ≠ 5 ∧ j ≠ 6)) → J a j = I a j) → B g MX6_scanNumber 0 0 0 [(0, .ref k)] [] S P J Q := by
    intro r
    induction r with
    | zero =>
      intro p J a0 a1 a3 a4 a6 a5
      have e1 : J t 1 = nI n := (a5 t 1 (Or.inl (by omega))).trans h1
      refine s_X6_scanNumber_0 ⟨hk, t, hZ.1.1.2.1, hT.1.1, fun _ => fin p J a1 (by omega) (by rw [a3]; exact rnE_stop (Or.inl (by omega))) a4 a6 a5, fun z => ?_⟩
      rw [e1, a4] at z; exact absurd (nI_le (by omega) (by omega)) z
    | succ r ih =>
      intro p J a0 a1 a3 a4 a6 a5
      have e1 : J t 1 = nI n := (a5 t 1 (Or.inl (by omega))).trans h1
      have ef : J (t + 1) = I (t + 1) := funext (fun j => a5 _ j (Or.inl (by omega)))
      refine s_X6_scanNumber_0 ⟨hk, t, hZ.1.1.2.1, hT.1.1, fun z => ?_, fun _ => ⟨t + 1, hT.2.1, hT.1.2, p, ixe a4 hT.2.2 (by omega) (by decide), fun z => ?_, fun z => ?_⟩⟩
      · rw [e1, a4] at z; exact absurd z (nI_ge (by omega) (by omega))
      · rw [ef] at z
        exact fin p J a1 (by omega) (by rw [a3]; exact rnE_stop (Or.inr (dg0.mp z))) a4 a6 a5
      · rw [ef] at z
        rw [a4, nI_1, a6, ef]
        refine ih (p + 1) _ (by omega) (by omega) (by rw [a3]; exact rnE_step (by omega) (dg1.mp z)) (u2_s _ _ _ _) ?_ (fun a j y => ?_)
        · rw [u2_k (by decide), u2_s, show p + 1 - q = (p - q) + 1 by omega, nb, show q + (p - q) = p by omega]
        · rw [show ∀ (I0 : IT) (s : Int32), u2 I0 k 5 s a j = I0 a j from fun I0 s => y.elim (fun r => u2_a r) (fun r => u2_k r.1), show ∀ (I0 : IT) (s : Int32), u2 I0 k 6 s a j = I0 a j from fun I0 s => y.elim (fun r => u2_a r) (fun r => u2_k r.2)]
          exact a5 a j y
  exact loop (n - q) q I (by omega) (Nat.le_refl q) rfl h5 (by rw [Nat.sub_self]; exact h6) (fun _ _ _ => rfl)
theorem t_scanSign (hZ : LZ S P k t) (h5 : I k 5 = nI q) (hq : q < 300) (h6 : I k 6 = 0) (h : ∀ J : IT, J k 5 = nI (q + 1) → J k 6 = mG (I (t + 1) q) → (∀ a j, (a ≠ k ∨ (j ≠ 5 ∧ j ≠ 6)) → J a j = I a j) → Q (some (.int (kS (I (t + 1) q)))) S P J) : T g MX6_scanSign 0 0 [.ref k] S P I Q := by
  have hk := hZ.1.1.1
  have hT := hZ.2.1
  have ha := fun (z : mG (I (t + 1) q) = 0) => h (u2 I k 5 (nI (q + 1))) (u2_s _ _ _ _) (by rw [u2_k (by decide), h6, z]) (fun a j y => y.elim (fun r => u2_a r) (fun r => u2_k r.1))
  have hb := h (u2 (u2 I k 5 (nI (q + 1))) k 6 (mG (I (t + 1) q))) (by rw [u2_k (by decide), u2_s]) (u2_s _ _ _ _) (fun a j y => by
    rw [show ∀ (I0 : IT) (s : Int32), u2 I0 k 6 s a j = I0 a j from fun I0 s => y.elim (fun r => u2_a r) (fun r => u2_k r.2)]
    exact y.elim (fun r => u2_a r) (fun r => u2_k r.1))
  unfold kS mG at ha hb
  refine T_of rfl (Nat.le_of_ble_eq_true rfl) (s_X6_scanSign_0 ⟨hk, t, hZ.1.1.2.1, hT.1.1, t + 1, hT.2.1, hT.1.2, q, ixe h5 hT.2.2 (by omega) (by decide), ?_⟩)
  rw [h5, nI_1]
  refine ⟨fun y => ?_, fun y => ?_, fun y => ?_, fun y => ?_, fun y => ?_, fun y1 y2 y3 y4 y5 => ?_⟩
  · rw [y] at ha; exact ha rfl
  · rw [y] at ha; exact ha rfl
  · rw [y] at hb; exact hb
  · rw [y] at hb; exact hb
  · rw [y] at hb; exact hb
  · rw [if_neg y1, if_neg y2, if_neg y3, if_neg y4, if_neg y5, if_neg y1, if_neg y2, if_neg y3, if_neg y4, if_neg y5] at ha; exact ha rfl
theorem t_scanOne (hZ : LZ S P k t) (h1 : I t 1 = nI n) (hn : n ≤ 300) (h5 : I k 5 = nI p) (hp : p ≤ n) (h6 : I k 6 = 0) (h : ∀ J : IT, J k 4 = nI (tkL (I (t + 1)) n p) → J k 5 = nI (tkN (I (t + 1)) n p) → J k 6 = tqM (I (t + 1)) n (tkL (I (t + 1)) n p) → (∀ a j, (a ≠ k ∨ (j ≠ 4 ∧ j ≠ 5 ∧ j ≠ 6)) → J a j = I a j) → Q (some (.int (tqK (I (t + 1)) n (tkL (I (t + 1)) n p)))) S P J) : T g MX6_scanOne 0 0 [.ref k] S P I Q := by
  have hk := hZ.1.1.1
  have hT := hZ.2.1
  have hkt := hZ.2.2
  refine T_of rfl (Nat.le_of_ble_eq_true rfl) ?_
  have fin : ∀ q J, q ≤ n → rnE bkB (I (t + 1)) n p = q → J k 5 = nI q → (∀ a j, (a ≠ k ∨ j ≠ 5) → J a j = I a j) → B g MX6_scanOne 0 0 45 [(0, .ref k)] [] S P J Q := by
    intro q J a2 a3 a4 a5
    have e1 : J t 1 = nI n := (a5 t 1 (Or.inl (by omega))).trans h1
    have eL : tkL (I (t + 1)) n p = q := a3
    rw [tkN, eL] at h
    generalize hL : u2 J k 4 (nI q) = L
    have el : ∀ a j, (a ≠ k ∨ j ≠ 4) → L a j = J a j := fun a j y => by rw [← hL]; exact y.elim (fun r => u2_a r) (fun r => u2_k r)
    have l4 : L k 4 = nI q := by rw [← hL]; exact u2_s _ _ _ _
    have l5 : L k 5 = nI q := (el k 5 (Or.inr (by decide))).trans a4
    have l6 : L k 6 = 0 := (el k 6 (Or.inr (by decide))).trans ((a5 k 6 (Or.inr (by decide))).trans h6)
    have l1 : L t 1 = nI n := (el t 1 (Or.inl (by omega))).trans e1
    have lf : L (t + 1) = I (t + 1) := funext (fun j => (el _ j (Or.inl (by omega))).trans (a5 _ j (Or.inl (by omega))))
    have lI : ∀ a j, (a ≠ k ∨ (j ≠ 4 ∧ j ≠ 5)) → L a j = I a j := fun a j y => (el a j (by omega)).trans (a5 a j (by omega))
    refine s_X6_scanOne_45 ⟨hk, t, hZ.1.1.2.1, hT.1.1, fun z => ?_, fun z => ?_⟩
    · rw [a4, e1] at z
      have hqn : q < n := (nI_clt (by omega) (by omega)).mp z
      refine ⟨t + 1, hT.2.1, hT.1.2, q, ixe a4 hT.2.2 (by omega) (by decide), ?_⟩
      rw [a4, hL, lf]
      unfold tqN tqK tqM at h
      have nq : ¬ n ≤ q := by omega
      rw [if_neg nq, if_neg nq, if_neg nq] at h
      refine ⟨fun y => ?_, fun y => ?_⟩
      · have nl : ¬ ltB (I (t + 1) q) = true := by rw [lt0.mp y]; decide
        rw [if_neg nl, if_neg nl, if_neg nl] at h
        refine ⟨fun u => ?_, fun u => ?_⟩
        · have nd : ¬ dgB (I (t + 1) q) = true := by rw [dg0.mp u]; decide
          rw [if_neg nd, if_neg nd, if_neg nd] at h
          refine t_scanSign hZ l5 (by omega) l6 (fun J2 b1 b2 b3 => s_X6_scanOne_121 ?_)
          rw [lf] at b2 ⊢
          exact h J2 ((b3 k 4 (Or.inr (by decide))).trans l4) b1 b2 (fun a j y => (b3 a j (by omega)).trans (lI a j (by omega)))
        · have nd := dg1.mp u
          rw [if_pos nd, if_pos nd, if_pos nd] at h
          refine t_scanNumber hZ l1 hn l4 l5 a2 l6 (fun J2 b1 b2 b3 => s_X6_scanOne_114 (s_X6_scanOne_121 ?_))
          rw [lf] at b1 b2 ⊢
          exact h J2 ((b3 k 4 (Or.inr (by decide))).trans l4) b1 b2 (fun a j y => (b3 a j (by omega)).trans (lI a j (by omega)))
      · have nl := lt1.mp y
        rw [if_pos nl, if_pos nl, if_pos nl] at h
        refine t_scanWord hZ l1 hn l4 l5 a2 l6 (fun J2 b1 b2 b3 => s_X6_scanOne_91 ?_)
        rw [lf] at b1 b2 ⊢
        exact h J2 ((b3 k 4 (Or.inr (by decide))).trans l4) b1 b2 (fun a j y => (b3 a j (by omega)).trans (lI a j (by omega)))
    · rw [a4, e1] at z
      have hqn : n ≤ q := by
        rcases Nat.lt_or_ge q n with y | y
        · exact absurd (nI_lt y (by omega)) z
        · exact y
      rw [a4, hL]
      unfold tqN tqK tqM at h
      rw [if_pos hqn, if_pos hqn, if_pos hqn] at h
      exact h L l4 l5 l6 (fun a j y => lI a j (by omega))
  have loop : ∀ r q J, q + r = n → rnE bkB (I (t + 1)) n p = rnE bkB (I (t + 1)) n q → J k 5 = nI q → (∀ a j, (a ≠ k ∨ j ≠ 5) → J a j = I a j) → B g MX6_scanOne 0 0 0 [(0, .ref k)] [] S P J Q := by
    intro r
    induction r with
    | zero =>
      intro q J a0 a3 a4 a5
      have e1 : J t 1 = nI n := (a5 t 1 (Or.inl (by omega))).trans h1
      refine s_X6_scanOne_0 ⟨hk, t, hZ.1.1.2.1, hT.1.1, fun _ => fin q J (by omega) (by rw [a3]; exact rnE_stop (Or.inl (by omega))) a4 a5, fun z => ?_⟩
      rw [e1, a4] at z; exact absurd (nI_le (by omega) (by omega)) z
    | succ r ih =>
      intro q J a0 a3 a4 a5
      have e1 : J t 1 = nI n := (a5 t 1 (Or.inl (by omega))).trans h1
      have ef : J (t + 1) = I (t + 1) := funext (fun j => a5 _ j (Or.inl (by omega)))
      refine s_X6_scanOne_0 ⟨hk, t, hZ.1.1.2.1, hT.1.1, fun z => ?_, fun _ => ⟨t + 1, hT.2.1, hT.1.2, q, ixe a4 hT.2.2 (by omega) (by decide), fun z => ?_, fun z => ?_⟩⟩
      · rw [e1, a4] at z; exact absurd z (nI_ge (by omega) (by omega))
      · rw [ef] at z
        exact fin q J (by omega) (by rw [a3]; exact rnE_stop (Or.inr (bk0.mp z))) a4 a5
      · rw [ef] at z
        rw [a4, nI_1]
        refine ih (q + 1) _ (by omega) (by rw [a3]; exact rnE_step (by omega) (bk1.mp z)) (u2_s _ _ _ _) (fun a j y => ?_)
        rw [show u2 J k 5 (nI (q + 1)) a j = J a j from y.elim (fun s => u2_a s) (fun s => u2_k s)]
        exact a5 a j y
  exact loop (n - p) p I (by omega) rfl h5 (fun _ _ _ => rfl)
theorem t_scan (hZ : LZ S P k t) (h1 : I t 1 = nI n) (hn : n ≤ 300) (h : ∀ (J : IT) (E : Nat), E ≤ 300 → (∀ i, i ≤ E → J (k + 1) i = KK (I (t + 1)) n i ∧ J (k + 2) i = MM (I (t + 1)) n i ∧ J (k + 3) i = LL (I (t + 1)) n i) → (KK (I (t + 1)) n E = 0 ∨ KK (I (t + 1)) n E = 1) → (∀ a j, (a < k ∨ k + 4 ≤ a) → J a j = I a j) → Q none S P J) : T g MX6_scan 0 0 [.ref k] S P I Q := by
  have hk := hZ.1.1.1
  have hT := hZ.2.1
  have hkt := hZ.2.2
  obtain ⟨-, -, p1, p2, p3⟩ := hZ.1.1
  obtain ⟨t1, l1, t2, l2, t3, l3⟩ := hZ.1.2
  refine T_of rfl (Nat.le_of_ble_eq_true rfl) (s_X6_scan_0 ⟨hk, ?_⟩)
  have loop : ∀ r i J (x1 : Int32), i + r = 301 → i ≤ ps (I (t + 1)) n i → ¬ x1 = 0 → ¬ x1 = 1 → (∀ y, y < i → J (k + 1) y = KK (I (t + 1)) n y ∧ J (k + 2) y = MM (I (t + 1)) n y ∧ J (k + 3) y = LL (I (t + 1)) n y) → J k 5 = nI (ps (I (t + 1)) n i) → (∀ a j, (a < k ∨ k + 4 ≤ a) → J a j = I a j) → B g MX6_scan 0 0 9 [(0, .ref k), (1, .int x1), (2, .int (nI i))] [] S P J Q := by
    intro r
    induction r with
    | zero =>
      intro i J x1 a0 a1 a2 a3 a4 a5 a6
      have := ps_le (f := I (t + 1)) (n := n) i
      omega
    | succ r ih =>
      intro i J x1 a0 a1 a2 a3 a4 a5 a6
      have hpn := ps_le (f := I (t + 1)) (n := n) i
      have ef : ∀ s : Int32, u2 J k 6 s (t + 1) = I (t + 1) := fun s => funext (fun j => (u2_a (by omega)).trans (a6 _ j (by omega)))
      refine s_X6_scan_9 ⟨fun z => absurd z (nI_nlt (a := 300) (b := i) (by omega) (by decide)), fun _ => ⟨fun z => absurd z a2, fun _ => ⟨fun z => absurd z a3, fun _ => ⟨hk, ?_⟩⟩⟩⟩
      refine t_scanOne hZ (n := n) (p := ps (I (t + 1)) n i) ((u2_a (by omega)).trans ((a6 t 1 (by omega)).trans h1)) hn ((u2_k (by decide)).trans a5) hpn (u2_s _ _ _ _) (fun L b4 b5 b6 b7 => ?_)
      rw [ef] at b4 b5 b6 ⊢
      have hix : ∀ z, sL S (k + z) = 301 → ix (nI i) i (sL S (k + z)) := fun z hz => ixl hz (by omega) (by decide)
      have lJ : ∀ a j, (a ≠ k) → L a j = J a j := fun a j y => (b7 a j (Or.inl y)).trans (u2_a y)
      refine s_X6_scan_34 ⟨hk, _, p1, t1, i, hix 1 l1, _, p2, t2, i, hix 2 l2, _, p3, t3, i, hix 3 l3, ?_⟩
      rw [u2_a (show k ≠ k + 1 by omega), b6, u2_a (show k ≠ k + 2 by omega), u2_a (show k ≠ k + 1 by omega), b4]
      generalize hW : u2 (u2 (u2 L (k + 1) i (tqK (I (t + 1)) n (tkL (I (t + 1)) n (ps (I (t + 1)) n i)))) (k + 2) i (tqM (I (t + 1)) n (tkL (I (t + 1)) n (ps (I (t + 1)) n i)))) (k + 3) i (nI (tkL (I (t + 1)) n (ps (I (t + 1)) n i))) = W
      have wn : ∀ y, y < i + 1 → W (k + 1) y = KK (I (t + 1)) n y ∧ W (k + 2) y = MM (I (t + 1)) n y ∧ W (k + 3) y = LL (I (t + 1)) n y := by
        intro y hy
        rw [← hW]
        by_cases e : y = i
        · subst e
          refine ⟨?_, ?_, ?_⟩
          · rw [u2_a (by omega), u2_a (by omega), u2_s]; rfl
          · rw [u2_a (by omega), u2_s]; rfl
          · rw [u2_s]; rfl
        · refine ⟨?_, ?_, ?_⟩
          · rw [u2_k e, u2_k e, u2_k e, lJ _ _ (by omega)]; exact (a4 y (by omega)).1
          · rw [u2_k e, u2_k e, u2_k e, lJ _ _ (by omega)]; exact (a4 y (by omega)).2.1
          · rw [u2_k e, u2_k e, u2_k e, lJ _ _ (by omega)]; exact (a4 y (by omega)).2.2
      have wf : ∀ a j, (a < k ∨ k + 4 ≤ a) → W a j = I a j := fun a j y => by
        rw [← hW, u2_a (by omega), u2_a (by omega), u2_a (by omega), lJ _ _ (by omega)]; exact a6 a j y
      have w5 : W k 5 = nI (ps (I (t + 1)) n (i + 1)) := by
        rw [← hW, u2_a (by omega), u2_a (by omega), u2_a (by omega)]; exact b5
      rw [nI_1]
      by_cases e0 : KK (I (t + 1)) n i = 0
      · have hQ := h W i (by omega) (fun y hy => wn y (by omega)) (Or.inl e0) wf
        refine s_X6_scan_9 ⟨fun _ => hQ, fun _ => ⟨fun _ => hQ, fun z => absurd e0 z⟩⟩
      · by_cases e1 : KK (I (t + 1)) n i = 1
        · have hQ := h W i (by omega) (fun y hy => wn y (by omega)) (Or.inr e1) wf
          refine s_X6_scan_9 ⟨fun _ => hQ, fun _ => ⟨fun _ => hQ, fun _ => ⟨fun _ => hQ, fun z => absurd e1 z⟩⟩⟩
        · have hg := ps_gt e0
          exact ih (i + 1) W _ (by omega) (by omega) e0 e1 wn w5 wf
  exact loop 301 0 _ 2 rfl (Nat.zero_le _) (by decide) (by decide) (fun y hy => absurd hy (Nat.not_lt_zero y)) (u2_s _ _ _ _) (fun a j y => u2_a (by omega))
end SCAN
