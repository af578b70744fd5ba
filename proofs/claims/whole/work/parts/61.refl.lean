/-! a line of the reference -/
def FQ (I J : IT) (m l : Nat) : Prop := (∀ j, j < 3 → J m j = I m j) ∧ (∀ j, j ≠ 8 → j ≠ 9 → J (m + 1) j = I (m + 1) j) ∧ (∀ j, j < 18 * l → J (m + 3) j = I (m + 3) j) ∧ ∀ a j, a ≠ m → a ≠ m + 1 → a ≠ m + 3 → a ≠ m + 4 → J a j = I a j
def CR (J : IT) (K M : Nat → Int32) (m l p t : Nat) : Prop := tO K p ∧ J (m + 3) (18 * l + 1 + 4 * t + 0) = (if K p = 9 then 1 else 0) ∧ (∃ s : Nat, s < 7 ∧ M (tA K p) = nI s ∧ J (m + 3) (18 * l + 1 + 4 * t + 1) = nI (s + 1)) ∧ ((M (tA K p + 1) = 1 ∧ J (m + 3) (18 * l + 1 + 4 * t + 2) = 60) ∨ (M (tA K p + 1) = 2 ∧ J (m + 3) (18 * l + 1 + 4 * t + 2) = 61) ∨ (M (tA K p + 1) = 4 ∧ J (m + 3) (18 * l + 1 + 4 * t + 2) = 62)) ∧ J (m + 3) (18 * l + 1 + 4 * t + 3) = M (tA K p + 2)
def RLn (J : IT) (K M : Nat → Int32) (m l : Nat) (v : Nat × Nat × Int32) : Prop := J (m + 3) (18 * l + 17) = v.2.2 ∧ J (m + 3) (18 * l) = nI v.2.1 ∧ ∀ y, y < v.2.1 → CR J K M m l (tp K (v.1 + 1) y) y
def EN (K : Nat → Int32) (E : Nat) : Prop := E ≤ 300 ∧ (K E = 0 ∨ K E = 1)
theorem EN.nk {K : Nat → Int32} {E a : Nat} {kd : Int32} (h : EN K E) (ha : a ≤ E) (hk : K a = kd) (h0 : ¬ kd = 0) (h1 : ¬ kd = 1) : a + 1 ≤ E := by
  rcases Nat.lt_or_ge a E with q | q
  · exact q
  · have e : a = E := by omega
    subst e
    have h2 := h.2
    rw [hk] at h2
    exact h2.elim (fun z => absurd z h0) (fun z => absurd z h1)
section REFL
variable {g : GT} {S : ST} {P : PT} {I J W : IT} {Q : QT} {m n a l tt E : Nat} {f : Nat → Int32} {F : Int32 × Int32} {x1 x2 : Int32} {K M : Nat → Int32}
theorem FT9.fq (h : FT9 I J m) : FQ I J m l := ⟨fun j hj => h.1 j (by omega), h.2.1, fun j _ => h.2.2 _ j (by omega) (by omega) (by omega), fun a j h1 h2 _ h4 => h.2.2 a j h1 h2 h4⟩
theorem FQ.tr (h : FQ I J m l) (h2 : FQ J W m l) : FQ I W m l := ⟨fun j hj => (h2.1 j hj).trans (h.1 j hj), fun j q1 q2 => (h2.2.1 j q1 q2).trans (h.2.1 j q1 q2), fun j hj => (h2.2.2.1 j hj).trans (h.2.2.1 j hj), fun a j q1 q2 q3 q4 => (h2.2.2.2 a j q1 q2 q3 q4).trans (h.2.2.2 a j q1 q2 q3 q4)⟩
theorem FQ.rf : FQ I I m l := ⟨fun _ _ => rfl, fun _ _ _ => rfl, fun _ _ => rfl, fun _ _ _ _ _ _ => rfl⟩
theorem CR.mv {p t : Nat} (h : CR I K M m l p t) (e : ∀ i, i < 4 → J (m + 3) (18 * l + 1 + 4 * t + i) = I (m + 3) (18 * l + 1 + 4 * t + i)) : CR J K M m l p t := by
  unfold CR at h ⊢
  rw [e 0 (by decide), e 1 (by decide), e 2 (by decide), e 3 (by decide)]
  exact h
theorem t9_159 (hL : LM S P m) (h10 : I m 10 = nI l) (hl : l ≤ 300) (h : ∀ J : IT, (∀ j, j ≠ 10 → J m j = I m j) → J m 10 = nI (l + 1) → (∀ a j, a ≠ m → a ≠ m + 3 → J a j = I a j) → (l < 12 → J (m + 3) (18 * l) = x1 ∧ J (m + 3) (18 * l + 17) = x2) → (∀ j, j ≠ 18 * l → j ≠ 18 * l + 17 → J (m + 3) j = I (m + 3) j) → Q none S P J) : B g MX9_aLine 0 0 159 [(0, .ref m), (1, .int x1), (2, .int x2)] [] S P I Q := by
  have h3 := hL.2.2.1
  have e18 : (18 : Int32) * nI l = nI (18 * l) := pk_mul 18 l
  refine s_X9_aLine_159 ⟨hL.t, fun q => ⟨fun _ => ?_, fun q2 => absurd q q2⟩, fun q => ?_⟩
  · rw [h10] at q
    have hl12 : ¬ l < 12 := fun z => absurd q (nI_ge (b := 12) z (by decide))
    rw [h10, nI_1]
    exact h _ (fun j hj => u2_k hj) (u2_s _ _ _ _) (fun a j h1 _ => u2_a h1) (fun z => absurd z hl12) (fun j _ _ => u2_a (by omega))
  · rw [h10] at q ⊢
    have hl12 : l < 12 := not_le_nI (a := 12) (b := l) (by decide) (by omega) q
    refine ⟨m + 3, h3.1, h3.2.1, 18 * l, ixe (by rw [e18]; exact nI_add (18 * l) 0) h3.2.2 (by omega) (by decide), fun q2 => ?_, fun q2 => ⟨18 * l + 17, ?_, ?_⟩⟩
    · rw [u2_a (show m ≠ m + 3 by omega), h10] at q2; exact absurd q2 q
    · rw [u2_a (show m ≠ m + 3 by omega), h10]
      exact ixe (by rw [e18]; exact nI_add (18 * l) 17) h3.2.2 (by omega) (by decide)
    · have em : ∀ j, u2 (u2 I (m + 3) (18 * l) x1) (m + 3) (18 * l + 17) x2 m j = I m j := fun j => by rw [u2_a (by omega), u2_a (by omega)]
      rw [em, h10, nI_1]
      refine h _ (fun j hj => (u2_k hj).trans (em j)) (u2_s _ _ _ _) (fun a j h1 h2 => by rw [u2_a h1, u2_a h2, u2_a h2]) (fun _ => ⟨by rw [u2_a (by omega), u2_k (by omega), u2_s], by rw [u2_a (by omega), u2_s]⟩) (fun j h1 h2 => by rw [u2_a (by omega), u2_k h2, u2_k h1])
theorem t9_tail_w {p : Int32} (hL : LM S P m) (hR : RW I m p) (h10 : I m 10 = nI l) (hl : l ≤ 300) (h : ∀ J : IT, RW J m p → FQ I J m l → Q none S P J) : B g MX9_aLine 0 0 107 [(0, .ref m), (1, .int x1)] [] S P I Q := by
  have fin : ∀ x2 : Int32, B g MX9_aLine 0 0 159 [(0, .ref m), (1, .int x1), (2, .int x2)] [] S P I Q := fun x2 => t9_159 hL h10 hl (fun J a1 a2 a3 a4 a5 => h J (hR.mv (a1 9 (by decide)) (a3 _ _ (by omega) (by omega)) (a3 _ _ (by omega) (by omega))) ⟨fun j hj => a1 j (by omega), fun j _ _ => a3 _ j (by omega) (by omega), fun j hj => a5 j (by omega) (by omega), fun a j h1 _ h3 _ => a3 a j h1 h3⟩)
  exact s_X9_aLine_107 ⟨hL.t, t9_takes_w hL hR (s_X9_aLine_115 ⟨fun q => absurd rfl q, fun _ => ⟨hL.t, t9_takes_w hL hR (s_X9_aLine_124 ⟨fun q => absurd rfl q, fun _ => ⟨hL.t, fun q => n10 (hR.1.symm.trans q), fun _ => t9_numbered_w hL hR (fun z => s_X9_aLine_140 ⟨fun _ => ⟨hL.t, t9_must_w hL hR (fin z)⟩, fun _ => ⟨hL.t, fun _ => t9_must_w hL hR (fin z), fun q => n10 (hR.1.symm.trans q)⟩⟩)⟩⟩)⟩⟩)⟩
theorem t9_duty {nt : Nat} (hL : LM S P m) (hE : EN (KK f n) E) (ha : a ≤ E) (hR : RP I m n f a F) (h10 : I m 10 = nI l) (hl : l ≤ 300)
    (h : ∀ J : IT, ((dq2 (KK f n) (dq1 (KK f n) (MM f n) (LL f n) a F)).1 = true → (dq2 (KK f n) (dq1 (KK f n) (MM f n) (LL f n) a F)).2.1 ≤ E ∧ RP J m n f (dq2 (KK f n) (dq1 (KK f n) (MM f n) (LL f n) a F)).2.1 (dq2 (KK f n) (dq1 (KK f n) (MM f n) (LL f n) a F)).2.2 ∧ J m 10 = nI (l + 1) ∧ (l < 12 → J (m + 3) (18 * l) = nI nt ∧ J (m + 3) (18 * l + 17) = dn (KK f n) (MM f n) a ∧ ∀ j, j ≠ 18 * l → j ≠ 18 * l + 17 → J (m + 3) j = I (m + 3) j)) → ((dq2 (KK f n) (dq1 (KK f n) (MM f n) (LL f n) a F)).1 = false → RW J m (LL f n (dq2 (KK f n) (dq1 (KK f n) (MM f n) (LL f n) a F)).2.1)) → FQ I J m l → Q none S P J) : B g MX9_aLine 0 0 107 [(0, .ref m), (1, .int (nI nt))] [] S P I Q := by
  generalize hD : dq2 (KK f n) (dq1 (KK f n) (MM f n) (LL f n) a F) = D at h
  unfold dq1 at hD
  -- the wrong end
  have wr : ∀ (J : IT) (x : Int32) (e : Nat) (G : Int32 × Int32), D = (false, e, G) → RW J m (LL f n e) → J m 10 = nI l → FQ I J m l → B g MX9_aLine 0 0 159 [(0, .ref m), (1, .int (nI nt)), (2, .int x)] [] S P J Q := by
    intro J x e G eD hJ j10 fJ
    subst eD
    exact t9_159 hL j10 hl (fun W a1 a2 a3 a4 a5 => h W (fun q => nft q) (fun _ => hJ.mv (a1 9 (by decide)) (a3 _ _ (by omega) (by omega)) (a3 _ _ (by omega) (by omega))) (fJ.tr ⟨fun j hj => a1 j (by omega), fun j _ _ => a3 _ j (by omega) (by omega), fun j hj => a5 j (by omega) (by omega), fun a j h1 _ h3 _ => a3 a j h1 h3⟩))
  -- the sign at the end
  have fin : ∀ (J : IT) (x : Int32) (e : Nat) (G : Int32 × Int32), dq2 (KK f n) (true, e, G) = D → e ≤ E → RP J m n f e G → J m 10 = nI l → FQ I J m l → (∀ j, J (m + 3) j = I (m + 3) j) → x = dn (KK f n) (MM f n) a → T g MX9_must 0 0 [.ref m, .int 59] S P J (fun r S' P' I' => B g MX9_aLine 0 0 159 [(0, .ref m), (1, .int (nI nt)), (2, .int x)] (r.toList ++ []) S' P' I' Q) := by
    intro J x e G eD he hJ j10 fJ cJ hx
    unfold dq2 at eD
    rw [if_pos rfl] at eD
    refine t9_must hL hJ (kd := 6) (Or.inr ⟨rfl, rfl⟩) (fun k6 W e1 e2 => ?_) (fun k6 W e1 e2 => ?_)
    · rw [if_pos k6] at eD
      subst eD
      have w10 : W m 10 = nI l := (e2.1 10 (by decide)).trans j10
      refine t9_159 hL w10 hl (fun V a1 a2 a3 a4 a5 => h V (fun _ => ⟨hE.nk he k6 (by decide) (by decide), e1.mv (fun j hj => a1 j (by omega)) (fun j _ => a3 _ j (by omega) (by omega)), a2, fun h1 => ⟨(a4 h1).1, (a4 h1).2.trans hx, fun j q1 q2 => (a5 j q1 q2).trans ((e2.2.2 _ j (by omega) (by omega)).trans (cJ j))⟩⟩) (fun q => nft q.symm) ((fJ.tr e2.t.fq).tr ⟨fun j hj => a1 j (by omega), fun j _ _ => a3 _ j (by omega) (by omega), fun j hj => a5 j (by omega) (by omega), fun a j h1 _ h3 _ => a3 a j h1 h3⟩))
    · rw [if_neg k6] at eD
      exact wr W x e G eD.symm e1 ((e2.1 10 (by decide)).trans j10) (fJ.tr e2.t.fq)
  refine s_X9_aLine_107 ⟨hL.t, t9_takes hL hR (kd := 10) (Or.inr (Or.inr (Or.inr (Or.inl ⟨rfl, rfl⟩)))) (fun k10 W e1 e2 => s_X9_aLine_115 ⟨fun _ => ⟨hL.t, ?_⟩, fun q => n10 q⟩) (fun k10 => s_X9_aLine_115 ⟨fun q => absurd rfl q, fun _ => ⟨hL.t, t9_takes hL hR (kd := 11) (Or.inr (Or.inr (Or.inr (Or.inr ⟨rfl, rfl⟩)))) (fun k11 W e1 e2 => s_X9_aLine_124 ⟨fun _ => ⟨hL.t, ?_⟩, fun q => n10 q⟩) (fun k11 => s_X9_aLine_124 ⟨fun q => absurd rfl q, fun _ => ⟨hL.t, fun _ => ?_, fun q => absurd hR.2.2.2.2.1 q⟩⟩)⟩⟩)⟩
  · have n11 : ¬ KK f n a = 11 := by rw [k10]; decide
    rw [if_neg n11, if_pos k10] at hD
    exact fin W 0 (a + 1) F hD (hE.nk ha k10 (by decide) (by decide)) e1 ((e2.1 10 (by decide)).trans h10) e2.t.fq (fun j => e2.2.2 _ j (by omega) (by omega)) (by unfold dn; rw [if_neg n11])
  · rw [if_pos k11] at hD
    have ha1 := hE.nk ha k11 (by decide) (by decide)
    have w10 : W m 10 = nI l := (e2.1 10 (by decide)).trans h10
    refine t9_numbered hL e1 (fun k2 V e3 e4 => ?_) (fun k2 V z e3 e4 => ?_)
    · rw [if_pos k2] at hD
      have fV := e2.tr e4
      have v10 : V m 10 = nI l := (e4.1 10 (by decide)).trans w10
      have hx : MM f n (a + 1) = dn (KK f n) (MM f n) a := by unfold dn; rw [if_pos k11]
      have ha2 := hE.nk ha1 k2 (by decide) (by decide)
      have cV : ∀ j, V (m + 3) j = I (m + 3) j := fun j => fV.2.2 _ j (by omega) (by omega)
      unfold f2 at hD
      refine s_X9_aLine_140 ⟨fun q => ⟨hL.t, ?_⟩, fun q => ⟨hL.t, fun q2 => absurd e3.2.2.2.2.1 q2, fun _ => ⟨m + 1, hL.p, hL.a, 8, hL.ix rfl (by decide), fun q3 => ⟨9, hL.ix rfl (by decide), ?_⟩, fun q3 => ?_⟩⟩⟩
      · rw [if_pos q] at hD
        exact fin V _ (a + 1 + 1) F hD ha2 e3 v10 fV.t.fq cV hx
      · rw [if_neg q] at hD
        rw [e3.2.2.2.2.2.1] at q3
        unfold nt1 at hD
        rw [if_pos q3] at hD
        have hN := e3.note 2 (LL f n (a + 1))
        rw [e1.2.2.1]
        exact fin _ _ (a + 1 + 1) _ hD ha2 hN.1 ((hN.2.1 10 (by decide)).trans v10) (fV.tr hN.2).t.fq (fun j => (hN.2.2.2 _ j (by omega) (by omega)).trans (cV j)) hx
      · rw [if_neg q] at hD
        rw [e3.2.2.2.2.2.1] at q3
        unfold nt1 at hD
        rw [if_neg q3] at hD
        exact fin V _ (a + 1 + 1) F hD ha2 e3 v10 fV.t.fq cV hx
    · rw [if_neg k2] at hD
      have hD2 : D = (false, a + 1, F) := hD.symm
      have v10 : V m 10 = nI l := (e4.1 10 (by decide)).trans w10
      have go := t9_must_w (g := g) (w := 59) (Q := fun r S' P' I' => B g MX9_aLine 0 0 159 [(0, .ref m), (1, .int (nI nt)), (2, .int z)] (r.toList ++ []) S' P' I' Q) hL e3 (wr V z (a + 1) F hD2 e3 v10 (e2.tr e4).t.fq)
      exact s_X9_aLine_140 ⟨fun _ => ⟨hL.t, go⟩, fun _ => ⟨hL.t, fun _ => go, fun q => n10 (e3.1.symm.trans q)⟩⟩
  · rw [if_neg k11, if_neg k10] at hD
    have hD2 : D = (false, a, F) := hD.symm
    have hs := stop_ok I m
    rw [hR.2.2.1] at hs
    refine ⟨m + 1, hL.p, hL.a, 8, hL.ix rfl (by decide), 9, hL.ix rfl (by decide), t9_numbered_w hL hs.1 (fun z => ?_)⟩
    have go := t9_must_w (g := g) (w := 59) (Q := fun r S' P' I' => B g MX9_aLine 0 0 159 [(0, .ref m), (1, .int (nI nt)), (2, .int z)] (r.toList ++ []) S' P' I' Q) hL hs.1 (wr (stp I m) z a F hD2 hs.1 ((hs.2.1 10 (by decide)).trans h10) hs.2.t.fq)
    exact s_X9_aLine_140 ⟨fun _ => ⟨hL.t, go⟩, fun _ => ⟨hL.t, fun _ => go, fun q => n10 (hs.1.1.symm.trans q)⟩⟩
theorem t9_puts (hL : LM S P m) (h10 : I m 10 = nI l) (hl : l ≤ 300) (ht : tt ≤ 300) (h : ∀ (V : IT) (x3 : Int32), (∀ a j, a ≠ m + 3 → V a j = I a j) → (l < 12 → tt < 4 → ∀ i, i < 4 → V (m + 3) (18 * l + 1 + 4 * tt + i) = I (m + 4) i) → (∀ j, (j < 18 * l + 1 + 4 * tt ∨ 18 * l + 5 + 4 * tt ≤ j) → V (m + 3) j = I (m + 3) j) → T g MX9_takes 0 0 [.ref m, .int 31] S P V (fun r S' P' I' => B g MX9_aLine 0 0 97 [(0, .ref m), (1, .int (nI (tt + 1))), (2, .int x2), (3, .int x3)] (r.toList ++ []) S' P' I' Q)) : B g MX9_aLine 0 0 55 [(0, .ref m), (1, .int (nI tt)), (2, .int x2), (3, .int 0)] [] S P I Q := by
  have h3 := hL.2.2.1
  have h4 := hL.2.2.2.1
  have loop : ∀ r i V, i + r = 4 → (∀ a j, a ≠ m + 3 → V a j = I a j) → (l < 12 → tt < 4 → ∀ y, y < i → V (m + 3) (18 * l + 1 + 4 * tt + y) = I (m + 4) y) → (∀ j, (j < 18 * l + 1 + 4 * tt ∨ 18 * l + 5 + 4 * tt ≤ j) → V (m + 3) j = I (m + 3) j) → B g MX9_aLine 0 0 55 [(0, .ref m), (1, .int (nI tt)), (2, .int x2), (3, .int (nI i))] [] S P V Q := by
    intro r
    induction r with
    | zero =>
      intro i V he a1 a2 a3
      have ei : i = 4 := by omega
      subst ei
      refine s_X9_aLine_55 ⟨fun _ => ⟨hL.t, ?_⟩, fun q => absurd (by decide) q⟩
      rw [nI_1]
      exact h V _ a1 a2 a3
    | succ r ih =>
      intro i V he a1 a2 a3
      refine s_X9_aLine_55 ⟨fun q => absurd q (nI_ge (b := 4) (by omega) (by decide)), fun _ => ⟨fun q => ⟨hL.t, ?_⟩, fun q => ?_⟩⟩
      · rw [nI_1]
        have h4' : ¬ tt < 4 := fun z => absurd q (nI_ge (b := 4) z (by decide))
        exact h V _ a1 (fun _ z => absurd z h4') a3
      · have ht4 : tt < 4 := not_le_nI (a := 4) (b := tt) (by decide) (by omega) q
        have v10 : V m 10 = nI l := (a1 _ _ (by omega)).trans h10
        refine ⟨hL.t, m + 4, h4.1, h4.2.1, i, ixl h4.2.2 (by omega) (by decide), fun q2 => ?_, fun q2 => ?_⟩
        · rw [v10] at q2
          have hl12 : ¬ l < 12 := fun z => absurd q2 (nI_ge (b := 12) z (by decide))
          rw [nI_1]
          exact ih (i + 1) V (by omega) a1 (fun z => absurd z hl12) a3
        · rw [v10] at q2 ⊢
          have hl12 : l < 12 := not_le_nI (a := 12) (b := l) (by decide) (by omega) q2
          have ei : (18 * nI l) + ((1 + (4 * nI tt)) + nI i) = nI (18 * l + 1 + 4 * tt + i) := by
            have e1 : (18 : Int32) * nI l = nI (18 * l) := pk_mul 18 l
            have e2 : (4 : Int32) * nI tt = nI (4 * tt) := pk_mul 4 tt
            have e3 : (1 : Int32) + nI (4 * tt) = nI (1 + 4 * tt) := nI_add 1 (4 * tt)
            rw [e1, e2, e3, nI_add, nI_add, show 18 * l + (1 + 4 * tt + i) = 18 * l + 1 + 4 * tt + i by omega]
          refine ⟨m + 3, h3.1, h3.2.1, 18 * l + 1 + 4 * tt + i, ixe ei h3.2.2 (by omega) (by decide), ?_⟩
          rw [nI_1]
          refine ih (i + 1) _ (by omega) (fun a j ha => (u2_a ha).trans (a1 a j ha)) (fun z1 z2 y hy => ?_) (fun j hj => (u2_k (by omega)).trans (a3 j hj))
          by_cases ey : y = i
          · subst ey; rw [u2_s]; exact a1 _ _ (by omega)
          · rw [u2_k (by omega)]; exact a2 z1 z2 y (by omega)
  exact loop 4 0 I (by omega) (fun _ _ _ => rfl) (fun _ _ y hy => absurd hy (Nat.not_lt_zero y)) (fun _ _ => rfl)
end REFL
