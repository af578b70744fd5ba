section REFC
variable {g : GT} {S : ST} {P : PT} {I J W : IT} {Q : QT} {m n a l tt E : Nat} {f : Nat → Int32} {F : Int32 × Int32} {x1 x2 : Int32} {K M : Nat → Int32}
theorem EN.ta (h : EN K E) (ha : a ≤ E) : tA K a ≤ E := by
  unfold tA
  split
  · rename_i q; exact h.nk ha q (by decide) (by decide)
  · exact ha
theorem EN.to (h : EN K E) (ha : a ≤ E) (ho : tO K a) : tA K a + 3 ≤ E :=
  h.nk (h.nk (h.nk (h.ta ha) ho.1 (by decide) (by decide)) ho.2.1 (by decide) (by decide)) ho.2.2 (by decide) (by decide)
theorem t9_aLine (hL : LM S P m) (hE : EN (KK f n) E) (ha : a ≤ E) (hR : RP I m n f a F) (h10 : I m 10 = nI l) (hl : l ≤ 300)
    (h : ∀ J : IT, ((ln (KK f n) (MM f n) (LL f n) l a F).1 = true → (ln (KK f n) (MM f n) (LL f n) l a F).2.1 ≤ E ∧ RP J m n f (ln (KK f n) (MM f n) (LL f n) l a F).2.1 (ln (KK f n) (MM f n) (LL f n) l a F).2.2 ∧ J m 10 = nI (l + 1) ∧ (l < 12 → (lc (KK f n) (LL f n) l a F).2.2.1 ≤ 4 → RLn J (KK f n) (MM f n) m l (la (KK f n) (MM f n) (LL f n) l a F))) → ((ln (KK f n) (MM f n) (LL f n) l a F).1 = false → RW J m (LL f n (ln (KK f n) (MM f n) (LL f n) l a F).2.1)) → FQ I J m l → Q none S P J) : T g MX9_aLine 0 0 [.ref m] S P I Q := by
  unfold ln la at h
  generalize hC : lc (KK f n) (LL f n) l a F = C at h
  have wrong : ∀ (J : IT) (x1 : Int32), C.1 = false → RW J m (LL f n C.2.1) → J m 10 = nI l → FQ I J m l → B g MX9_aLine 0 0 107 [(0, .ref m), (1, .int x1)] [] S P J Q := by
    intro J x1 c1 hJ j10 fJ
    have nc : ¬ C.1 = true := by rw [c1]; decide
    rw [if_neg nc] at h
    exact t9_tail_w hL hJ j10 hl (fun W w1 w2 => h W (fun q => nft q) (fun _ => w1) (fJ.tr w2))
  have duty : ∀ J : IT, C.1 = true → C.2.1 ≤ E → RP J m n f C.2.1 C.2.2.2 → J m 10 = nI l → FQ I J m l → (l < 12 → C.2.2.1 ≤ 4 → ∀ y, y < C.2.2.1 → CR J (KK f n) (MM f n) m l (tp (KK f n) (a + 1) y) y) → B g MX9_aLine 0 0 107 [(0, .ref m), (1, .int (nI C.2.2.1))] [] S P J Q := by
    intro J c1 c2 hJ j10 fJ cJ
    rw [if_pos c1] at h
    refine t9_duty hL hE c2 hJ j10 hl (fun W w1 w2 w3 => h W (fun q => ?_) w2 (fJ.tr w3))
    obtain ⟨e1, e2, e3, e4⟩ := w1 q
    refine ⟨e1, e2, e3, fun h1 h2 => ?_⟩
    obtain ⟨d1, d2, d3⟩ := e4 h1
    exact ⟨d2, d1, fun y hy => (cJ h1 h2 y hy).mv (fun i hi => d3 _ (by omega) (by have : y < 4 := Nat.lt_of_lt_of_le hy h2; omega))⟩
  have cond : ∀ k b tt G J, E < b + k → b ≤ E → tt + 1 ≤ b → b = tp (KK f n) (a + 1) tt → RP J m n f b G → J m 10 = nI l → FQ I J m l → (l < 12 → tt ≤ 4 → ∀ y, y < tt → CR J (KK f n) (MM f n) m l (tp (KK f n) (a + 1) y) y) → cn (KK f n) (LL f n) k b tt G = C → B g MX9_aLine 0 0 31 [(0, .ref m), (1, .int (nI tt)), (2, .int 1)] [] S P J Q := by
    intro k
    induction k with
    | zero => intro b tt G J e1 e2; omega
    | succ k ih =>
      intro b tt G J e1 e2 e3 e4 e5 e6 e7 e8 e9
      have hA := tA_ge (KK f n) b
      have hE3 := hE.1
      have tst : ∀ J : IT, RP J m n f b (f4 (LL f n) b tt G) → J m 10 = nI l → FQ I J m l → (l < 12 → tt ≤ 4 → ∀ y, y < tt → CR J (KK f n) (MM f n) m l (tp (KK f n) (a + 1) y) y) → T g MX9_aTest 0 0 [.ref m] S P J (fun r S' P' I' => B g MX9_aLine 0 0 53 [(0, .ref m), (1, .int (nI tt)), (2, .int 1)] (r.toList ++ []) S' P' I' Q) := by
        intro J hJ j10 fJ cJ
        refine t9_aTest hL hJ (fun ho W w1 w2 w4 => s_X9_aLine_53 ?_) (fun ho W w1 w2 => s_X9_aLine_53 ?_)
        · have w10 : W m 10 = nI l := (w2.1 10 (by decide)).trans j10
          refine t9_puts hL w10 hl (by omega) (fun V x3 v1 v2 v3 => ?_)
          have v10 : V m 10 = nI l := (v1 _ _ (by omega)).trans w10
          have hV : RP V m n f (tA (KK f n) b + 3) (f4 (LL f n) b tt G) := w1.mv (fun j _ => v1 _ j (by omega)) (fun j _ => v1 _ j (by omega))
          have fV : FQ I V m l := (fJ.tr w2.fq).tr ⟨fun j _ => v1 _ j (by omega), fun j _ _ => v1 _ j (by omega), fun j hj => v3 j (by omega), fun a j _ _ h3 _ => v1 a j h3⟩
          have cV : l < 12 → tt + 1 ≤ 4 → ∀ y, y < tt + 1 → CR V (KK f n) (MM f n) m l (tp (KK f n) (a + 1) y) y := by
            intro h1 h2 y hy
            by_cases ey : y = tt
            · subst ey
              rw [← e4]
              obtain ⟨g0, g1, g2, g3⟩ := w4
              have vv := v2 h1 (by omega)
              refine ⟨ho, (vv 0 (by decide)).trans g0, ?_, ?_, (vv 3 (by decide)).trans g3⟩
              · rw [vv 1 (by decide)]; exact g1
              · rw [vv 2 (by decide)]; exact g2
            · exact (cJ h1 (by omega) y (by omega)).mv (fun i hi => (v3 _ (by omega)).trans (w2.2.2 _ _ (by omega) (by omega) (by omega)))
          rw [cn, if_pos ho] at e9
          have hb3 := hE.to e2 ho
          refine t9_takes hL hV (kd := 8) (Or.inr (Or.inl ⟨rfl, rfl⟩)) (fun k8 Y y1 y2 => s_X9_aLine_97 ?_) (fun k8 => s_X9_aLine_97 ?_)
          · rw [if_pos k8] at e9
            exact ih (tA (KK f n) b + 3 + 1) (tt + 1) _ Y (by omega) (hE.nk hb3 k8 (by decide) (by decide)) (by omega) (by rw [tp, ← e4]) y1 ((y2.1 10 (by decide)).trans v10) (fV.tr y2.t.fq) (fun h1 h2 y hy => (cV h1 h2 y hy).mv (fun i _ => y2.2.2 _ _ (by omega) (by omega))) e9
          · rw [if_neg k8] at e9
            refine s_X9_aLine_31 ⟨fun _ => ⟨hL.t, t9_must hL hV (kd := 5) (Or.inl ⟨rfl, rfl⟩) (fun k5 Y y1 y2 => ?_) (fun k5 Y y1 y2 => ?_)⟩, fun q => absurd rfl q⟩
            · rw [if_pos k5] at e9
              subst e9
              exact duty Y rfl (hE.nk hb3 k5 (by decide) (by decide)) y1 ((y2.1 10 (by decide)).trans v10) (fV.tr y2.t.fq) (fun h1 h2 y hy => (cV h1 h2 y hy).mv (fun i _ => y2.2.2 _ _ (by omega) (by omega)))
            · rw [if_neg k5] at e9
              subst e9
              exact wrong Y _ rfl y1 ((y2.1 10 (by decide)).trans v10) (fV.tr y2.t.fq)
        · have w10 : W m 10 = nI l := (w2.1 10 (by decide)).trans j10
          refine t9_puts hL w10 hl (by omega) (fun V x3 v1 v2 v3 => ?_)
          have v10 : V m 10 = nI l := (v1 _ _ (by omega)).trans w10
          have hV : RW V m (LL f n (tF (KK f n) b)) := w1.mv (v1 _ _ (by omega)) (v1 _ _ (by omega)) (v1 _ _ (by omega))
          have fV : FQ I V m l := (fJ.tr w2.fq).tr ⟨fun j _ => v1 _ j (by omega), fun j _ _ => v1 _ j (by omega), fun j hj => v3 j (by omega), fun a j _ _ h3 _ => v1 a j h3⟩
          rw [cn, if_neg ho] at e9
          subst e9
          exact t9_takes_w hL hV (s_X9_aLine_97 (s_X9_aLine_31 ⟨fun _ => ⟨hL.t, t9_must_w hL hV (wrong V _ rfl hV v10 fV)⟩, fun q => absurd rfl q⟩))
      refine s_X9_aLine_31 ⟨fun q => n10 q, fun _ => ⟨fun q => ⟨hL.t, tst J ?_ e6 e7 e8⟩, fun q => ⟨hL.t, fun z => absurd e5.2.2.2.2.1 z, fun _ => ⟨m + 1, hL.p, hL.a, 8, hL.ix rfl (by decide), fun z => ⟨9, hL.ix rfl (by decide), ?_⟩, fun z => tst J ?_ e6 e7 e8⟩⟩⟩⟩
      · have h4 : ¬ 4 ≤ tt := fun y => by
          have := (nI_cle (a := tt) (b := 3) (by omega) (by decide)).mp q
          omega
        unfold f4; rw [if_neg h4]; exact e5
      · have h4 : 4 ≤ tt := by
          rcases Nat.lt_or_ge 3 tt with y | y
          · exact y
          · exact absurd ((nI_cle (a := tt) (b := 3) (by omega) (by decide)).mpr y) q
        rw [e5.2.2.2.2.2.1] at z
        rw [e5.2.2.1]
        have hN := e5.note 3 (LL f n b)
        refine tst _ ?_ ((hN.2.1 10 (by decide)).trans e6) (e7.tr hN.2.t.fq) (fun h1 h2 y hy => (e8 h1 h2 y hy).mv (fun i _ => hN.2.2.2 _ _ (by omega) (by omega)))
        unfold f4 nt1; rw [if_pos h4, if_pos z]; exact hN.1
      · have h4 : 4 ≤ tt := by
          rcases Nat.lt_or_ge 3 tt with y | y
          · exact y
          · exact absurd ((nI_cle (a := tt) (b := 3) (by omega) (by decide)).mpr y) q
        rw [e5.2.2.2.2.2.1] at z
        unfold f4 nt1; rw [if_pos h4, if_neg z]; exact e5
  have mid : ∀ J : IT, RP J m n f a (if 12 ≤ l then nt1 F 3 (LL f n a) else F) → J m 10 = nI l → FQ I J m l → T g MX9_takes 0 0 [.ref m, .int 30] S P J (fun r S' P' I' => B g MX9_aLine 0 0 26 [(0, .ref m), (1, .int 0)] (r.toList ++ []) S' P' I' Q) := by
    intro J hJ j10 fJ
    have hE3 := hE.1
    refine t9_takes hL hJ (kd := 7) (Or.inl ⟨rfl, rfl⟩) (fun k7 W e1 e2 => s_X9_aLine_26 ⟨fun q => n10 q, fun _ => ?_⟩) (fun k7 => s_X9_aLine_26 ⟨fun _ => ?_, fun q => absurd rfl q⟩)
    · exact cond 301 (a + 1) 0 _ W (by omega) (hE.nk ha k7 (by decide) (by decide)) (by omega) rfl e1 ((e2.1 10 (by decide)).trans j10) (fJ.tr e2.t.fq) (fun _ _ y hy => absurd hy (Nat.not_lt_zero y)) (by rw [← hC]; unfold lc; rw [if_pos k7])
    · have eC : C = (true, a, 0, (if 12 ≤ l then nt1 F 3 (LL f n a) else F)) := by rw [← hC]; unfold lc; rw [if_neg k7]
      have D := duty J
      rw [eC] at D
      exact D rfl ha hJ j10 fJ (fun _ _ y hy => absurd hy (Nat.not_lt_zero y))
  refine T_of rfl (Nat.le_of_ble_eq_true rfl) (s_X9_aLine_0 ⟨hL.t, fun q => mid I ?_ h10 FQ.rf, fun q => ⟨fun z => absurd hR.2.2.2.2.1 z, fun _ => ⟨m + 1, hL.p, hL.a, 8, hL.ix rfl (by decide), fun z => ⟨9, hL.ix rfl (by decide), ?_⟩, fun z => mid I ?_ h10 FQ.rf⟩⟩⟩)
  · rw [h10] at q
    have h12 : ¬ 12 ≤ l := fun y => nI_nlt (a := l) (b := 12) y (by omega) q
    rw [if_neg h12]; exact hR
  · rw [h10] at q
    have h12 : 12 ≤ l := by
      rcases Nat.lt_or_ge l 12 with y | y
      · exact absurd (nI_lt (b := 12) y (by decide)) q
      · exact y
    rw [hR.2.2.2.2.2.1] at z
    rw [hR.2.2.1]
    have hN := hR.note 3 (LL f n a)
    refine mid _ ?_ ((hN.2.1 10 (by decide)).trans h10) hN.2.t.fq
    unfold nt1; rw [if_pos h12, if_pos z]; exact hN.1
  · rw [h10] at q
    have h12 : 12 ≤ l := by
      rcases Nat.lt_or_ge l 12 with y | y
      · exact absurd (nI_lt (b := 12) y (by decide)) q
      · exact y
    rw [hR.2.2.2.2.2.1] at z
    unfold nt1; rw [if_pos h12, if_neg z]; exact hR
theorem t9_custom_c (hL : LM S P m) (h8 : I (m + 1) 8 = 0) (h10 : I m 10 = nI l) (h : ∀ J : IT, (∀ k, k < 216 → J (m + 1) (500 + k) = I (m + 3) k) → J (m + 1) 6 = nI l → (∀ j, j ≠ 6 → (j < 500 ∨ 716 ≤ j) → J (m + 1) j = I (m + 1) j) → (∀ a j, a ≠ m + 1 → J a j = I a j) → Q (some (.int (nI l))) S P J) : B g MX9_custom 0 0 89 [(0, .ref m), (1, .int 0)] [] S P I Q := by
  have h3 := hL.2.2.1
  have loop : ∀ r i V, i + r = 216 → (∀ k, k < i → V (m + 1) (500 + k) = I (m + 3) k) → (∀ j, (j < 500 ∨ 716 ≤ j) → V (m + 1) j = I (m + 1) j) → (∀ a j, a ≠ m + 1 → V a j = I a j) → B g MX9_custom 0 0 89 [(0, .ref m), (1, .int (nI i))] [] S P V Q := by
    intro r
    induction r with
    | zero =>
      intro i V he a1 a2 a3
      have ei : i = 216 := by omega
      subst ei
      refine s_X9_custom_89 ⟨fun _ => ⟨hL.t, m + 1, hL.p, hL.a, 6, hL.ix rfl (by decide), ?_⟩, fun q => absurd (by decide) q⟩
      have v10 : V m 10 = nI l := (a3 _ _ (by omega)).trans h10
      rw [u2_a (show m ≠ m + 1 by omega), v10]
      exact h _ (fun k hk => (u2_k (by omega)).trans (a1 k hk)) (u2_s _ _ _ _) (fun j h1 h2 => (u2_k h1).trans (a2 j h2)) (fun a j ha => (u2_a ha).trans (a3 a j ha))
    | succ r ih =>
      intro i V he a1 a2 a3
      refine s_X9_custom_89 ⟨fun q => absurd q (nI_ge (b := 216) (by omega) (by decide)), fun _ => ⟨hL.t, m + 1, hL.p, m + 3, h3.1, h3.2.1, i, ixl h3.2.2 (by omega) (by decide), hL.a, 500 + i, hL.ix (nI_add 500 i) (by omega), ?_⟩⟩
      rw [nI_1]
      refine ih (i + 1) _ (by omega) (fun k hk => ?_) (fun j hj => (u2_k (by omega)).trans (a2 j hj)) (fun a j ha => (u2_a ha).trans (a3 a j ha))
      by_cases e : k = i
      · subst e; rw [u2_s]; exact a3 _ _ (by omega)
      · rw [u2_k (by omega)]; exact a1 k (by omega)
  exact loop 216 0 I (by omega) (fun k hk => absurd hk (Nat.not_lt_zero k)) (fun _ _ => rfl) (fun _ _ _ => rfl)
theorem RLn.mv {i : Nat} {v : Nat × Nat × Int32} (h : RLn I K M m i v) (e : ∀ j, j < 18 * (i + 1) → J (m + 3) j = I (m + 3) j) (h4 : v.2.1 ≤ 4) : RLn J K M m i v := ⟨(e _ (by omega)).trans h.1, (e _ (by omega)).trans h.2.1, fun y hy => (h.2.2 y hy).mv (fun k hk => e _ (by omega))⟩
theorem t9_custom (hL : LM S P m) (h7 : I (m + 1) 7 = nI n) (hn : n ≤ 300) (hf : ∀ j, j < n → I (m + 1) (720 + j) = f j &&& 255 ∧ fits .byte (.int (f j)) = true)
    (h : ∀ J : IT, J (m + 1) 7 = 0 → J (m + 1) 8 = (fF (LL f n) (TX f n)).1 → J (m + 1) 9 = (fF (LL f n) (TX f n)).2 → ((fF (LL f n) (TX f n)).1 = 0 → J (m + 1) 6 = nI (TX f n).2.1 ∧ (∀ k, k < 216 → J (m + 1) (500 + k) = J (m + 3) k) ∧ ∀ i, i < (TX f n).2.1 → RLn J (KK f n) (MM f n) m i ((TX f n).2.2.2.2 i)) → (¬ (fF (LL f n) (TX f n)).1 = 0 → J (m + 1) 6 = I (m + 1) 6 ∧ ∀ j, 500 ≤ j → j < 716 → J (m + 1) j = I (m + 1) j) → (∀ j, (j < 6 ∨ 10 ≤ j) → (j < 500 ∨ 716 ≤ j) → J (m + 1) j = I (m + 1) j) → (∀ a j, a ≠ m → a ≠ m + 1 → a ≠ m + 3 → a ≠ m + 4 → J a j = I a j) → Q (some (.int (if (fF (LL f n) (TX f n)).1 = 0 then nI (TX f n).2.1 else -1))) S P J) : T g MX9_custom 0 0 [.ref m] S P I Q := by
  obtain ⟨E, hE1, hE2⟩ := exE (f := f) hn
  have hE : EN (KK f n) E := ⟨hE1, hE2⟩
  generalize hRR : TX f n = R at h
  unfold TX at hRR
  refine T_of rfl (Nat.le_of_ble_eq_true rfl) (s_X9_custom_0 ⟨hL.t, m + 1, hL.p, hL.a, 7, hL.ix rfl (by decide), 8, hL.ix rfl (by decide), 9, hL.ix rfl (by decide), ?_⟩)
  generalize hV : u2 (u2 (u2 (u2 (u2 (u2 (u2 I m 2 (I (m + 1) 7)) (m + 1) 7 0) m 3 0) (m + 1) 8 0) (m + 1) 9 (-1)) m 9 0) m 10 0 = V
  have v2 : V m 2 = nI n := by rw [← hV, u2_k (by decide), u2_k (by decide), u2_a (by omega), u2_a (by omega), u2_k (by decide), u2_a (by omega), u2_s]; exact h7
  have v3 : V m 3 = nI 0 := by rw [← hV, u2_k (by decide), u2_k (by decide), u2_a (by omega), u2_a (by omega), u2_s]; rfl
  have v9 : V m 9 = 0 := by rw [← hV, u2_k (by decide), u2_s]
  have v10 : V m 10 = nI 0 := by rw [← hV, u2_s]; rfl
  have w8 : V (m + 1) 8 = 0 := by rw [← hV, u2_a (by omega), u2_a (by omega), u2_k (by decide), u2_s]
  have w9' : V (m + 1) 9 = -1 := by rw [← hV, u2_a (by omega), u2_a (by omega), u2_s]
  have w7 : V (m + 1) 7 = 0 := by rw [← hV, u2_a (by omega), u2_a (by omega), u2_k (by decide), u2_k (by decide), u2_a (by omega), u2_s]
  have wj : ∀ j, j ≠ 7 → j ≠ 8 → j ≠ 9 → V (m + 1) j = I (m + 1) j := fun j q1 q2 q3 => by rw [← hV, u2_a (by omega), u2_a (by omega), u2_k q3, u2_k q2, u2_a (by omega), u2_k q1, u2_a (by omega)]
  have wa : ∀ a j, a ≠ m → a ≠ m + 1 → V a j = I a j := fun a j q1 q2 => by rw [← hV, u2_a q1, u2_a q1, u2_a q2, u2_a q2, u2_a q1, u2_a q2, u2_a q1]
  have hF0 : RF V m n f := ⟨⟨v2, hn⟩, fun j hj => ⟨(wj _ (by omega) (by omega) (by omega)).trans (hf j hj).1, (hf j hj).2⟩⟩
  -- the ends
  have fin0 : ∀ (J : IT) (l a : Nat) (G : Int32 × Int32) (A : AT), (true, l, a, G, A) = R → J (m + 1) 8 = G.1 → J (m + 1) 9 = G.2 → J m 10 = nI l → (∀ j, j ≠ 8 → j ≠ 9 → J (m + 1) j = V (m + 1) j) → (∀ a j, a ≠ m → a ≠ m + 1 → a ≠ m + 3 → a ≠ m + 4 → J a j = V a j) → (G.1 = 0 → l ≤ 12 ∧ ∀ i, i < l → (A i).2.1 ≤ 4 ∧ RLn J (KK f n) (MM f n) m i (A i)) → (J (m + 1) 8 = 0 → B g MX9_custom 0 0 89 [(0, .ref m), (1, .int 0)] [] S P J Q) ∧ (¬ J (m + 1) 8 = 0 → Q (some (.int (-1))) S P J) := by
    intro J l a G A eR b8 b9 b10 b1 b2 b3
    subst eR
    refine ⟨fun q => t9_custom_c hL q b10 (fun W c1 c2 c3 c4 => ?_), fun q => ?_⟩
    · rw [b8] at q
      obtain ⟨l12, cA⟩ := b3 q
      have hh := h W ((c3 7 (by decide) (by decide)).trans ((b1 7 (by decide) (by decide)).trans w7)) ((c3 8 (by decide) (by decide)).trans b8) ((c3 9 (by decide) (by decide)).trans b9) (fun _ => ⟨c2, fun k hk => (c1 k hk).trans (c4 _ _ (by omega)).symm, fun i hi => (cA i hi).2.mv (fun j _ => c4 _ j (by omega)) (cA i hi).1⟩) (fun z => absurd q z) (fun j q1 q2 => (c3 j (by omega) q2).trans ((b1 j (by omega) (by omega)).trans (wj j (by omega) (by omega) (by omega)))) (fun a j q1 q2 q3 q4 => (c4 a j q2).trans ((b2 a j q1 q2 q3 q4).trans (wa a j q1 q2)))
      have e : (if (fF (LL f n) (true, l, a, G, A)).1 = 0 then nI l else -1) = nI l := if_pos q
      rw [e] at hh
      exact hh
    · rw [b8] at q
      have hh := h J ((b1 7 (by decide) (by decide)).trans w7) b8 b9 (fun z => absurd z q) (fun _ => ⟨(b1 6 (by decide) (by decide)).trans (wj 6 (by decide) (by decide) (by decide)), fun j q1 q2 => (b1 j (by omega) (by omega)).trans (wj j (by omega) (by omega) (by omega))⟩) (fun j q1 q2 => (b1 j (by omega) (by omega)).trans (wj j (by omega) (by omega) (by omega))) (fun a j q1 q2 q3 q4 => (b2 a j q1 q2 q3 q4).trans (wa a j q1 q2))
      have e : (if (fF (LL f n) (true, l, a, G, A)).1 = 0 then nI l else -1) = -1 := if_neg q
      rw [e] at hh
      exact hh
  have loop : ∀ k l a G A J, E < a + k → a ≤ E → 2 * l ≤ a → RP J m n f a G → J m 10 = nI l → (∀ j, j ≠ 8 → j ≠ 9 → J (m + 1) j = V (m + 1) j) → (∀ a j, a ≠ m → a ≠ m + 1 → a ≠ m + 3 → a ≠ m + 4 → J a j = V a j) → (G.1 = 0 → l ≤ 12 ∧ ∀ i, i < l → (A i).2.1 ≤ 4 ∧ RLn J (KK f n) (MM f n) m i (A i)) → tx (KK f n) (MM f n) (LL f n) k l a G A = R → B g MX9_custom 0 0 54 [(0, .ref m)] [] S P J Q := by
    intro k
    induction k with
    | zero => intro l a G A J g1 g2; omega
    | succ k ih =>
      intro l a G A J g1 g2 g3 g4 g5 g6 g7 g8 g9
      refine s_X9_custom_54 ⟨hL.t, fun q => absurd g4.2.2.2.2.1 q, fun _ => ⟨fun q => ?_, fun q => ?_⟩⟩
      · have k0 := (RT_0 g4.2.2.2.1).mp q
        rw [tx, if_pos k0] at g9
        exact ⟨m + 1, hL.p, hL.a, 8, hL.ix rfl (by decide), fin0 J l a G A g9 g4.2.2.2.2.2.1 g4.2.2.2.2.2.2 g5 g6 g7 g8⟩
      · have k0 : ¬ KK f n a = 0 := fun z => q ((RT_0 g4.2.2.2.1).mpr z)
        rw [tx, if_neg k0] at g9
        refine t9_aLine hL hE g2 g4 g5 (by omega) (fun W a1 a2 a3 => s_X9_custom_72 ?_)
        have f6 : ∀ j, j ≠ 8 → j ≠ 9 → W (m + 1) j = V (m + 1) j := fun j q1 q2 => (a3.2.1 j q1 q2).trans (g6 j q1 q2)
        have f7 : ∀ a j, a ≠ m → a ≠ m + 1 → a ≠ m + 3 → a ≠ m + 4 → W a j = V a j := fun a j q1 q2 q3 q4 => (a3.2.2.2 a j q1 q2 q3 q4).trans (g7 a j q1 q2 q3 q4)
        cases ho : (ln (KK f n) (MM f n) (LL f n) l a G).1 with
        | true =>
          rw [if_pos ho] at g9
          have hge := ln_ge ho
          obtain ⟨b1, b2, b3, b4⟩ := a1 ho
          refine ih (l + 1) _ _ _ W (by omega) b1 (by omega) b2 b3 f6 f7 (fun h0 => ?_) g9
          obtain ⟨c1, c2, c3, c4⟩ := ln_0 ho h0
          obtain ⟨d1, d2⟩ := g8 c4
          refine ⟨by omega, fun i hi => ?_⟩
          by_cases e : i = l
          · subst e
            rw [aset_s]
            exact ⟨c3, b4 c2 c3⟩
          · rw [aset_k e]
            exact ⟨(d2 i (by omega)).1, (d2 i (by omega)).2.mv (fun j hj => a3.2.2.1 j (by omega)) (d2 i (by omega)).1⟩
        | false =>
          have hno : ¬ (ln (KK f n) (MM f n) (LL f n) l a G).1 = true := by rw [ho]; decide
          rw [if_neg hno] at g9
          subst g9
          have hw := a2 ho
          refine s_X9_custom_54 ⟨hL.t, fun _ => ⟨m + 1, hL.p, hL.a, 8, hL.ix rfl (by decide), fun z => n10 (hw.2.1.symm.trans z), fun _ => ?_⟩, fun z => n10 (hw.1.symm.trans z)⟩
          exact h W ((f6 7 (by decide) (by decide)).trans w7) hw.2.1 hw.2.2 (fun z => n10 z) (fun _ => ⟨(f6 6 (by decide) (by decide)).trans (wj 6 (by decide) (by decide) (by decide)), fun j q1 q2 => (f6 j (by omega) (by omega)).trans (wj j (by omega) (by omega) (by omega))⟩) (fun j q1 q2 => (f6 j (by omega) (by omega)).trans (wj j (by omega) (by omega) (by omega))) (fun a j q1 q2 q3 q4 => (f7 a j q1 q2 q3 q4).trans (wa a j q1 q2))
  refine t9_advance hL hF0 v3 (Nat.zero_le n) (fun J e1 e2 e3 e4 e5 => ?_)
  exact loop 301 0 0 (0, -1) A0 J (by omega) (Nat.zero_le E) (by omega) ⟨hF0.mv (e4 2 (by decide)) (fun j _ => e5 _ j (by omega)), e2, e1, e3, (e4 9 (by decide)).trans v9, (e5 _ _ (by omega)).trans w8, (e5 _ _ (by omega)).trans w9'⟩ ((e4 10 (by decide)).trans v10) (fun j _ _ => e5 _ j (by omega)) (fun a j q1 _ _ _ => e5 a j q1) (fun _ => ⟨by omega, fun i hi => absurd hi (Nat.not_lt_zero i)⟩) hRR
end REFC
