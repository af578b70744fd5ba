theorem nft {p : Prop} (h : false = true) : p := by cases h
theorem n10 {p : Prop} (h : (1 : Int32) = 0) : p := absurd h (by decide)
def FC (I J : IT) (r l : Nat) : Prop := (∀ b j, b ≠ r → b ≠ r + 3 → (b < r + 4 ∨ r + 6 < b) → J b j = I b j) ∧ (∀ j, j ≠ l → J (r + 3) j = I (r + 3) j) ∧ ∀ c j, 4 ≤ c → c ≤ 6 → j < 4 * l → J (r + c) j = I (r + c) j
def LSm (I J : IT) (r i : Nat) : Prop := J (r + 2) i = I (r + 2) i ∧ J (r + 3) i = I (r + 3) i ∧ ∀ c y, 4 ≤ c → c ≤ 6 → y < 4 → J (r + c) (4 * i + y) = I (r + c) (4 * i + y)
def CLn (J : IT) (K M : Nat → Int32) (r l : Nat) (v : Nat × Nat × Int32) : Prop := J (r + 2) l = v.2.2 ∧ J (r + 3) l = nI v.2.1 ∧ ∀ y, y < v.2.1 → CT J K M r l (tp K (v.1 + 1) y) y
section PARSE2
variable {g : GT} {S : ST} {P : PT} {I J W : IT} {Q : QT} {r t E a l tt n i p y : Nat} {K M L : Nat → Int32} {F : Int32 × Int32} {v : Nat × Nat × Int32}
theorem FT.fc (h : FT I J r l tt) : FC I J r l := ⟨fun b j h1 h2 h3 => h b j h1 (Or.inl h2) (by omega), fun j hj => h _ _ (by omega) (Or.inr hj) (Or.inl (by omega)), fun c j h1 h2 h3 => h _ _ (by omega) (Or.inl (by omega)) (by omega)⟩
theorem FC.tr (h : FC I J r l) (h2 : FC J W r l) : FC I W r l := ⟨fun b j q1 q2 q3 => (h2.1 b j q1 q2 q3).trans (h.1 b j q1 q2 q3), fun j hj => (h2.2.1 j hj).trans (h.2.1 j hj), fun c j q1 q2 q3 => (h2.2.2 c j q1 q2 q3).trans (h.2.2 c j q1 q2 q3)⟩
theorem FC.rf : FC I I r l := ⟨fun _ _ _ _ _ => rfl, fun _ _ => rfl, fun _ _ _ _ _ => rfl⟩
theorem FC.of (h : ∀ b j, b ≠ r → J b j = I b j) : FC I J r l := ⟨fun b j h1 _ _ => h b j h1, fun j _ => h _ _ (by omega), fun c j _ _ _ => h _ _ (by omega)⟩
theorem FC.hi (h : FC I J r l) : ∀ b j, r + 7 ≤ b → J b j = I b j := fun b j hb => h.1 b j (by omega) (by omega) (by omega)
theorem CT.mv (h : CT I K M r l p y) (e : ∀ c, 4 ≤ c → c ≤ 6 → J (r + c) (4 * l + y) = I (r + c) (4 * l + y)) : CT J K M r l p y := ⟨h.1, (e 4 (by decide) (by decide)).trans h.2.1, (e 5 (by decide) (by decide)).trans h.2.2.1, (e 6 (by decide) (by decide)).trans h.2.2.2⟩
theorem CLn.mv (h : CLn I K M r i v) (h4 : v.2.1 ≤ 4) (e : LSm I J r i) : CLn J K M r i v := ⟨e.1.trans h.1, e.2.1.trans h.2.1, fun y hy => (h.2.2 y hy).mv (fun c h1 h2 => e.2.2 c y h1 h2 (by omega))⟩
theorem RS1.at {b : Nat} (h : RS1 I r a F) : RS1 (u2 I r 4 (nI b)) r b F := ⟨u2_s _ _ _ _, (u2_k (by decide)).trans h.2.1, (u2_k (by decide)).trans h.2.2⟩
theorem t_readCondition (hL : LRd S P r t) (hT : TK I (r + 7) K M L E) (hs : RS1 I r a F) (ha : a ≤ E) (h7 : K a = 7) (hl : l ≤ 300) (h0 : l < 12 → I (r + 3) l = 0)
    (h : ∀ J : IT, (cn K L 301 (a + 1) 0 F).2.1 ≤ E → RS1 J r (cn K L 301 (a + 1) 0 F).2.1 (cn K L 301 (a + 1) 0 F).2.2.2 → FC I J r l → (l < 12 → (cn K L 301 (a + 1) 0 F).1 = true → (cn K L 301 (a + 1) 0 F).2.2.1 ≤ 4 → J (r + 3) l = nI (cn K L 301 (a + 1) 0 F).2.2.1 ∧ ∀ y, y < (cn K L 301 (a + 1) 0 F).2.2.1 → CT J K M r l (tp K (a + 1) y) y) → Q (some (.int (bI (cn K L 301 (a + 1) 0 F).1))) S P J) : T g MX4_readCondition 0 0 [.ref r, .int (nI l)] S P I Q := by
  have hE := hT.1
  generalize hres : cn K L 301 (a + 1) 0 F = res at h
  have uf : ∀ (W : IT) (s : Int32), ∀ b j, b ≠ r → u2 W r 4 s b j = W b j := fun W s b j hb => u2_a hb
  have loop : ∀ k b tt G J, E < b + k → b ≤ E → tt + 1 ≤ b → b = tp K (a + 1) tt → RS1 J r b G → FC I J r l → (l < 12 → tt ≤ 4 → J (r + 3) l = nI tt ∧ ∀ y, y < tt → CT J K M r l (tp K (a + 1) y) y) → cn K L k b tt G = res → B g MX4_readCondition 0 0 9 [(0, .ref r), (1, .int (nI l)), (2, .int 1), (3, .int (nI tt))] [] S P J Q := by
    intro k
    induction k with
    | zero => intro b tt G J e1 e2; omega
    | succ k ih =>
      intro b tt G J e1 e2 e3 e4 e5 e6 e7 e8
      have hA := tA_ge K b
      refine s_X4_readCondition_9 ⟨fun q => absurd q (nI_ge (b := 300) (by omega) (by decide)), fun _ => ⟨fun q => absurd q (by decide), fun _ => ⟨hL.1.1, t_readTest hL (hT.mv e6.hi) e5 e2 hl (by omega) (fun W ho hb hW fW cW' => ?_) (fun W ho hb hW fW => ?_)⟩⟩⟩
      · rw [cn, if_pos ho] at e8
        have e6W := e6.tr fW.fc
        have hTW := hT.mv e6W.hi
        have nc : l < 12 → tt + 1 ≤ 4 → W (r + 3) l = nI (tt + 1) ∧ ∀ y, y < tt + 1 → CT W K M r l (tp K (a + 1) y) y := by
          intro h1 h2
          obtain ⟨c1, c2⟩ := cW' h1 (by omega)
          obtain ⟨c3, c4⟩ := e7 h1 (by omega)
          refine ⟨c2, fun y hy => ?_⟩
          by_cases ey : y = tt
          · subst ey; rw [← e4]; exact c1
          · exact (c4 y (by omega)).mv (fun c q1 q2 => fW _ _ (by omega) (Or.inl (by omega)) (by omega))
        have nu : ∀ s : Int32, l < 12 → tt + 1 ≤ 4 → u2 W r 4 s (r + 3) l = nI (tt + 1) ∧ ∀ y, y < tt + 1 → CT (u2 W r 4 s) K M r l (tp K (a + 1) y) y := fun s h1 h2 => ⟨(u2_a (by omega)).trans (nc h1 h2).1, fun y hy => ((nc h1 h2).2 y hy).mv (fun c q1 q2 => u2_a (by omega))⟩
        refine s_X4_readCondition_26 ⟨fun _ => ⟨hL.1.1, t_take hL hTW hW.1 hb (by decide) (by decide) (fun k8 hb1 => s_X4_readCondition_37 ?_) (fun k8 => s_X4_readCondition_37 ?_)⟩, fun q => absurd q (by decide)⟩
        · rw [if_pos k8] at e8
          rw [nI_1]
          exact ih (tA K b + 3 + 1) (tt + 1) _ _ (by omega) hb1 (by omega) (by rw [tp, ← e4]) hW.at (e6W.tr (FC.of (uf W _))) (nu _) e8
        · rw [if_neg k8] at e8
          rw [nI_1]
          refine s_X4_readCondition_9 ⟨fun q => absurd q (nI_ge (b := 300) (by omega) (by decide)), fun _ => ⟨fun _ => ⟨hL.1.1, t_take hL hTW hW.1 hb (by decide) (by decide) (fun k5 hb1 => s_X4_readCondition_49 ⟨Or.inr rfl, ?_⟩) (fun k5 => s_X4_readCondition_49 ⟨Or.inl rfl, ?_⟩)⟩, fun q => absurd rfl q⟩⟩
          · rw [if_pos k5] at e8
            subst e8
            exact h _ hb1 hW.at (e6W.tr (FC.of (uf W _))) (fun h1 _ h3 => nu _ h1 h3)
          · rw [if_neg k5] at e8
            subst e8
            exact h _ hb hW e6W (fun _ q => nft q)
      · rw [cn, if_neg ho] at e8
        subst e8
        exact s_X4_readCondition_26 ⟨fun q => absurd rfl q, fun _ => h _ hb hW (e6.tr (FC.of fW)) (fun _ q => nft q)⟩
  refine T_of rfl (Nat.le_of_ble_eq_true rfl) (s_X4_readCondition_0 ⟨hL.1.1, t_take hL hT hs.1 ha (by decide) (by decide) (fun _ ha1 => s_X4_readCondition_6 ?_) (fun k7 => absurd h7 k7)⟩)
  exact loop 301 (a + 1) 0 F _ (by omega) ha1 (by omega) rfl hs.at (FC.of (uf I _)) (fun h1 _ => ⟨(u2_a (by omega)).trans (h0 h1), fun y hy => absurd hy (Nat.not_lt_zero y)⟩) hres
theorem t_readDuty (hL : LRd S P r t) (hT : TK I (r + 7) K M L E) (hs : RS1 I r a F) (ha : a ≤ E) (hl : l ≤ 300) (h0 : l < 12 → I (r + 2) l = 0)
    (h : ∀ J : IT, (dq1 K M L a F).2.1 ≤ E → RS1 J r (dq1 K M L a F).2.1 (dq1 K M L a F).2.2 → (∀ b j, b ≠ r → (b ≠ r + 2 ∨ j ≠ l) → J b j = I b j) → (l < 12 → (dq1 K M L a F).1 = true → J (r + 2) l = dn K M a) → Q (some (.int (bI (dq1 K M L a F).1))) S P J) : T g MX4_readDuty 0 0 [.ref r, .int (nI l)] S P I Q := by
  obtain ⟨-, -, p1, p2, p3⟩ := hL.2.2.1.1
  obtain ⟨t1, l1, t2, l2, t3, l3⟩ := hL.2.2.1.2
  obtain ⟨⟨c0, c1, c2, c3, c4, c5⟩, ⟨q1, q2, q3, q4, q5⟩, ⟨w1, w2, w3, w4, w5⟩⟩ := hL.2.1
  have hE := hT.1
  have uf : ∀ (W : IT) (s : Int32), ∀ b j, b ≠ r → u2 W r 4 s b j = W b j := fun W s b j hb => u2_a hb
  refine T_of rfl (Nat.le_of_ble_eq_true rfl) (s_X4_readDuty_0 ⟨hL.1.1, t_take hL hT hs.1 ha (by decide) (by decide) (fun k11 ha1 => ?_) (fun k11 => ?_)⟩)
  · have T1 : TK (u2 I r 4 (nI (a + 1))) (r + 7) K M L E := hT.mv (fun b j hb => u2_a (by omega))
    have R1 : RS1 (u2 I r 4 (nI (a + 1))) r (a + 1) F := hs.at
    have F1 := uf I (nI (a + 1))
    generalize u2 I r 4 (nI (a + 1)) = I1 at T1 R1 F1 ⊢
    obtain ⟨eK, eM, eL⟩ := T1.2.1 (a + 1) ha1
    have b48 : ∀ (J : IT) (G : Int32 × Int32), RS1 J r (a + 1) G → (∀ b j, b ≠ r → J b j = I b j) → (K (a + 1) = 2 → G = f2 M L (a + 1) F) → (¬ K (a + 1) = 2 → G = F) → B g MX4_readDuty 0 0 48 [(0, .ref r), (1, .int (nI l)), (2, .int (M (a + 1)))] [] S P J Q := by
      intro J G hJ fJ g1 g2
      have fin : ∀ W : IT, RS1 W r (a + 1) G → (∀ b j, b ≠ r → (b ≠ r + 2 ∨ j ≠ l) → W b j = I b j) → (l < 12 → W (r + 2) l = M (a + 1)) → T g MX4_take 0 0 [.ref r, .int 2] S P W (fun r2 S' P' I' => B g MX4_readDuty 0 0 69 [(0, .ref r), (1, .int (nI l)), (2, .int (M (a + 1)))] (r2.toList ++ []) S' P' I' Q) := by
        intro W hW fW mW'
        refine t_take hL (hT.mv (fun b j hb => fW b j (by omega) (by omega))) hW.1 ha1 (by decide) (by decide) (fun k2 ha2 => s_X4_readDuty_69 ⟨Or.inr rfl, ?_⟩) (fun k2 => s_X4_readDuty_69 ⟨Or.inl rfl, ?_⟩)
        · unfold dq1 at h
          rw [if_pos k11, if_pos k2, ← g1 k2] at h
          exact h _ ha2 hW.at (fun b j h1 h2 => (u2_a h1).trans (fW b j h1 h2)) (fun h1 _ => by unfold dn; rw [if_pos k11, u2_a (by omega)]; exact mW' h1)
        · unfold dq1 at h
          rw [if_pos k11, if_neg k2] at h
          rw [g2 k2] at hW
          exact h _ ha1 hW fW (fun _ q => nft q)
      refine s_X4_readDuty_48 ⟨fun q => ⟨hL.1.1, fin J hJ (fun b j h1 _ => fJ b j h1) (fun h1 => absurd q (nI_ge (b := 12) h1 (by decide)))⟩, fun q => ?_⟩
      have hl12 : l < 12 := not_le_nI (a := 12) (b := l) (by decide) (by omega) q
      refine ⟨hL.1.1, _, hL.1.2.1, c0, _, q1, c1, l, ixl w1 hl12 (by decide), fin _ ⟨(u2_a (by omega)).trans hJ.1, (u2_a (by omega)).trans hJ.2.1, (u2_a (by omega)).trans hJ.2.2⟩ (fun b j h1 h2 => ?_) (fun _ => u2_s _ _ _ _)⟩
      rw [show ∀ s : Int32, u2 J (r + 1 + 1) l s b j = J b j from fun s => h2.elim (fun z => u2_a z) (fun z => u2_k z)]
      exact fJ b j h1
    refine s_X4_readDuty_6 ⟨fun _ => ⟨hL.1.1, _, hL.1.2.2, hL.2.2.1.1.1, _, p2, t2, a + 1, ixe R1.1 l2 (by omega) (by decide), _, p1, t1, a + 1, ixe R1.1 l1 (by omega) (by decide), ?_⟩, fun q => absurd q (by decide)⟩
    rw [eK, eM]
    refine ⟨fun k2 => b48 I1 F R1 F1 (fun q => absurd q k2) (fun _ => rfl), fun k2 => ⟨fun z => b48 I1 F R1 F1 (fun _ => by unfold f2; rw [if_pos z]) (fun q => absurd k2 q), fun z => ⟨fun u => b48 I1 F R1 F1 (fun _ => ?_) (fun q => absurd k2 q), fun u => ⟨_, p3, t3, a + 1, ixe R1.1 l3 (by omega) (by decide), b48 _ (2, L (a + 1)) ⟨?_, ?_, ?_⟩ (fun b j hb => by rw [u2_a hb, u2_a hb]; exact F1 b j hb) (fun _ => ?_) (fun q => absurd k2 q)⟩⟩⟩⟩
    · rw [R1.2.1] at u; unfold f2 nt1; rw [if_neg z, if_neg u]
    · rw [u2_k (by decide), u2_k (by decide)]; exact R1.1
    · rw [u2_k (by decide), u2_s]
    · rw [u2_s, u2_a (by omega)]; exact eL
    · rw [R1.2.1] at u; unfold f2 nt1; rw [if_neg z, if_pos u]
  · unfold dq1 at h
    rw [if_neg k11] at h
    refine s_X4_readDuty_6 ⟨fun q => absurd rfl q, fun _ => ⟨hL.1.1, t_take hL hT hs.1 ha (by decide) (by decide) (fun k10 ha1 => s_X4_readDuty_15 ⟨Or.inr rfl, ?_⟩) (fun k10 => s_X4_readDuty_15 ⟨Or.inl rfl, ?_⟩)⟩⟩
    · rw [if_pos k10] at h
      exact h _ ha1 hs.at (fun b j h1 _ => u2_a h1) (fun h1 _ => by unfold dn; rw [if_neg k11, u2_a (by omega)]; exact h0 h1)
    · rw [if_neg k10] at h
      exact h _ ha hs (fun _ _ _ _ => rfl) (fun _ q => nft q)
theorem t_readLine (hL : LRd S P r t) (hT : TK I (r + 7) K M L E) (hs : RS1 I r a F) (ha : a ≤ E) (hl : l ≤ 300)
    (h : ∀ J : IT, (ln K M L l a F).2.1 ≤ E → RS1 J r (ln K M L l a F).2.1 (ln K M L l a F).2.2 → (∀ b j, (b < r ∨ r + 7 ≤ b) → J b j = I b j) → (∀ i, i < l → LSm I J r i) → (l < 12 → J (r + 1) 0 = nI (l + 1)) → (l < 12 → (ln K M L l a F).1 = true → (lc K L l a F).2.2.1 ≤ 4 → CLn J K M r l (la K M L l a F)) → Q (some (.int (bI (ln K M L l a F).1))) S P J) : T g MX4_readLine 0 0 [.ref r, .int (nI l)] S P I Q := by
  obtain ⟨-, -, p1, p2, p3⟩ := hL.2.2.1.1
  obtain ⟨t1, l1, t2, l2, t3, l3⟩ := hL.2.2.1.2
  obtain ⟨⟨c0, c1, c2, c3, c4, c5⟩, ⟨q1, q2, q3, q4, q5⟩, ⟨w1, w2, w3, w4, w5⟩⟩ := hL.2.1
  have hE := hT.1
  -- the duty, from a' on
  have du : ∀ (J : IT) (a' nt : Nat) (G : Int32 × Int32), lc K L l a F = (true, a', nt, G) → a' ≤ E → RS1 J r a' G → (∀ b j, (b < r ∨ r + 7 ≤ b) → J b j = I b j) → (∀ i, i < l → LSm I J r i) → (l < 12 → J (r + 1) 0 = nI (l + 1)) → (l < 12 → J (r + 2) l = 0) → (l < 12 → nt ≤ 4 → J (r + 3) l = nI nt ∧ ∀ y, y < nt → CT J K M r l (tp K (a + 1) y) y) → T g MX4_readDuty 0 0 [.ref r, .int (nI l)] S P J (fun r2 S' P' I' => B g MX4_readLine 0 0 68 [(0, .ref r), (1, .int (nI l))] (r2.toList ++ []) S' P' I' Q) := by
    intro J a' nt G hlc ha' hJ fJ sJ n1 n2 n3
    have hln : ln K M L l a F = dq2 K (dq1 K M L a' G) := by unfold ln; rw [hlc]; rfl
    refine t_readDuty hL (hT.mv (fun b j hb => fJ b j (by omega))) hJ ha' hl n2 (fun W e1 e2 e3 e4 => ?_)
    have fW : ∀ b j, (b < r ∨ r + 7 ≤ b) → W b j = I b j := fun b j hb => (e3 b j (by omega) (by omega)).trans (fJ b j hb)
    have sW : ∀ i, i < l → LSm I W r i := fun i hi => ⟨(e3 _ _ (by omega) (by omega)).trans (sJ i hi).1, (e3 _ _ (by omega) (by omega)).trans (sJ i hi).2.1, fun c y h1 h2 h3 => (e3 _ _ (by omega) (by omega)).trans ((sJ i hi).2.2 c y h1 h2 h3)⟩
    have nW : l < 12 → W (r + 1) 0 = nI (l + 1) := fun h1 => (e3 _ _ (by omega) (by omega)).trans (n1 h1)
    have cW' : l < 12 → (dq1 K M L a' G).1 = true → nt ≤ 4 → CLn W K M r l (a, nt, dn K M a') := fun h1 h2 h3 => ⟨e4 h1 h2, (e3 _ _ (by omega) (by omega)).trans (n3 h1 h3).1, fun y hy => ((n3 h1 h3).2 y hy).mv (fun c _ _ => e3 _ _ (by omega) (by omega))⟩
    have hla : la K M L l a F = (a, nt, dn K M a') := by unfold la; rw [hlc]
    rw [hln, hla, hlc] at h
    generalize dq1 K M L a' G = R at h e1 e2 e4 cW' ⊢
    obtain ⟨ok, e, G2⟩ := R
    cases ok with
    | false => exact s_X4_readLine_68 ⟨fun _ => h W e1 e2 fW sW nW (fun _ q => nft q), fun q => absurd rfl q⟩
    | true =>
      refine s_X4_readLine_68 ⟨fun q => n10 q, fun _ => ⟨hL.1.1, t_take hL (hT.mv (fun b j hb => fW b j (by omega))) e2.1 e1 (by decide) (by decide) (fun k6 he => s_X4_readLine_77 ⟨fun q => absurd q (by decide), fun _ => ?_⟩) (fun k6 => s_X4_readLine_77 ⟨fun _ => ?_, fun q => absurd rfl q⟩)⟩⟩
      · have hd : dq2 K (true, e, G2) = (true, e + 1, G2) := by unfold dq2; rw [if_pos rfl, if_pos k6]
        rw [hd] at h
        refine h _ he e2.at (fun b j hb => (u2_a (by omega)).trans (fW b j hb)) (fun i hi => ⟨(u2_a (by omega)).trans (sW i hi).1, (u2_a (by omega)).trans (sW i hi).2.1, fun c y h1 h2 h3 => (u2_a (by omega)).trans ((sW i hi).2.2 c y h1 h2 h3)⟩) (fun h1 => (u2_a (by omega)).trans (nW h1)) (fun h1 _ h3 => ?_)
        exact (cW' h1 rfl h3).mv h3 ⟨u2_a (by omega), u2_a (by omega), fun c y _ _ _ => u2_a (by omega)⟩
      · have hd : dq2 K (true, e, G2) = (false, e, G2) := by unfold dq2; rw [if_pos rfl, if_neg k6]
        rw [hd] at h
        exact h W e1 e2 fW sW nW (fun _ q => nft q)
  -- behind the head
  have mid : ∀ J : IT, RS1 J r a (if 12 ≤ l then nt1 F 3 (L a) else F) → (∀ b j, (b < r ∨ r + 7 ≤ b) → J b j = I b j) → (∀ i, i < l → LSm I J r i) → (l < 12 → J (r + 1) 0 = nI (l + 1)) → (l < 12 → J (r + 2) l = 0 ∧ J (r + 3) l = 0) → (¬ K a = 7 → T g MX4_readDuty 0 0 [.ref r, .int (nI l)] S P J (fun r2 S' P' I' => B g MX4_readLine 0 0 68 [(0, .ref r), (1, .int (nI l))] (r2.toList ++ []) S' P' I' Q)) ∧ (K a = 7 → T g MX4_readCondition 0 0 [.ref r, .int (nI l)] S P J (fun r2 S' P' I' => B g MX4_readLine 0 0 58 [(0, .ref r), (1, .int (nI l))] (r2.toList ++ []) S' P' I' Q)) := by
    intro J hJ fJ sJ n1 n2
    refine ⟨fun k7 => du J a 0 _ (by unfold lc; rw [if_neg k7]) ha hJ fJ sJ n1 (fun h1 => (n2 h1).1) (fun h1 _ => ⟨(n2 h1).2, fun y hy => absurd hy (Nat.not_lt_zero y)⟩), fun k7 => ?_⟩
    refine t_readCondition hL (hT.mv (fun b j hb => fJ b j (by omega))) hJ ha k7 hl (fun h1 => (n2 h1).2) (fun W e1 e2 e3 e4 => ?_)
    have hlc : lc K L l a F = cn K L 301 (a + 1) 0 (if 12 ≤ l then nt1 F 3 (L a) else F) := by unfold lc; rw [if_pos k7]
    rw [← hlc] at e1 e2 e4 ⊢
    have fW : ∀ b j, (b < r ∨ r + 7 ≤ b) → W b j = I b j := fun b j hb => (e3.1 b j (by omega) (by omega) (by omega)).trans (fJ b j hb)
    have sW : ∀ i, i < l → LSm I W r i := fun i hi => ⟨(e3.1 _ _ (by omega) (by omega) (by omega)).trans (sJ i hi).1, (e3.2.1 _ (by omega)).trans (sJ i hi).2.1, fun c y h1 h2 h3 => (e3.2.2 _ _ h1 h2 (by omega)).trans ((sJ i hi).2.2 c y h1 h2 h3)⟩
    have nW : l < 12 → W (r + 1) 0 = nI (l + 1) := fun h1 => (e3.1 _ _ (by omega) (by omega) (by omega)).trans (n1 h1)
    cases hb : lc K L l a F with
    | mk ok R =>
      obtain ⟨e, nt, G⟩ := R
      rw [hb] at e1 e2 e4
      cases ok with
      | true =>
        exact s_X4_readLine_58 ⟨fun _ => ⟨hL.1.1, du W e nt G hb e1 e2 fW sW nW (fun h1 => (e3.1 _ _ (by omega) (by omega) (by omega)).trans (n2 h1).1) (fun h1 h3 => e4 h1 rfl h3)⟩, fun q => n10 q⟩
      | false =>
        have hln : ln K M L l a F = (false, e, G) := by unfold ln; rw [hb]; rfl
        rw [hln] at h
        exact s_X4_readLine_58 ⟨fun q => absurd rfl q, fun _ => h W e1 e2 fW sW nW (fun _ q => nft q)⟩
  obtain ⟨eK, eM, eL⟩ := hT.2.1 a ha
  refine T_of rfl (Nat.le_of_ble_eq_true rfl) (s_X4_readLine_0 ⟨fun q => ⟨hL.1.1, fun z => ?_, fun z => ?_⟩, fun q => ?_⟩)
  · have hl12 : 12 ≤ l := by
      rcases Nat.lt_or_ge l 12 with y | y
      · exact absurd q (nI_ge (b := 12) y (by decide))
      · exact y
    have m := mid I (by rw [if_pos hl12]; rw [hs.2.1] at z; unfold nt1; rw [if_neg z]; exact hs) (fun _ _ _ => rfl) (fun i _ => ⟨rfl, rfl, fun _ _ _ _ _ => rfl⟩) (fun h1 => by omega) (fun h1 => by omega)
    refine ⟨_, hL.1.2.2, hL.2.2.1.1.1, _, p1, t1, a, ixe hs.1 l1 (by omega) (by decide), ?_⟩
    rw [eK]
    exact m
  · have hl12 : 12 ≤ l := by
      rcases Nat.lt_or_ge l 12 with y | y
      · exact absurd q (nI_ge (b := 12) y (by decide))
      · exact y
    refine ⟨_, hL.1.2.2, hL.2.2.1.1.1, _, p3, t3, a, ixe hs.1 l3 (by omega) (by decide), _, p1, t1, a, ixe hs.1 l1 (by omega) (by decide), ?_⟩
    rw [u2_a (show r + 7 + 1 ≠ r by omega), u2_a (show r + 7 + 1 ≠ r by omega), u2_a (show r + 7 + 3 ≠ r by omega), eK, eL]
    rw [hs.2.1] at z
    exact mid _ (by rw [if_pos hl12]; unfold nt1; rw [if_pos z]; exact ⟨by rw [u2_k (by decide), u2_k (by decide)]; exact hs.1, by rw [u2_k (by decide), u2_s], u2_s _ _ _ _⟩) (fun b j hb => by rw [u2_a (by omega), u2_a (by omega)]) (fun i _ => ⟨by rw [u2_a (by omega), u2_a (by omega)], by rw [u2_a (by omega), u2_a (by omega)], fun c y h1 _ _ => by rw [u2_a (by omega), u2_a (by omega)]⟩) (fun h1 => by omega) (fun h1 => by omega)
  · have hl12 : l < 12 := not_le_nI (a := 12) (b := l) (by decide) (by omega) q
    refine ⟨hL.1.1, _, hL.1.2.1, c0, _, q2, c2, l, ixl w2 hl12 (by decide), _, q1, c1, l, ixl w1 hl12 (by decide), _, hL.1.2.2, hL.2.2.1.1.1, _, p1, t1, a, ?_⟩
    rw [nI_1]
    generalize hW : u2 (u2 (u2 I (r + 1) 0 (nI (l + 1))) (r + 1 + 2) l 0) (r + 1 + 1) l 0 = W
    have wr : ∀ j, W r j = I r j := fun j => by rw [← hW, u2_a (by omega), u2_a (by omega), u2_a (by omega)]
    have wf : ∀ b j, (b < r ∨ r + 7 ≤ b) → W b j = I b j := fun b j hb => by rw [← hW, u2_a (by omega), u2_a (by omega), u2_a (by omega)]
    refine ⟨ixe ((wr 4).trans hs.1) l1 (by omega) (by decide), ?_⟩
    rw [wf (r + 7 + 1) a (by omega), eK]
    refine mid W ?_ wf (fun i hi => ⟨?_, ?_, fun c y h1 _ _ => ?_⟩) (fun _ => ?_) (fun _ => ⟨?_, ?_⟩)
    · rw [if_neg (by omega)]; exact ⟨(wr 4).trans hs.1, (wr 1).trans hs.2.1, (wr 2).trans hs.2.2⟩
    · rw [← hW, u2_k (by omega), u2_k (by omega), u2_a (by omega)]
    · rw [← hW, u2_k (by omega), u2_k (by omega), u2_a (by omega)]
    · rw [← hW, u2_a (by omega), u2_a (by omega), u2_a (by omega)]
    · rw [← hW, u2_a (by omega), u2_a (by omega), u2_s]
    · rw [← hW]; exact u2_s _ _ _ _
    · rw [← hW, u2_a (by omega)]; exact u2_s _ _ _ _
end PARSE2
