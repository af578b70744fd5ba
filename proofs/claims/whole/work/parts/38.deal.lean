theorem bpf_cong {v v' : Nat → Int32} {fr fr' : Nat → Bool} : ∀ {n : Nat}, (∀ j, j < n → v j = v' j ∧ fr j = fr' j) → bpf v fr n = bpf v' fr' n
  | 0, _ => rfl
  | n + 1, h => by
    have ih := bpf_cong (fun j hj => h j (Nat.lt_succ_of_lt hj) : ∀ j, j < n → _)
    have hl := bpf_le v' fr' n
    rw [bpf, bpf, ih, (h n (Nat.lt_succ_self n)).2, (h n (Nat.lt_succ_self n)).1]
    by_cases q : bpf v' fr' n = 0
    · simp [q]
    · rw [(h (bpf v' fr' n - 1) (by omega)).1]
theorem bpf_fr (v : Nat → Int32) (fr : Nat → Bool) : ∀ n, bpf v fr n ≠ 0 → fr (bpf v fr n - 1) = true
  | 0, h => absurd rfl h
  | n + 1, h => by
    rw [bpf] at h ⊢
    split
    · rename_i q; simpa using q.1
    · rename_i q; rw [if_neg q] at h; exact bpf_fr v fr n h
theorem bhf_cong {v v' : Nat → Int32} {fr fr' : Nat → Bool} : ∀ {n : Nat}, (∀ j, j < n → v j = v' j ∧ fr j = fr' j) → bhf v fr n = bhf v' fr' n
  | 0, _ => rfl
  | n + 1, h => by
    have ih := bhf_cong (fun j hj => h j (Nat.lt_succ_of_lt hj) : ∀ j, j < n → _)
    have hl := bhf_le v' fr' n
    rw [bhf, bhf, ih, (h n (Nat.lt_succ_self n)).2, (h n (Nat.lt_succ_self n)).1]
    by_cases q : bhf v' fr' n = 0
    · simp [q]
    · rw [(h (bhf v' fr' n - 1) (by omega)).1]
abbrev gb (had : Nat → Int32) (a b : Nat) : Prop := (had a).toInt < (had b).toInt ∨ ((had a).toInt = (had b).toInt ∧ a < b)
theorem bhf_spec (had : Nat → Int32) (wt : Nat → Bool) : ∀ n, (bhf had wt n = 0 ∧ ∀ h, h < n → wt h = false) ∨ ∃ b, b < n ∧ bhf had wt n = b + 1 ∧ wt b = true ∧ ∀ h, h < n → wt h = true → ¬ gb had h b
  | 0 => Or.inl ⟨rfl, fun h hh => absurd hh (Nat.not_lt_zero h)⟩
  | n + 1 => by
    rcases bhf_spec had wt n with ⟨a, b⟩ | ⟨b, hb, e, w, mn⟩
    · by_cases q : wt n = true
      · refine Or.inr ⟨n, by omega, by rw [bhf, if_pos ⟨q, Or.inl a⟩], q, fun h hh hw => ?_⟩
        by_cases z : h = n
        · subst z; unfold gb; omega
        · rw [b h (by omega)] at hw; cases hw
      · refine Or.inl ⟨by rw [bhf, if_neg (fun z => q z.1)]; exact a, fun h hh => ?_⟩
        by_cases z : h = n
        · subst z; simpa using q
        · exact b h (by omega)
    · by_cases q : wt n = true ∧ had n < had b
      · refine Or.inr ⟨n, by omega, by rw [bhf, if_pos ⟨q.1, Or.inr (by rw [e]; exact q.2)⟩], q.1, fun h hh hw => ?_⟩
        have q2 := Int32.lt_iff_toInt_lt.mp q.2
        by_cases z : h = n
        · subst z; unfold gb; omega
        · have := mn h (by omega) hw
          unfold gb at this ⊢; omega
      · refine Or.inr ⟨b, by omega, by rw [bhf, if_neg (fun z => q ⟨z.1, z.2.elim (fun t => by omega) (fun t => by rw [e] at t; exact t)⟩)]; exact e, w, fun h hh hw => ?_⟩
        by_cases z : h = n
        · subst z
          have q2 : ¬ (had h).toInt < (had b).toInt := fun t => q ⟨hw, Int32.lt_iff_toInt_lt.mpr t⟩
          unfold gb; omega
        · exact mn h (by omega) hw
/-! the dealing as numbers: each pot's place (0 none) and what each house had -/
abbrev DS := (Nat → Nat) × (Nat → Int32)
def npf (ho : Nat → Nat) (D : DS) : Nat → Nat
  | 0 => 0
  | n + 1 => if D.1 n = 0 ∧ (npf ho D n = 0 ∨ gb D.2 (ho n) (ho (npf ho D n - 1))) then n + 1 else npf ho D n
theorem npf_spec (ho : Nat → Nat) (D : DS) : ∀ n, (npf ho D n = 0 ∧ ∀ p, p < n → ¬ D.1 p = 0) ∨ ∃ q, q < n ∧ npf ho D n = q + 1 ∧ D.1 q = 0 ∧ (∀ p, p < n → D.1 p = 0 → ¬ gb D.2 (ho p) (ho q)) ∧ ∀ p, p < q → D.1 p = 0 → gb D.2 (ho q) (ho p)
  | 0 => Or.inl ⟨rfl, fun h hh => absurd hh (Nat.not_lt_zero h)⟩
  | n + 1 => by
    rcases npf_spec ho D n with ⟨a, b⟩ | ⟨b, hb, e, w, mn, fs⟩
    · by_cases q : D.1 n = 0
      · refine Or.inr ⟨n, by omega, by rw [npf, if_pos ⟨q, Or.inl a⟩], q, fun h hh hw => ?_, fun h hh hw => absurd hw (b h hh)⟩
        by_cases z : h = n
        · subst z; unfold gb; omega
        · exact absurd hw (b h (by omega))
      · refine Or.inl ⟨by rw [npf, if_neg (fun z => q z.1)]; exact a, fun h hh => ?_⟩
        by_cases z : h = n
        · subst z; exact q
        · exact b h (by omega)
    · by_cases q : D.1 n = 0 ∧ gb D.2 (ho n) (ho b)
      · refine Or.inr ⟨n, by omega, by rw [npf, if_pos ⟨q.1, Or.inr (by rw [e]; exact q.2)⟩], q.1, fun h hh hw => ?_, fun h hh hw => ?_⟩
        · have q2 := q.2
          by_cases z : h = n
          · subst z; unfold gb; omega
          · have := mn h (by omega) hw
            unfold gb at this q2 ⊢; omega
        · have q2 := q.2
          have := mn h (by omega) hw
          unfold gb at this q2 ⊢; omega
      · refine Or.inr ⟨b, by omega, by rw [npf, if_neg (fun z => q ⟨z.1, z.2.elim (fun t => by omega) (fun t => by rw [e] at t; exact t)⟩)]; exact e, w, fun h hh hw => ?_, fs⟩
        by_cases z : h = n
        · subst z
          exact fun t => q ⟨hw, t⟩
        · exact mn h (by omega) hw
def dfr (np : Nat) (D : DS) (k : Nat) : Bool := decide (∀ p, p < np → ¬ D.1 p = k + 1)
def dwt (np : Nat) (ho : Nat → Nat) (D : DS) (h : Nat) : Bool := !decide (∀ p, p < np → ¬ (D.1 p = 0 ∧ ho p = h))
theorem dwt_t {np : Nat} {ho : Nat → Nat} {D : DS} {h : Nat} : dwt np ho D h = true ↔ ∃ p, p < np ∧ D.1 p = 0 ∧ ho p = h := by
  unfold dwt
  rw [Bool.not_eq_true', decide_eq_false_iff_not]
  refine ⟨fun z => ?_, fun ⟨p, a, b⟩ z => z p a b⟩
  exact Classical.byContradiction fun y => z fun p hp w => y ⟨p, hp, w⟩
/-- the reference's next house is the next pot's; and the pot is that house's first -/
theorem dho_eq {np nh : Nat} {ho : Nat → Nat} {D : DS} (hh : ∀ p, p < np → ho p < nh) : (npf ho D np = 0 ∧ bhf D.2 (dwt np ho D) nh = 0) ∨ ∃ q, q < np ∧ npf ho D np = q + 1 ∧ bhf D.2 (dwt np ho D) nh = ho q + 1 ∧ D.1 q = 0 ∧ ∀ p, p < q → ¬ (D.1 p = 0 ∧ ho p = ho q) := by
  rcases npf_spec ho D np with ⟨a, b⟩ | ⟨q, hq, e, w, mn, fs⟩
  · left
    refine ⟨a, ?_⟩
    rcases bhf_spec D.2 (dwt np ho D) nh with ⟨c, d⟩ | ⟨c, hc, e, w, _⟩
    · exact c
    · obtain ⟨p, hp, y, _⟩ := dwt_t.mp w
      exact absurd y (b p hp)
  · right
    refine ⟨q, hq, e, ?_, w, fun p hp z => ?_⟩
    · rcases bhf_spec D.2 (dwt np ho D) nh with ⟨c, d⟩ | ⟨c, hc, e, w2, mn2⟩
      · have := d (ho q) (hh q hq)
        rw [dwt_t.mpr ⟨q, hq, w, rfl⟩] at this
        cases this
      · obtain ⟨p, hp, y, y2⟩ := dwt_t.mp w2
        have h1 := mn p hp y
        have h2 := mn2 (ho q) (hh q hq) (dwt_t.mpr ⟨q, hq, w, rfl⟩)
        rw [y2] at h1
        unfold gb at h1 h2
        rw [e]; omega
    · have := fs p hp z.1
      rw [z.2] at this
      unfold gb at this
      omega
def dpl (val : Nat → Int32) (np nc : Nat) (D : DS) : Nat := bpf val (dfr np D) (4 * nc)
def dst (val : Nat → Int32) (np nc : Nat) (ho : Nat → Nat) (D : DS) : DS :=
  (fun p => if p = npf ho D np - 1 then dpl val np nc D else D.1 p, fun h => if h = ho (npf ho D np - 1) then D.2 h + val (dpl val np nc D - 1) else D.2 h)
def don (val : Nat → Int32) (np nc : Nat) (ho : Nat → Nat) (D : DS) : Prop := dpl val np nc D = 0 ∨ npf ho D np = 0
def dit (val : Nat → Int32) (np nc : Nat) (ho : Nat → Nat) (D : DS) : Nat → DS
  | 0 => D
  | k + 1 => dst val np nc ho (dit val np nc ho D k)
theorem dit_ct {val : Nat → Int32} {np nc : Nat} {ho : Nat → Nat} {D : DS} : ∀ k, (∀ i, i < k → ¬ don val np nc ho (dit val np nc ho D i)) → fb_ct (fun p => decide ((dit val np nc ho D k).1 p = 0)) np + k ≤ np
  | 0, _ => fb_ct_le _ np
  | k + 1, h => by
    have ih := dit_ct (val := val) (nc := nc) (ho := ho) (D := D) k (fun i hi => h i (by omega))
    have hk := h k (by omega)
    have hd : dit val np nc ho D (k + 1) = dst val np nc ho (dit val np nc ho D k) := rfl
    rw [hd]
    generalize dit val np nc ho D k = E at ih hk ⊢
    rcases npf_spec ho E np with ⟨a, b⟩ | ⟨q, hq, e, w, -, -⟩
    · exact absurd (Or.inr a) hk
    · have hp : ¬ dpl val np nc E = 0 := fun z => hk (Or.inl z)
      have u := fb_ct_upd (fun p => decide (E.1 p = 0)) false hq
      simp only [w, decide_true, if_true] at u
      have c : fb_ct (fun p => decide ((dst val np nc ho E).1 p = 0)) np = fb_ct (fun k => if k = q then false else decide (E.1 k = 0)) np := by
        refine fb_ct_cong (fun p _ => ?_)
        have es : (dst val np nc ho E).1 p = if p = q then dpl val np nc E else E.1 p := by simp [dst, e]
        by_cases z : p = q
        · rw [if_pos z] at es ⊢; rw [decide_eq_false_iff_not, es]; exact hp
        · rw [if_neg z] at es ⊢; simp only [es]
      rw [c]
      simp only [Bool.false_eq_true, if_false] at u
      omega
def aDc (I : IT) (v np nh : Nat) (D : DS) : Prop := (∀ p, p < np → (D.1 p = 0 ∧ I (pA v p) 4 = -1 ∧ I (pA v p) 5 = -1) ∨ ∃ k, k < 24 ∧ D.1 p = k + 1 ∧ I (pA v p) 4 = nI (k / 4) ∧ I (pA v p) 5 = nI (k % 4)) ∧ (∀ h, h < nh → I (hA v h) 1 = D.2 h) ∧
  ∀ k, k < 24 → (I (v + 17) k = -1 ∧ ∀ p, p < np → ¬ D.1 p = k + 1) ∨ ∃ p, p < np ∧ I (v + 17) k = nI p ∧ D.1 p = k + 1 ∧ ∀ q, q < np → D.1 q = k + 1 → q = p
def frD (v nh : Nat) (I J : IT) : Prop := ∀ a k, a ≠ v + 17 → (a < v + 59 ∨ v + 83 ≤ a ∨ (k ≠ 4 ∧ k ≠ 5)) → (∀ h, h < nh → a ≠ hA v h ∨ k ≠ 1) → J a k = I a k
section DEAL
variable {g : GT} {S : ST} {P : PT} {I I' J K : IT} {Q : QT} {x n m v p np nc nh nl c j ch : Nat} {z lg : Int32} {A A' : Nat → Int32} {ho : Nat → Nat} {D : DS} {val : Nat → Int32}
theorem t_goesBefore {a b : Nat} (hL : LV S P v) (ha : a < 8) (hb : b < 8) (ea : I (hA v a) 1 = D.2 a) (eb : I (hA v b) 1 = D.2 b) (h : Q (some (.int (bi (gb D.2 a b)))) S P I) : T g MX7_goesBefore 0 0 [.ref v, .int (nI a), .int (nI b)] S P I Q := by
  refine T_of rfl (Nat.le_of_ble_eq_true rfl) (s_X7_goesBefore_0 ⟨hL.t, _, hL.p4, hL.t9, a, ixl hL.l9 ha (by decide), _, hL.ph ha, (hL.ho ha).1.1, b, ixl hL.l9 hb (by decide), _, hL.ph hb, (hL.ho hb).1.1, fun q => ?_, fun q => ⟨fun q2 => ?_, fun q2 => ⟨fun q3 => ?_, fun q3 => ?_⟩⟩⟩)
  all_goals rw [ea, eb, Int32.lt_iff_toInt_lt] at q
  · rw [bi_t (by unfold gb; omega)] at h; exact h
  · rw [ea, eb, ← Int32.toInt_inj] at q2
    rw [bi_f (by unfold gb; omega)] at h; exact h
  · rw [ea, eb, ← Int32.toInt_inj] at q2
    rw [nI_cle (by omega) (by omega)] at q3
    rw [bi_f (by unfold gb; omega)] at h; exact h
  · rw [ea, eb, ← Int32.toInt_inj] at q2
    rw [nI_cle (by omega) (by omega)] at q3
    rw [bi_t (by unfold gb; omega)] at h; exact h
theorem npf_le (ho : Nat → Nat) (D : DS) : ∀ n, npf ho D n ≤ n
  | 0 => Nat.le_refl 0
  | n + 1 => by
    have ih := npf_le ho D n
    unfold npf
    split <;> omega
theorem t_nextPot (hL : LV S P v) (hn : I v 11 = nI np) (h24 : np ≤ 24) (h8 : nh ≤ 8) (hp : ∀ p, p < np → (I (pA v p) 4 = -1 ↔ D.1 p = 0) ∧ I (pA v p) 0 = nI (ho p) ∧ ho p < nh) (hh : ∀ h, h < nh → I (hA v h) 1 = D.2 h) (h : Q (some (.int (ob (npf ho D np)))) S P I) : T g MX7_nextPot 0 0 [.ref v] S P I Q := by
  refine T_of rfl (Nat.le_of_ble_eq_true rfl) (s_X7_nextPot_0 ?_)
  have loop : ∀ k i, i + k = np → B g MX7_nextPot 0 0 4 [(0, .ref v), (1, .int (ob (npf ho D i))), (2, .int (nI i))] [] S P I Q := by
    intro k
    induction k with
    | zero =>
      intro i he
      have ei : i = np := by omega
      subst ei
      refine s_X7_nextPot_4 ⟨hL.t, fun _ => h, fun q => ?_⟩
      rw [hn] at q; exact absurd (nI_le (Nat.le_refl _) (by omega)) q
    | succ k ih =>
      intro i he
      have hi : i < np := by omega
      obtain ⟨f1, f2, f3⟩ := hp i hi
      have hs := ih (i + 1) (by omega)
      have hle := npf_le ho D i
      rw [npf] at hs
      generalize npf ho D i = b at hle hs ⊢
      refine s_X7_nextPot_4 ⟨hL.t, fun q => ?_, fun q => ⟨_, hL.p10, hL.t18, i, ixl hL.l18 (by omega) (by decide), _, hL.pp (by omega), hL.po (by omega), fun q1 => ⟨fun q2 => ?_, fun q2 => ?_⟩, fun q1 => ?_⟩⟩
      · rw [hn] at q; exact absurd q (nI_ge (by omega) (by omega))
      · have hb : b = 0 := (ob_m1 (by omega)).mp q2
        rw [if_pos ⟨f1.mp q1, Or.inl hb⟩] at hs
        rw [nI_1]; exact hs
      · have hb : b ≠ 0 := fun z => q2 ((ob_m1 (by omega)).mpr z)
        obtain ⟨g1, g2, g3⟩ := hp (b - 1) (by omega)
        rw [ob_n hb]
        refine ⟨b - 1, ixl hL.l18 (by omega) (by decide), _, hL.pp (by omega), hL.po (by omega), ?_⟩
        rw [f2, g2]
        refine t_goesBefore (D := D) hL (by omega) (by omega) (hh _ f3) (hh _ g3) (s_X7_nextPot_51 ⟨fun q3 => ?_, fun q3 => ?_⟩)
        · have nb : ¬ gb D.2 (ho i) (ho (b - 1)) := fun z => by rw [bi_t z] at q3; exact absurd q3 (by decide)
          rw [if_neg (fun z => z.2.elim hb nb), ob_n hb] at hs
          rw [nI_1]; exact hs
        · have nb : gb D.2 (ho i) (ho (b - 1)) := Classical.byContradiction fun z => q3 (bi_f z)
          rw [if_pos ⟨f1.mp q1, Or.inr nb⟩] at hs
          rw [nI_1]; exact hs
      · rw [if_neg (fun z => q1 (f1.mpr z.1))] at hs
        rw [nI_1]; exact hs
  exact loop np 0 (by omega)
theorem dpl_le : dpl val np nc D ≤ 4 * nc := bpf_le _ _ _
theorem t_dealPlaces (hL : LV S P v) (hn : I v 11 = nI np) (h24 : np ≤ 24) (h8 : nh ≤ 8) (hc : I (v + 13) 0 = nI nc) (h6 : nc ≤ 6) (hv : ∀ k, k < 24 → I (v + 16) k = val k) (hho : ∀ p, p < np → I (pA v p) 0 = nI (ho p) ∧ ho p < nh) (ha : aDc I v np nh D)
    (h : ∀ k J, k ≤ np → (∀ i, i < k → ¬ don val np nc ho (dit val np nc ho D i)) → don val np nc ho (dit val np nc ho D k) → aDc J v np nh (dit val np nc ho D k) → frD v nh I J → Q (some (.int (nI k))) S P J) : T g MX7_dealPlaces 0 0 [.ref v] S P I Q := by
  refine T_of rfl (Nat.le_of_ble_eq_true rfl) (s_X7_dealPlaces_0 ?_)
  have loop : ∀ k i J, i + k = 24 → (∀ j, j < i → ¬ don val np nc ho (dit val np nc ho D j)) → aDc J v np nh (dit val np nc ho D i) → frD v nh I J → B g MX7_dealPlaces 0 0 4 [(0, .ref v), (1, .int (nI i)), (2, .int (nI i))] [] S P J Q := by
    intro k
    induction k with
    | zero =>
      intro i J he a1 a2 a3
      have ei : i = 24 := by omega
      subst ei
      have hct := dit_ct (np := np) 24 a1
      refine s_X7_dealPlaces_4 ⟨fun _ => h 24 J (by omega) a1 (Or.inr ?_) a2 a3, fun q => absurd (by decide) q⟩
      rcases npf_spec ho (dit val np nc ho D 24) np with ⟨e, -⟩ | ⟨q, hq, -, w, -⟩
      · exact e
      · have := fb_ct_zero.mp (show fb_ct (fun p => decide ((dit val np nc ho D 24).1 p = 0)) np = 0 by omega) q hq
        simp [w] at this
    | succ k ih =>
      intro i J he a1 a2 a3
      have hct := dit_ct (np := np) i a1
      have hd : dst val np nc ho (dit val np nc ho D i) = dit val np nc ho D (i + 1) := rfl
      have h0 := h i J
      generalize hE : dit val np nc ho D i = E at a2 hct hd h0
      obtain ⟨d1, d2, d3⟩ := id a2
      have e17 : ∀ k, k < 24 → (decide (J (v + 13 + 4) k = -1)) = dfr np E k := by
        intro k hk
        unfold dfr
        rw [decide_eq_decide]
        rcases d3 k hk with ⟨e, f⟩ | ⟨p, hp, e, f, -⟩
        · exact ⟨fun _ => f, fun _ => e⟩
        · exact ⟨fun z => absurd (e.symm.trans z) (nI_m1 (by omega)), fun z => absurd f (z p hp)⟩
      have e16 : ∀ k, k < 24 → J (v + 13 + 3) k = val k := fun k hk => (a3 _ _ (by omega) (by omega) (fun h _ => by unfold hA; omega)).trans (hv k hk)
      have hpl : bpf (J (v + 13 + 3)) (fun j => decide (J (v + 13 + 4) j = -1)) (4 * nc) = dpl val np nc E := bpf_cong (fun j hj => ⟨e16 j (by omega), e17 j (by omega)⟩)
      have hpo : ∀ p, p < np → J (pA v p) 0 = nI (ho p) ∧ ho p < nh := fun p hp => ⟨(a3 _ _ (by unfold pA; omega) (by omega) (fun h _ => by unfold pA hA; omega)).trans (hho p hp).1, (hho p hp).2⟩
      have h4 : ∀ p, p < np → (J (pA v p) 4 = -1 ↔ E.1 p = 0) := by
        intro p hp
        rcases d1 p hp with ⟨e, f, -⟩ | ⟨k, hk, e, f, -⟩
        · exact ⟨fun _ => e, fun _ => f⟩
        · rw [e, f]; exact ⟨fun z => absurd z (nI_m1 (by omega)), fun z => by omega⟩
      refine s_X7_dealPlaces_4 ⟨fun q => absurd q (nI_ge (b := 24) (by omega) (by decide)), fun q => ⟨hL.t, _, hL.p9, hL.kp, t_bestFreePlace hL.ki ((a3 _ _ (by omega) (by omega) (fun h _ => by unfold hA; omega)).trans hc) h6 (s_X7_dealPlaces_17 ⟨hL.t, t_nextPot (D := E) (ho := ho) (nh := nh) (np := np) hL ((a3 _ _ (by omega) (by omega) (fun h _ => by unfold hA; omega)).trans hn) h24 h8 (fun p hp => ⟨h4 p hp, hpo p hp⟩) d2 (s_X7_dealPlaces_22 ⟨fun q1 => ?_, fun q1 => ⟨fun q2 => ?_, fun q2 => ?_⟩⟩)⟩)⟩⟩
      · rw [hpl] at q1
        have hle := dpl_le (val := val) (np := np) (nc := nc) (D := E)
        exact h0 (by omega) a1 (Or.inl ((ob_m1 (by omega)).mp q1)) a2 a3
      · rw [hpl] at q1 ⊢
        have hle := dpl_le (val := val) (np := np) (nc := nc) (D := E)
        have hp0 : dpl val np nc E ≠ 0 := fun z => q1 ((ob_m1 (by omega)).mpr z)
        have hle2 := npf_le ho E np
        have hn0 : npf ho E np ≠ 0 := fun z => q2 ((ob_m1 (by omega)).mpr z)
        rw [ob_n hp0, ob_n hn0]
        rcases npf_spec ho E np with ⟨e, -⟩ | ⟨q, hq, e, w, -⟩
        · exact absurd e hn0
        rw [e, Nat.add_sub_cancel]
        have hfree : dfr np E (dpl val np nc E - 1) = true := bpf_fr _ _ _ hp0
        have hfr : ∀ p, p < np → ¬ E.1 p = dpl val np nc E - 1 + 1 := of_decide_eq_true hfree
        have hst : dst val np nc ho E = (fun p => if p = q then dpl val np nc E else E.1 p, fun h => if h = ho q then E.2 h + val (dpl val np nc E - 1) else E.2 h) := by unfold dst; rw [e, Nat.add_sub_cancel]
        have nd : ¬ don val np nc ho E := fun z => z.elim hp0 hn0
        generalize hpe : dpl val np nc E = pl at hle hp0 hfr hst hfree ⊢
        obtain ⟨kp, rfl⟩ : ∃ kp, pl = kp + 1 := ⟨pl - 1, by omega⟩
        rw [Nat.add_sub_cancel] at hfr hst hfree ⊢
        have ex4 : nI kp / 4 = nI (kp / 4) := pk_div (a := kp) (d := 4) (by omega) (by decide) (by decide)
        have ex5 : nI kp - nI kp / 4 * 4 = nI (kp % 4) := pk_rem (a := kp) (d := 4) (by omega) (by decide) (by decide)
        obtain ⟨o1, o2⟩ := hpo q hq
        refine ⟨hL.t, _, hL.p9, hL.kp, _, hL.ki.2.1.2.2.2, hL.ki.1.2.2.2.2, kp, ixl hL.ki.2.2.2.2.2 (by omega) (by decide), _, hL.p10, hL.t18, q, ixl hL.l18 (by omega) (by decide), _, hL.pp (by omega), hL.po (by omega), _, hL.p4, hL.t9, ho q, ixe (by rw [u2_a (by unfold pA; omega)]; exact o1) hL.l9 (by omega) (by decide), _, hL.ph (by omega), (hL.ho (by omega)).1.1, _, hL.ki.2.1.2.2.1, hL.ki.1.2.2.2.1, kp, ixl hL.ki.2.2.2.2.1 (by omega) (by decide), ?_⟩
        rw [u2_a (show hA v (ho q) ≠ v + 13 + 4 by unfold hA; omega), u2_a (show v + 13 + 3 ≠ pA v q by unfold pA; omega), u2_a (show v + 13 + 3 ≠ pA v q by unfold pA; omega), u2_a (show v + 13 + 3 ≠ v + 13 + 4 by omega), e16 kp (by omega), d2 _ o2, ex5, ex4, nI_1]
        refine ih (i + 1) _ (by omega) (fun j hj => ?_) ?_ (fun a k g1 g2 g3 => ?_)
        · by_cases z : j = i
          · subst z; rw [hE]; exact nd
          · exact a1 j (by omega)
        · rw [← hd, hst]
          refine ⟨fun p hp => ?_, fun y hy => ?_, fun k hk => ?_⟩
          · dsimp only
            rw [u2_a (show pA v p ≠ hA v (ho q) by unfold pA hA; omega), u2_a (show pA v p ≠ hA v (ho q) by unfold pA hA; omega)]
            by_cases z : p = q
            · subst z
              rw [if_pos rfl, u2_k (by decide), u2_s, u2_s]
              exact Or.inr ⟨kp, by omega, rfl, rfl, rfl⟩
            · have ne : pA v p ≠ pA v q := by unfold pA; omega
              rw [if_neg z, u2_a ne, u2_a ne, u2_a (by unfold pA; omega), u2_a ne, u2_a ne, u2_a (by unfold pA; omega)]
              exact d1 p hp
          · dsimp only
            by_cases z : y = ho q
            · subst z; rw [u2_s, if_pos rfl]
            · rw [u2_a (by unfold hA; omega), u2_a (by unfold pA hA; omega), u2_a (by unfold pA hA; omega), u2_a (by unfold hA; omega), if_neg z]; exact d2 y hy
          · dsimp only
            rw [u2_a (by unfold hA; omega), u2_a (by unfold pA; omega), u2_a (by unfold pA; omega)]
            by_cases z : k = kp
            · subst z
              rw [u2_s]
              refine Or.inr ⟨q, hq, rfl, by rw [if_pos rfl], fun r hr => ?_⟩
              by_cases y : r = q
              · exact fun _ => y
              · rw [if_neg y]; exact fun t => absurd t (hfr r hr)
            · rw [u2_k z]
              rcases d3 k hk with ⟨e, f⟩ | ⟨p, hp, e, f, f2⟩
              · refine Or.inl ⟨e, fun r hr => ?_⟩
                by_cases y : r = q
                · rw [if_pos y]; omega
                · rw [if_neg y]; exact f r hr
              · have hpq : p ≠ q := fun t => by rw [t, w] at f; omega
                refine Or.inr ⟨p, hp, e, by rw [if_neg hpq]; exact f, fun r hr => ?_⟩
                by_cases y : r = q
                · rw [if_pos y]; intro t; omega
                · rw [if_neg y]; exact f2 r hr
        · rw [show u2 _ _ _ _ a k = _ from rfl]
          have := a3 a k g1 g2 g3
          rw [← this]
          have n1 : ∀ (I0 : IT) (w : Int32), u2 I0 (hA v (ho q)) 1 w a k = I0 a k := fun I0 w => by
            rcases g3 (ho q) (by omega) with z | z
            · exact u2_a z
            · exact u2_k z
          rw [n1]
          have n2 : ∀ (I0 : IT) (w : Int32) (b : Nat), (b = 4 ∨ b = 5) → u2 I0 (pA v q) b w a k = I0 a k := fun I0 w b hb => by
            by_cases z : a = pA v q
            · exact u2_k (by unfold pA at z; omega)
            · exact u2_a z
          rw [n2 _ _ _ (Or.inr rfl), n2 _ _ _ (Or.inl rfl), u2_a (by omega)]
      · exact h0 (by omega) a1 (Or.inr ((ob_m1 (by have := npf_le ho E np; omega)).mp q2)) a2 a3
  exact loop 24 0 I (by omega) (fun j hj => absurd hj (Nat.not_lt_zero j)) ha (fun _ _ _ _ _ => rfl)
end DEAL
