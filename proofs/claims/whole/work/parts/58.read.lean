def A0 : AT := fun _ => (0, 0, 0)
def TX (f : Nat → Int32) (n : Nat) : Bool × Nat × Nat × (Int32 × Int32) × AT := tx (KK f n) (MM f n) (LL f n) 301 0 0 (0, -1) A0
def fF (L : Nat → Int32) (R : Bool × Nat × Nat × (Int32 × Int32) × AT) : Int32 × Int32 := if R.1 = true then R.2.2.2.1 else (1, L R.2.2.1)
theorem aset_s (A : AT) (l : Nat) (v : Nat × Nat × Int32) : aset A l v l = v := if_pos rfl
theorem aset_k {A : AT} {l i : Nat} {v : Nat × Nat × Int32} (h : i ≠ l) : aset A l v i = A i := if_neg h
/-- an end comes -/
theorem exE {f : Nat → Int32} {n : Nat} (hn : n ≤ 300) : ∃ E, E ≤ 300 ∧ (KK f n E = 0 ∨ KK f n E = 1) := by
  by_cases h : ∃ E, E ≤ n ∧ KK f n E = 0
  · obtain ⟨E, h1, h2⟩ := h; exact ⟨E, by omega, Or.inl h2⟩
  · exfalso
    have key : ∀ i, i ≤ n + 1 → i ≤ ps f n i := by
      intro i
      induction i with
      | zero => intro _; exact Nat.zero_le _
      | succ i ih =>
        intro hi
        have h1 := ih (by omega)
        have h2 := ps_gt (f := f) (n := n) (i := i) (fun z => h ⟨i, by omega, z⟩)
        omega
    have h1 := key (n + 1) (Nat.le_refl _)
    have h2 := ps_le (f := f) (n := n) (n + 1)
    omega
section READ
variable {g : GT} {S : ST} {P : PT} {I : IT} {Q : QT} {r t n : Nat}
theorem t_read (hL : LRd S P r t) (htr : t + 2 ≤ r) (h1 : I t 1 = nI n) (hn : n ≤ 300)
    (h : ∀ J : IT, J r 1 = (fF (LL (I (t + 1)) n) (TX (I (t + 1)) n)).1 → J r 2 = (fF (LL (I (t + 1)) n) (TX (I (t + 1)) n)).2 → (∀ b j, (b < r ∨ r + 11 ≤ b) → J b j = I b j) → ((fF (LL (I (t + 1)) n) (TX (I (t + 1)) n)).1 = 0 → (TX (I (t + 1)) n).2.1 ≤ 12 ∧ J (r + 1) 0 = nI (TX (I (t + 1)) n).2.1 ∧ ∀ i, i < (TX (I (t + 1)) n).2.1 → ((TX (I (t + 1)) n).2.2.2.2 i).2.1 ≤ 4 ∧ CLn J (KK (I (t + 1)) n) (MM (I (t + 1)) n) r i ((TX (I (t + 1)) n).2.2.2.2 i)) → Q none S P J) : T g MX4_read 0 0 [.ref r] S P I Q := by
  obtain ⟨-, -, p1, p2, p3⟩ := hL.2.2.1.1
  obtain ⟨t1, l1, t2, l2, t3, l3⟩ := hL.2.2.1.2
  have c0 := hL.2.1.1.1
  generalize hR : TX (I (t + 1)) n = R at h
  unfold TX at hR
  refine T_of rfl (Nat.le_of_ble_eq_true rfl) (s_X4_read_0 ⟨hL.1.1, _, hL.1.2.2, hL.2.2.1.1.1, t_scan hL.2.2 h1 hn (fun J E e1 e2 e3 e4 => s_X4_read_7 ⟨hL.1.1, _, hL.1.2.1, c0, ?_⟩)⟩)
  generalize KK (I (t + 1)) n = K at h hR e2 e3
  generalize MM (I (t + 1)) n = M at h hR e2
  generalize LL (I (t + 1)) n = L at h hR e2
  have hT0 : TK J (r + 7) K M L E := ⟨e1, e2, e3⟩
  generalize hW : u2 (u2 (u2 (u2 J r 4 0) r 1 0) r 2 (-1)) (r + 1) 0 0 = W
  have wf : ∀ b j, b ≠ r → b ≠ r + 1 → W b j = J b j := fun b j q1 q2 => by rw [← hW, u2_a q2, u2_a q1, u2_a q1, u2_a q1]
  have hT : TK W (r + 7) K M L E := hT0.mv (fun b j hb => wf b j (by omega) (by omega))
  have w4 : W r 4 = nI 0 := by rw [← hW, u2_a (by omega), u2_k (by decide), u2_k (by decide), u2_s]; rfl
  have w1 : W r 1 = 0 := by rw [← hW, u2_a (by omega), u2_k (by decide), u2_s]
  have w2 : W r 2 = -1 := by rw [← hW, u2_a (by omega), u2_s]
  have wl : W (r + 1) 0 = nI 0 := by rw [← hW, u2_s]; rfl
  have wI : ∀ b j, (b < r ∨ r + 11 ≤ b) → W b j = I b j := fun b j hb => (wf b j (by omega) (by omega)).trans (e4 b j (by omega))
  have loop : ∀ k l a F A V, E < a + k → a ≤ E → 2 * l ≤ a → RS1 V r a F → (∀ b j, (b < r ∨ r + 7 ≤ b) → V b j = W b j) → (F.1 = 0 → l ≤ 12 ∧ V (r + 1) 0 = nI l ∧ ∀ i, i < l → (A i).2.1 ≤ 4 ∧ CLn V K M r i (A i)) → tx K M L k l a F A = R → B g MX4_read 0 0 34 [(0, .ref r), (1, .int 1), (2, .int (nI l))] [] S P V Q := by
    intro k
    induction k with
    | zero => intro l a F A V g1 g2; omega
    | succ k ih =>
      intro l a F A V g1 g2 g3 g4 g5 g6 g7
      have hTV : TK V (r + 7) K M L E := hT.mv (fun b j hb => g5 b j (by omega))
      obtain ⟨eK, eM, eL⟩ := hTV.2.1 a g2
      refine s_X4_read_34 ⟨fun q => absurd q (nI_ge (b := 300) (by omega) (by decide)), fun _ => ⟨fun q => n10 q, fun _ => ⟨hL.1.1, _, hL.1.2.2, hL.2.2.1.1.1, _, p1, t1, a, ixe g4.1 l1 (by omega) (by decide), ?_⟩⟩⟩
      rw [eK]
      refine ⟨fun z => t_readLine hL hTV g4 g2 (by omega) (fun V2 a1 a2 a3 a4 a5 a6 => s_X4_read_58 ?_), fun z => ?_⟩
      · rw [tx, if_neg z] at g7
        rw [nI_1]
        have f2' : ∀ b j, (b < r ∨ r + 7 ≤ b) → V2 b j = W b j := fun b j hb => (a3 b j hb).trans (g5 b j hb)
        cases ho : (ln K M L l a F).1 with
        | true =>
          rw [if_pos ho] at g7
          have hge := ln_ge ho
          refine ih (l + 1) _ _ _ V2 (by omega) a1 (by omega) a2 f2' (fun h0 => ?_) g7
          obtain ⟨b1, b2, b3, b4⟩ := ln_0 ho h0
          obtain ⟨d1, d2, d3⟩ := g6 b4
          refine ⟨by omega, a5 b2, fun i hi => ?_⟩
          by_cases e : i = l
          · subst e
            rw [aset_s]
            exact ⟨b3, a6 b2 ho b3⟩
          · rw [aset_k e]
            exact ⟨(d3 i (by omega)).1, (d3 i (by omega)).2.mv (d3 i (by omega)).1 (a4 i (by omega))⟩
        | false =>
          have hno : ¬ (ln K M L l a F).1 = true := by rw [ho]; decide
          rw [if_neg hno] at g7
          subst g7
          have hT2 : TK V2 (r + 7) K M L E := hT.mv (fun b j hb => f2' b j (by omega))
          obtain ⟨eK2, eM2, eL2⟩ := hT2.2.1 _ a1
          have fin : B g MX4_read 0 0 65 [(0, .ref r), (1, .int 0), (2, .int (nI (l + 1)))] [] S P V2 Q := by
            refine s_X4_read_65 ⟨fun q => absurd rfl q, fun _ => ⟨hL.1.1, _, hL.1.2.2, hL.2.2.1.1.1, _, p3, t3, _, ixe a2.1 l3 (by omega) (by decide), ?_⟩⟩
            rw [u2_a (show r + 7 + 3 ≠ r by omega), eL2]
            refine h _ ?_ ?_ (fun b j hb => ?_) (fun q => ?_)
            · rw [u2_k (by decide), u2_s]; rfl
            · rw [u2_s]; rfl
            · rw [u2_a (by omega), u2_a (by omega), f2' b j (by omega)]; exact wI b j hb
            · exact n10 q
          exact s_X4_read_34 ⟨fun _ => fin, fun _ => ⟨fun _ => fin, fun q => absurd rfl q⟩⟩
      · rw [tx, if_pos z] at g7
        subst g7
        exact s_X4_read_65 ⟨fun _ => h V g4.2.1 g4.2.2 (fun b j hb => (g5 b j (by omega)).trans (wI b j hb)) g6, fun q => n10 q⟩
  exact loop 301 0 0 (0, -1) A0 W (by omega) (by omega) (by omega) ⟨w4, w1, w2⟩ (fun _ _ _ => rfl) (fun _ => ⟨by omega, wl, fun i hi => absurd hi (Nat.not_lt_zero i)⟩) hR
end READ
