section SIMC
variable {g : GT} {S : ST} {P : PT} {I J W : IT} {Q : QT} {x n m r l c : Nat} {K M : Nat → Int32} {v : Nat × Nat × Int32} {A : Nat → Int32}
/-- a line of the class and the same line of the reference -/
theorem RVc1_of (h1 : CLn J K M r l v) (h2 : RLn W K M m l v) (h4 : v.2.1 ≤ 4) (hl : l < 12) (eI : ∀ i j, 1 ≤ i → i ≤ 5 → j < 48 → (i ≤ 2 → j < 12) → I (c + i) j = J (r + 1 + i) j) (eA : ∀ k, k < 18 → A k = W (m + 3) (18 * l + k)) : RVc1 I c l A := by
  obtain ⟨a1, a2, a3⟩ := h1
  obtain ⟨b1, b2, b3⟩ := h2
  refine ⟨?_, v.2.1, h4, ?_, ?_, fun t ht => ?_⟩
  · rw [eA 17 (by decide), b1, eI 1 l (by decide) (by decide) (by omega) (fun _ => hl)]; exact a1.symm
  · rw [eA 0 (by decide)]; exact b2
  · rw [eI 2 l (by decide) (by decide) (by omega) (fun _ => hl)]; exact a2
  · obtain ⟨c0, c1, c2, c3⟩ := a3 t ht
    obtain ⟨-, d1, ⟨s, hs, e1, d2⟩, d3, d4⟩ := b3 t ht
    have ht4 : t < 4 := Nat.lt_of_lt_of_le ht h4
    have q1 : A (1 + 4 * t) = W (m + 3) (18 * l + 1 + 4 * t + 0) := (eA _ (by omega)).trans (by congr 1; omega)
    have q2 : A (2 + 4 * t) = W (m + 3) (18 * l + 1 + 4 * t + 1) := (eA _ (by omega)).trans (by congr 1; omega)
    have q3 : A (3 + 4 * t) = W (m + 3) (18 * l + 1 + 4 * t + 2) := (eA _ (by omega)).trans (by congr 1; omega)
    have q4 : A (4 + 4 * t) = W (m + 3) (18 * l + 1 + 4 * t + 3) := (eA _ (by omega)).trans (by congr 1; omega)
    rw [← q1] at d1
    rw [← q2] at d2
    rw [← q3] at d3
    rw [← q4] at d4
    have i3 := eI 3 (4 * l + t) (by decide) (by decide) (by omega) (fun z => absurd z (by decide))
    have i4 := eI 4 (4 * l + t) (by decide) (by decide) (by omega) (fun z => absurd z (by decide))
    have i5 := eI 5 (4 * l + t) (by decide) (by decide) (by omega) (fun z => absurd z (by decide))
    refine ⟨decide (K (tp K (v.1 + 1) t) = 9), s, hs, ?_, d2, i3.trans (c1.trans e1), ?_, i4.trans (c2.trans ?_), d4.trans (c3.symm.trans i5.symm)⟩
    · rw [d1]
      by_cases k9 : K (tp K (v.1 + 1) t) = 9
      · rw [if_pos k9, decide_eq_true k9]; rfl
      · rw [if_neg k9, decide_eq_false k9]; rfl
    · rcases d3 with ⟨-, e⟩ | ⟨-, e⟩ | ⟨-, e⟩
      · exact Or.inl e
      · exact Or.inr (Or.inr e)
      · exact Or.inr (Or.inl e)
    · by_cases k9 : K (tp K (v.1 + 1) t) = 9
      · rw [if_pos k9, decide_eq_true k9]
        rcases d3 with ⟨e0, e⟩ | ⟨e0, e⟩ | ⟨e0, e⟩ <;> (rw [e0, e]; decide)
      · rw [if_neg k9, decide_eq_false k9]
        rcases d3 with ⟨e0, e⟩ | ⟨e0, e⟩ | ⟨e0, e⟩ <;> (rw [e0, e]; decide)
/-- the state behind custom(), fault or not -/
theorem RV.cus {I' : IT} {A' : Nat → Int32} {w : Nat} (h : RV I w A n) (hI : ∀ a j, w ≤ a → a < w + 83 → a ≠ w → a ≠ w + 1 → (a < w + 3 ∨ w + 9 ≤ a) → I' a j = I a j) (h0 : ∀ j, j ≠ 2 → j ≠ 3 → I' w j = I w j) (ht : I' (w + 1) 1 = 0) (hA : ∀ k, k < 1020 → (k < 6 ∨ 10 ≤ k) → (k < 500 ∨ 716 ≤ k) → A' k = A k) (h7 : A' 7 = 0) (h8 : A' 8 = I' w 2) (h9 : A' 9 = I' w 3) (hc : ∀ nl, RVc I (w + 3) A nl → ∃ nl', RVc I' (w + 3) A' nl') : RV I' w A' (n + 1) := by
  obtain ⟨nh, np, nc, nl, tl, rm, rk, rh, rp, rs, rc, rt⟩ := h
  have hp := rm.2.1.2.2
  obtain ⟨⟨a1, a2, a3⟩, ⟨b1, b2, b3⟩, ⟨c1, c2, c3⟩, ⟨d1, d2, d3, d4, d5⟩, e, f⟩ := rm
  obtain ⟨nl', rc'⟩ := hc nl rc
  have i13 : ∀ j, I' (w + 13) j = I (w + 13) j := fun j => hI _ j (by omega) (by omega) (by omega) (by omega) (by omega)
  refine ⟨nh, np, nc, nl', 0, ⟨⟨by rw [hA 0 (by omega) (by omega) (by omega)]; exact a1, by rw [h0 5 (by decide) (by decide)]; exact a2, a3⟩, ⟨by rw [hA 1 (by omega) (by omega) (by omega)]; exact b1, by rw [h0 11 (by decide) (by decide)]; exact b2, b3⟩, ⟨by rw [hA 2 (by omega) (by omega) (by omega)]; exact c1, by rw [i13]; exact c2, c3⟩, ⟨by rw [hA 5 (by omega) (by omega) (by omega), h0 12 (by decide) (by decide)]; exact d1, h8, h9, by rw [hA 3 (by omega) (by omega) (by omega), i13]; exact d4, by rw [hA 4 (by omega) (by omega) (by omega), i13]; exact d5⟩, fun s hs => ?_, fun q hq => ?_⟩, rk.cong (Nat.le_succ n) (fun j _ => hI _ _ (by omega) (by omega) (by omega) (by omega) (by omega)) (fun j _ => hI _ _ (by omega) (by omega) (by omega) (by omega) (by omega)) (fun k h1 hk => hA k (by omega) (by omega) (by omega)), rh.cong (Nat.le_succ n) (fun a j h1 h2 => hI a j (by omega) (by omega) (by omega) (by omega) (by omega)) (fun k h1 hk => hA k (by omega) (by omega) (by omega)), rp.cong hp (fun a j h1 h2 => hI a j (by omega) (by omega) (by omega) (by omega) (by omega)) (fun k h1 hk => hA k (by omega) (by omega) (by omega)), rs.cong hp (fun j _ => hI _ _ (by omega) (by omega) (by omega) (by omega) (by omega)) (fun p hp2 => hA _ (by omega) (by omega) (by omega)), rc', ⟨⟨h7, ht, by omega⟩, fun j hj => absurd hj (Nat.not_lt_zero j), fun j hj => by rw [hI _ _ (by omega) (by omega) (by omega) (by omega) (by omega)]; exact rt.2.2 j hj⟩⟩
  · rw [hA _ (by omega) (by omega) (by omega), hA _ (by omega) (by omega) (by omega), hI _ _ (by omega) (by omega) (by omega) (by omega) (by omega), hI _ _ (by omega) (by omega) (by omega) (by omega) (by omega)]; exact e s hs
  · rw [hA _ (by omega) (by omega) (by omega), hI _ _ (by omega) (by omega) (by omega) (by omega) (by omega)]; exact f q hq
theorem sim_custom (hS : Sim S P I x n) : SimT g MX8_custom MX9_custom [] x n S P I := by
  obtain ⟨hX, hR, ⟨hZ, hI⟩, hd⟩ := id hS
  have hV := hX.v
  have hM := hX.m
  obtain ⟨nh, np, nc, nl, tl, rm, rk, rh, rp, rs, rc, rt⟩ := id hR
  have h84 := hX.2.2.1
  have h85 := hX.2.2.2.1
  have h91 := hX.2.2.2.2.1
  have hLR : LRd S P (x + 84) (x + 2) := ⟨⟨h84.1, h84.2.1, h84.2.2⟩, h85, ⟨⟨h91.1, h91.2⟩, hV.tp, by omega⟩⟩
  have ht1 : I (x + 2) 1 = nI tl := rt.1.2.1
  have h300 := rt.1.2.2
  have hbytes : ∀ j, j < tl → I (x + 96 + 1) (720 + j) = I (x + 2 + 1) j &&& 255 ∧ fits .byte (.int (I (x + 2 + 1) j)) = true := fun j hj => ⟨rt.2.1 j hj, rt.2.2 j (by omega)⟩
  have htA : I (x + 96 + 1) 7 = nI tl := rt.1.1
  generalize hf : I (x + 2 + 1) = f at hbytes
  generalize hFF : fF (LL f tl) (TX f tl) = FF
  refine T_of rfl (Nat.le_of_ble_eq_true rfl) (s_X8_custom_0 ⟨hX.1.1, _, hX.1.2.2.1, h84.1, t_read hLR (by omega) ht1 h300 (fun J j1 j2 j3 j4 => ?_)⟩)
  rw [hf] at j1 j2 j4
  rw [hFF] at j1 j2 j4
  refine s_X8_custom_7 ⟨hX.1.1, _, hX.1.2.1, hV.t, _, hV.p0, hV.tp.1.1, _, hX.1.2.2.1, h84.1, ?_⟩
  have k1 : ∀ (z : Int32), u2 J (x + 1 + 1) 1 z (x + 84) 1 = FF.1 := fun z => (u2_a (by omega)).trans j1
  rw [k1, u2_a (show x + 84 ≠ x + 1 by omega), u2_a (show x + 84 ≠ x + 1 + 1 by omega), j2]
  generalize hW : u2 (u2 (u2 J (x + 1 + 1) 1 0) (x + 1) 2 FF.1) (x + 1) 3 FF.2 = W
  have w2 : W (x + 1) 2 = FF.1 := by rw [← hW, u2_k (by decide), u2_s]
  have w3 : W (x + 1) 3 = FF.2 := by rw [← hW, u2_s]
  have wt : W (x + 1 + 1) 1 = 0 := by rw [← hW, u2_a (by omega), u2_a (by omega), u2_s]
  have wJ : ∀ a j, a ≠ x + 1 → a ≠ x + 1 + 1 → W a j = J a j := fun a j q1 q2 => by rw [← hW, u2_a q1, u2_a q1, u2_a q2]
  have w0 : ∀ j, j ≠ 2 → j ≠ 3 → W (x + 1) j = I (x + 1) j := fun j q1 q2 => by rw [← hW, u2_k q2, u2_k q1, u2_a (by omega)]; exact j3 _ j (by omega)
  have wI : ∀ a j, (a < x + 84 ∨ x + 95 ≤ a) → a ≠ x + 1 → a ≠ x + 1 + 1 → W a j = I a j := fun a j q1 q2 q3 => (wJ a j q2 q3).trans (j3 a j (by omega))
  clear hW
  -- the reference's call and the end, from a memory Y of the class
  have ref : ∀ (Y : IT) (z : Int32), (∀ a j, (a < x + 1 + 3 ∨ x + 1 + 9 ≤ a) → Y a j = W a j) → (z = if FF.1 = 0 then nI (TX f tl).2.1 else -1) → (FF.1 = 0 → ∀ A : Nat → Int32, (∀ i, i < (TX f tl).2.1 → ∃ V : IT, RLn V (KK f tl) (MM f tl) (x + 96) i ((TX f tl).2.2.2.2 i) ∧ ∀ k, k < 18 → A (500 + 18 * i + k) = V (x + 96 + 3) (18 * i + k)) → A 6 = nI (TX f tl).2.1 → RVc Y (x + 1 + 3) A (TX f tl).2.1) → (¬ FF.1 = 0 → ∀ a j, x + 1 + 3 ≤ a → a < x + 1 + 9 → Y a j = I a j) → T g MX9_custom 0 0 [.ref (x + 96)] S P Y (fun r2 S2 P2 I2 => r2 = some (.int z) ∧ (∃ z2 : Int32, (some (.int z) : Option Value) = some (.int z2)) ∧ Sim S2 P2 I2 x (n + 1)) := by
    intro Y z y1 y2 y3 y4
    have yI : ∀ a j, (a < x + 1 + 3 ∨ x + 1 + 9 ≤ a) → (a < x + 84 ∨ x + 95 ≤ a) → a ≠ x + 1 → a ≠ x + 1 + 1 → Y a j = I a j := fun a j q1 q2 q3 q4 => (y1 a j q1).trans (wI a j q2 q3 q4)
    have yA : ∀ j, Y (x + 96 + 1) j = I (x + 96 + 1) j := fun j => yI _ j (by omega) (by omega) (by omega) (by omega)
    refine t9_custom (f := f) hM ((yA 7).trans htA) h300 (fun j hj => ⟨(yA _).trans (hbytes j hj).1, (hbytes j hj).2⟩) (fun Z z7 z8 z9 zc zn zA zo => ?_)
    rw [hFF] at z8 z9 zc zn ⊢
    refine ⟨by rw [y2], ⟨z, rfl⟩, ?_⟩
    have zI : ∀ a j, a ≠ x + 96 → a ≠ x + 96 + 1 → a ≠ x + 96 + 3 → a ≠ x + 96 + 4 → Z a j = Y a j := zo
    refine hS.step (fun p hp => Or.inl ?_) (fun a j ha => ?_) (fun j hj => ?_) (fun j => ?_) ?_
    · rw [zI _ _ (by unfold pA; omega) (by unfold pA; omega) (by unfold pA; omega) (by unfold pA; omega)]
      exact yI _ _ (by unfold pA; omega) (by unfold pA; omega) (by unfold pA; omega) (by unfold pA; omega)
    · rw [zI _ _ (by omega) (by omega) (by omega) (by omega)]; exact yI _ _ (by omega) (by omega) (by omega) (by omega)
    · rw [zA j (by omega) (by omega)]; exact yA j
    · rw [zI _ _ (by omega) (by omega) (by omega) (by omega)]; exact yI _ _ (by omega) (by omega) (by omega) (by omega)
    · refine hR.cus (fun a j q1 q2 q3 q4 q5 => ?_) (fun j q1 q2 => ?_) ?_ (fun k q1 q2 q3 => (zA k q2 q3).trans (yA k)) z7 ?_ ?_ (fun nl0 rc0 => ?_)
      · rw [zI _ _ (by omega) (by omega) (by omega) (by omega)]; exact yI _ _ (by omega) (by omega) q3 q4
      · rw [zI _ _ (by omega) (by omega) (by omega) (by omega), y1 _ _ (by omega)]; exact w0 j q1 q2
      · rw [zI _ _ (by omega) (by omega) (by omega) (by omega), y1 _ _ (by omega)]; exact wt
      · rw [z8, zI _ _ (by omega) (by omega) (by omega) (by omega), y1 _ _ (by omega)]; exact w2.symm
      · rw [z9, zI _ _ (by omega) (by omega) (by omega) (by omega), y1 _ _ (by omega)]; exact w3.symm
      · by_cases e0 : FF.1 = 0
        · obtain ⟨c6, cc, cl⟩ := zc e0
          have hr := y3 e0 (Z (x + 96 + 1)) (fun i hi => ⟨Z, cl i hi, fun k hk => ?_⟩) c6
          · exact ⟨_, hr.cong (zI _ _ (by omega) (by omega) (by omega) (by omega)) (fun j _ => zI _ _ (by omega) (by omega) (by omega) (by omega)) (fun j _ => zI _ _ (by omega) (by omega) (by omega) (by omega)) (fun j _ => zI _ _ (by omega) (by omega) (by omega) (by omega)) (fun j _ => zI _ _ (by omega) (by omega) (by omega) (by omega)) (fun j _ => zI _ _ (by omega) (by omega) (by omega) (by omega)) rfl (fun _ _ _ => rfl)⟩
          · have h12 : (TX f tl).2.1 ≤ 12 := (j4 e0).1
            rw [show 500 + 18 * i + k = 500 + (18 * i + k) by omega]
            exact cc _ (by omega)
        · obtain ⟨c6, cc⟩ := zn e0
          have yc : ∀ a j, x + 1 + 3 ≤ a → a < x + 1 + 9 → Z a j = I a j := fun a j q1 q2 => (zI _ _ (by omega) (by omega) (by omega) (by omega)).trans (y4 e0 a j q1 q2)
          exact ⟨nl0, rc0.cong (yc _ _ (by omega) (by omega)) (fun j _ => yc _ _ (by omega) (by omega)) (fun j _ => yc _ _ (by omega) (by omega)) (fun j _ => yc _ _ (by omega) (by omega)) (fun j _ => yc _ _ (by omega) (by omega)) (fun j _ => yc _ _ (by omega) (by omega)) (c6.trans (yA 6)) (fun k q1 q2 => (cc k q1 q2).trans (yA k))⟩
  refine ⟨fun e0 => ⟨_, hV.p1, _, h84.2.1, hV.cu.1.1, t_copyCustom hV.cu h85 (Or.inl (by omega)) (fun Y y0 y1 y2 y3 => s_X8_custom_75 ⟨hX.1.1, _, hX.1.2.1, hV.t, _, hV.p1, hV.cu.1.1, ?_⟩)⟩, fun e0 => ?_⟩
  · obtain ⟨l12, dl, dc⟩ := j4 e0
    have eY : Y (x + 1 + 3) 0 = nI (TX f tl).2.1 := by rw [y0, wJ _ _ (by omega) (by omega)]; exact dl
    have eW : ∀ a j, x + 85 ≤ a → a < x + 95 → W a j = J a j := fun a j q1 q2 => wJ a j (by omega) (by omega)
    refine ref Y _ (fun a j q => y3 a j (by omega)) (by rw [if_pos e0]; exact eY) (fun _ A hA h6 => ⟨⟨h6, eY, l12⟩, fun i hi => ?_⟩) (fun q => absurd e0 q)
    obtain ⟨V, v1, v2⟩ := hA i hi
    refine RVc1_of (dc i hi).2 v1 (dc i hi).1 (by omega) (fun k j q1 q2 q3 q4 => ?_) v2
    rcases (show k = 1 ∨ k = 2 ∨ k = 3 ∨ k = 4 ∨ k = 5 by omega) with rfl | rfl | rfl | rfl | rfl
    · rw [(y1 j (q4 (by decide))).1]; exact eW _ _ (by omega) (by omega)
    · rw [(y1 j (q4 (by decide))).2]; exact eW _ _ (by omega) (by omega)
    · rw [(y2 j q3).1]; exact eW _ _ (by omega) (by omega)
    · rw [(y2 j q3).2.1]; exact eW _ _ (by omega) (by omega)
    · rw [(y2 j q3).2.2]; exact eW _ _ (by omega) (by omega)
  · exact ref W (-1) (fun _ _ _ => rfl) (by rw [if_neg e0]) (fun q => absurd q e0) (fun _ a j q1 q2 => wI a j (by omega) (by omega) (by omega))
end SIMC
