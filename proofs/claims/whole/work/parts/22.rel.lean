/-! a village's memory and the reference's row: the same words -/
def RVm (I : IT) (v : Nat) (A : Nat → Int32) (nh np nc : Nat) : Prop :=
  (A 0 = nI nh ∧ I v 5 = nI nh ∧ nh ≤ 8) ∧ (A 1 = nI np ∧ I v 11 = nI np ∧ np ≤ 24) ∧ (A 2 = nI nc ∧ I (v + 13) 0 = nI nc ∧ 2 ≤ nc ∧ nc ≤ 6) ∧
  (A 5 = I v 12 ∧ A 8 = I v 2 ∧ A 9 = I v 3 ∧ A 3 = I (v + 13) 1 ∧ A 4 = I (v + 13) 2) ∧
  (∀ s, s < 5 → A (40 + 2 * s) = I (v + 10) s ∧ A (41 + 2 * s) = I (v + 11) s) ∧ (∀ q, q < 4 → A (50 + q) = I (v + 12) q)
def RVk (I : IT) (v : Nat) (A : Nat → Int32) (n : Nat) : Prop :=
  (∀ c, c < 6 → A (10 + c) = I (v + 14) c ∧ 20 ≤ (A (10 + c)).toInt ∧ (A (10 + c)).toInt ≤ 20 + 540 * n) ∧
  (∀ k, k < 24 → A (16 + k) = I (v + 16) k ∧ ∃ vl : Nat, A (16 + k) = nI vl ∧ 1 ≤ vl ∧ vl ≤ 99)
def RVo (I : IT) (H : Nat) (A : Nat → Int32) (no : Nat) (d u : Nat → Nat) : Prop :=
  (A 4 = nI no ∧ I H 4 = nI no ∧ no ≤ 8) ∧ (∀ i, i < no → (A (5 + 3 * i) = nI (d i) ∧ I (H + 1) i = nI (d i) ∧ d i ≤ 30) ∧ (A (6 + 3 * i) = nI (u i) ∧ I (H + 2) i = nI (u i) ∧ u i ≤ 200) ∧ A (7 + 3 * i) = I (H + 3) i) ∧
  (∀ r, r < no → I (H + 4) r = nI ((sl u no).getD r 0))
def RVh1 (I : IT) (H : Nat) (A : Nat → Int32) (n : Nat) : Prop :=
  A 0 = I H 0 ∧ (A 1 = I H 1 ∧ ∃ hd : Nat, A 1 = nI hd ∧ hd ≤ 2376 * n) ∧ (A 2 = I H 2 ∧ (A 2 = 0 ∨ A 2 = 1)) ∧ A 3 = I H 3 ∧ ∃ (no : Nat) (d u : Nat → Nat), RVo I H A no d u
def RVh (I : IT) (v : Nat) (A : Nat → Int32) (nh n : Nat) : Prop :=
  ∀ h, h < 8 → (h < nh → RVh1 I (hA v h) (fun i => A (60 + 30 * h + i)) n) ∧ (nh ≤ h → I (hA v h) 0 = 0 ∧ I (hA v h) 1 = 0 ∧ I (hA v h) 2 = 0 ∧ I (hA v h) 3 = 0 ∧ I (hA v h) 4 = 0)
def RVp1 (I : IT) (a : Nat) (A : Nat → Int32) (nh nc : Nat) : Prop :=
  (A 0 = I a 0 ∧ ∃ z : Nat, z < nh ∧ A 0 = nI z) ∧ (A 1 = I a 1 ∧ ∃ z : Nat, z < 5 ∧ A 1 = nI z) ∧ (A 2 = I a 2 ∧ ∃ z : Nat, z < 4 ∧ A 2 = nI z) ∧ (A 3 = I a 3 ∧ ∃ z : Nat, z < 10 ∧ A 3 = nI z) ∧ (A 5 = I a 6 ∧ (A 5 = 0 ∨ A 5 = 1)) ∧ A 6 = I a 7 ∧
  ((A 4 = -1 ∧ I a 4 = -1 ∧ I a 5 = -1) ∨ ∃ c s : Nat, c < nc ∧ s < 4 ∧ A 4 = nI (4 * c + s) ∧ I a 4 = nI c ∧ I a 5 = nI s)
def RVp (I : IT) (v : Nat) (A : Nat → Int32) (nh np nc : Nat) : Prop := ∀ p, p < np → RVp1 I (pA v p) (fun i => A (300 + 8 * p + i)) nh nc
def RVs (I : IT) (v : Nat) (A : Nat → Int32) (np : Nat) : Prop :=
  ∀ k, k < 24 → (I (v + 17) k = -1 ∧ ∀ p, p < np → A (300 + 8 * p + 4) ≠ nI k) ∨ ∃ p, p < np ∧ I (v + 17) k = nI p ∧ A (300 + 8 * p + 4) = nI k ∧ ∀ q, q < np → A (300 + 8 * q + 4) = nI k → q = p
/-- a relation's bits: 1 less, 2 same, 4 more; a 'not' is the others -/
def rel (b : Bool) (sg : Int32) : Int32 := if b then 7 - (if sg = 60 then 1 else if sg = 62 then 4 else 2) else (if sg = 60 then 1 else if sg = 62 then 4 else 2)
def RVc1 (I : IT) (c l : Nat) (A : Nat → Int32) : Prop :=
  A 17 = I (c + 1) l ∧ ∃ nt : Nat, nt ≤ 4 ∧ A 0 = nI nt ∧ I (c + 2) l = nI nt ∧ ∀ t, t < nt → ∃ (b : Bool) (sb : Nat), sb < 7 ∧ A (1 + 4 * t) = (if b then 1 else 0) ∧ A (2 + 4 * t) = nI (sb + 1) ∧ I (c + 3) (4 * l + t) = nI sb ∧ (A (3 + 4 * t) = 60 ∨ A (3 + 4 * t) = 62 ∨ A (3 + 4 * t) = 61) ∧ I (c + 4) (4 * l + t) = rel b (A (3 + 4 * t)) ∧ A (4 + 4 * t) = I (c + 5) (4 * l + t)
def RVc (I : IT) (c : Nat) (A : Nat → Int32) (nl : Nat) : Prop := (A 6 = nI nl ∧ I c 0 = nI nl ∧ nl ≤ 12) ∧ ∀ l, l < nl → RVc1 I c l (fun i => A (500 + 18 * l + i))
def RVt (I : IT) (v : Nat) (A : Nat → Int32) (tl : Nat) : Prop := (A 7 = nI tl ∧ I (v + 1) 1 = nI tl ∧ tl ≤ 300) ∧ (∀ j, j < tl → A (720 + j) = I (v + 2) j &&& 255) ∧ ∀ j, j < 300 → fits .byte (.int (I (v + 2) j)) = true
def RV (I : IT) (v : Nat) (A : Nat → Int32) (n : Nat) : Prop := ∃ nh np nc nl tl : Nat, RVm I v A nh np nc ∧ RVk I v A n ∧ RVh I v A nh n ∧ RVp I v A nh np nc ∧ RVs I v A np ∧ RVc I (v + 3) A nl ∧ RVt I v A tl
section CONG
variable {I I' : IT} {v : Nat} {A A' : Nat → Int32}
theorem RVm.cong {nh np nc : Nat} (h : RVm I v A nh np nc) (h1 : ∀ j, I' v j = I v j) (h2 : ∀ j, I' (v + 13) j = I (v + 13) j) (h3 : ∀ j, j < 5 → I' (v + 10) j = I (v + 10) j) (h4 : ∀ j, j < 5 → I' (v + 11) j = I (v + 11) j) (h5 : ∀ j, j < 4 → I' (v + 12) j = I (v + 12) j) (hA : ∀ k, (k < 10 ∨ (40 ≤ k ∧ k < 54)) → A' k = A k) : RVm I' v A' nh np nc := by
  obtain ⟨⟨a1, a2, a3⟩, ⟨b1, b2, b3⟩, ⟨c1, c2, c3⟩, ⟨d1, d2, d3, d4, d5⟩, e, f⟩ := h
  refine ⟨⟨by rw [hA 0 (by omega)]; exact a1, by rw [h1]; exact a2, a3⟩, ⟨by rw [hA 1 (by omega)]; exact b1, by rw [h1]; exact b2, b3⟩, ⟨by rw [hA 2 (by omega)]; exact c1, by rw [h2]; exact c2, c3⟩, ⟨by rw [hA 5 (by omega), h1]; exact d1, by rw [hA 8 (by omega), h1]; exact d2, by rw [hA 9 (by omega), h1]; exact d3, by rw [hA 3 (by omega), h2]; exact d4, by rw [hA 4 (by omega), h2]; exact d5⟩, fun s hs => ?_, fun q hq => ?_⟩
  · rw [hA _ (by omega), hA _ (by omega), h3 s hs, h4 s hs]; exact e s hs
  · rw [hA _ (by omega), h5 q hq]; exact f q hq
theorem RVk.cong {n n' : Nat} (h : RVk I v A n) (hn : n ≤ n') (h1 : ∀ j, j < 6 → I' (v + 14) j = I (v + 14) j) (h2 : ∀ j, j < 24 → I' (v + 16) j = I (v + 16) j) (hA : ∀ k, 10 ≤ k → k < 40 → A' k = A k) : RVk I' v A' n' := by
  refine ⟨fun c hc => ?_, fun k hk => ?_⟩
  · rw [hA _ (by omega) (by omega), h1 c hc]
    have := h.1 c hc
    exact ⟨this.1, this.2.1, by omega⟩
  · rw [hA _ (by omega) (by omega), h2 k hk]; exact h.2 k hk
theorem RVo.cong {H no : Nat} {d u : Nat → Nat} (h : RVo I H A no d u) (h0 : I' H 4 = I H 4) (h1 : ∀ j, j < 8 → I' (H + 1) j = I (H + 1) j) (h2 : ∀ j, j < 8 → I' (H + 2) j = I (H + 2) j) (h3 : ∀ j, j < 8 → I' (H + 3) j = I (H + 3) j) (h4 : ∀ j, j < 8 → I' (H + 4) j = I (H + 4) j) (hA : ∀ k, 4 ≤ k → k < 30 → A' k = A k) : RVo I' H A' no d u := by
  obtain ⟨⟨a1, a2, a3⟩, b, c⟩ := h
  refine ⟨⟨by rw [hA 4 (by omega) (by omega)]; exact a1, by rw [h0]; exact a2, a3⟩, fun i hi => ?_, fun r hr => by rw [h4 r (by omega)]; exact c r hr⟩
  rw [hA _ (by omega) (by omega), hA _ (by omega) (by omega), hA _ (by omega) (by omega), h1 i (by omega), h2 i (by omega), h3 i (by omega)]
  exact b i hi
theorem RVh1.cong {H n n' : Nat} (h : RVh1 I H A n) (hn : n ≤ n') (h0 : ∀ j, I' H j = I H j) (h1 : ∀ j, j < 8 → I' (H + 1) j = I (H + 1) j) (h2 : ∀ j, j < 8 → I' (H + 2) j = I (H + 2) j) (h3 : ∀ j, j < 8 → I' (H + 3) j = I (H + 3) j) (h4 : ∀ j, j < 8 → I' (H + 4) j = I (H + 4) j) (hA : ∀ k, k < 30 → A' k = A k) : RVh1 I' H A' n' := by
  obtain ⟨a, ⟨b1, hd, b2, b3⟩, c, d, no, dd, uu, e⟩ := h
  refine ⟨by rw [hA 0 (by omega), h0]; exact a, ⟨by rw [hA 1 (by omega), h0]; exact b1, hd, by rw [hA 1 (by omega)]; exact b2, Nat.le_trans b3 (Nat.mul_le_mul_left _ hn)⟩, by rw [hA 2 (by omega), h0]; exact c, by rw [hA 3 (by omega), h0]; exact d, no, dd, uu, e.cong (h0 4) h1 h2 h3 h4 (fun k _ hk => hA k hk)⟩
theorem RVh.cong {nh n n' : Nat} (h : RVh I v A nh n) (hn : n ≤ n') (hI : ∀ a j, v + 19 ≤ a → a < v + 59 → I' a j = I a j) (hA2 : ∀ k, 60 ≤ k → k < 300 → A' k = A k) : RVh I' v A' nh n' := by
  intro q hq
  obtain ⟨h1, h2⟩ := h q hq
  have e : ∀ k j, k < 5 → I' (hA v q + k) j = I (hA v q + k) j := fun k j hk => hI _ _ (by unfold hA; omega) (by unfold hA; omega)
  refine ⟨fun hh => (h1 hh).cong hn (fun j => e 0 j (by decide)) (fun j _ => e 1 j (by decide)) (fun j _ => e 2 j (by decide)) (fun j _ => e 3 j (by decide)) (fun j _ => e 4 j (by decide)) (fun k hk => hA2 _ (by omega) (by omega)), fun hh => ?_⟩
  have e0 := fun j => e 0 j (by decide)
  simp only [Nat.add_zero] at e0
  rw [e0, e0, e0, e0, e0]
  exact h2 hh
theorem RVp1.cong {a nh nc : Nat} (h : RVp1 I a A nh nc) (h0 : ∀ j, I' a j = I a j) (hA : ∀ k, k < 8 → A' k = A k) : RVp1 I' a A' nh nc := by
  unfold RVp1 at h ⊢
  rw [hA 0 (by omega), hA 1 (by omega), hA 2 (by omega), hA 3 (by omega), hA 4 (by omega), hA 5 (by omega), hA 6 (by omega)]
  simp only [h0]
  exact h
theorem RVp.cong {nh np nc : Nat} (h : RVp I v A nh np nc) (hp : np ≤ 24) (hI : ∀ a j, v + 59 ≤ a → a < v + 83 → I' a j = I a j) (hA2 : ∀ k, 300 ≤ k → k < 492 → A' k = A k) : RVp I' v A' nh np nc :=
  fun p hpp => (h p hpp).cong (fun j => hI _ _ (by unfold pA; omega) (by unfold pA; omega)) (fun k hk => hA2 _ (by omega) (by omega))
theorem RVs.cong {np : Nat} (h : RVs I v A np) (hp : np ≤ 24) (h1 : ∀ j, j < 24 → I' (v + 17) j = I (v + 17) j) (hA2 : ∀ p, p < np → A' (300 + 8 * p + 4) = A (300 + 8 * p + 4)) : RVs I' v A' np := by
  intro k hk
  rw [h1 k hk]
  rcases h k hk with ⟨a, b⟩ | ⟨p, a, b, c, d⟩
  · exact Or.inl ⟨a, fun p hp => by rw [hA2 p hp]; exact b p hp⟩
  · exact Or.inr ⟨p, a, b, by rw [hA2 p a]; exact c, fun q hq => by rw [hA2 q hq]; exact d q hq⟩
theorem RVc1.cong {c l : Nat} (h : RVc1 I c l A) (hl : l < 12) (h1 : ∀ j, j < 12 → I' (c + 1) j = I (c + 1) j) (h2 : ∀ j, j < 12 → I' (c + 2) j = I (c + 2) j) (h3 : ∀ j, j < 48 → I' (c + 3) j = I (c + 3) j) (h4 : ∀ j, j < 48 → I' (c + 4) j = I (c + 4) j) (h5 : ∀ j, j < 48 → I' (c + 5) j = I (c + 5) j) (hA2 : ∀ k, k < 18 → A' k = A k) : RVc1 I' c l A' := by
  obtain ⟨c1, nt, c2, c3, c4, c5⟩ := h
  refine ⟨by rw [h1 l hl, hA2 17 (by omega)]; exact c1, nt, c2, by rw [hA2 0 (by omega)]; exact c3, by rw [h2 l hl]; exact c4, fun t ht => ?_⟩
  rw [hA2 (1 + 4 * t) (by omega), hA2 (2 + 4 * t) (by omega), hA2 (3 + 4 * t) (by omega), hA2 (4 + 4 * t) (by omega), h3 _ (by omega), h4 _ (by omega), h5 _ (by omega)]
  exact c5 t ht
theorem RVc.cong {c nl : Nat} (h : RVc I c A nl) (h0 : I' c 0 = I c 0) (h1 : ∀ j, j < 12 → I' (c + 1) j = I (c + 1) j) (h2 : ∀ j, j < 12 → I' (c + 2) j = I (c + 2) j) (h3 : ∀ j, j < 48 → I' (c + 3) j = I (c + 3) j) (h4 : ∀ j, j < 48 → I' (c + 4) j = I (c + 4) j) (h5 : ∀ j, j < 48 → I' (c + 5) j = I (c + 5) j) (hA6 : A' 6 = A 6) (hA2 : ∀ k, 500 ≤ k → k < 716 → A' k = A k) : RVc I' c A' nl := by
  obtain ⟨⟨a1, a2, a3⟩, b⟩ := h
  exact ⟨⟨by rw [hA6]; exact a1, by rw [h0]; exact a2, a3⟩, fun l hl => (b l hl).cong (by omega) h1 h2 h3 h4 h5 (fun k hk => hA2 _ (by omega) (by omega))⟩
theorem RVt.cong {tl : Nat} (h : RVt I v A tl) (h0 : I' (v + 1) 1 = I (v + 1) 1) (h1 : ∀ j, j < 300 → I' (v + 2) j = I (v + 2) j) (hA7 : A' 7 = A 7) (hA2 : ∀ k, 720 ≤ k → k < 1020 → A' k = A k) : RVt I' v A' tl := by
  obtain ⟨⟨a1, a2, a3⟩, b, c⟩ := h
  refine ⟨⟨by rw [hA7]; exact a1, by rw [h0]; exact a2, a3⟩, fun j hj => by rw [hA2 _ (by omega) (by omega), h1 j (by omega)]; exact b j hj, fun j hj => by rw [h1 j hj]; exact c j hj⟩
theorem RV.cong {n n' : Nat} (h : RV I v A n) (hn : n ≤ n') (hI : ∀ a j, v ≤ a → a < v + 83 → I' a j = I a j) (hA : ∀ k, k < 1020 → A' k = A k) : RV I' v A' n' := by
  obtain ⟨nh, np, nc, nl, tl, h1, h2, h3, h4, h5, h6, h7⟩ := h
  have hp := h1.2.1.2.2
  exact ⟨nh, np, nc, nl, tl, h1.cong (fun j => hI _ _ (by omega) (by omega)) (fun j => hI _ _ (by omega) (by omega)) (fun j _ => hI _ _ (by omega) (by omega)) (fun j _ => hI _ _ (by omega) (by omega)) (fun j _ => hI _ _ (by omega) (by omega)) (fun k hk => hA k (by omega)),
    h2.cong hn (fun j _ => hI _ _ (by omega) (by omega)) (fun j _ => hI _ _ (by omega) (by omega)) (fun k _ hk => hA k (by omega)), h3.cong hn (fun a j h1 h2 => hI a j (by omega) (by omega)) (fun k _ hk => hA k (by omega)), h4.cong hp (fun a j h1 h2 => hI a j (by omega) (by omega)) (fun k _ hk => hA k (by omega)), h5.cong hp (fun j _ => hI _ _ (by omega) (by omega)) (fun p hp2 => hA _ (by omega)),
    h6.cong (hI _ _ (by omega) (by omega)) (fun j _ => hI _ _ (by omega) (by omega)) (fun j _ => hI _ _ (by omega) (by omega)) (fun j _ => hI _ _ (by omega) (by omega)) (fun j _ => hI _ _ (by omega) (by omega)) (fun j _ => hI _ _ (by omega) (by omega)) (hA 6 (by omega)) (fun k _ hk => hA k (by omega)), h7.cong (hI _ _ (by omega) (by omega)) (fun j _ => hI _ _ (by omega) (by omega)) (hA 7 (by omega)) (fun k _ hk => hA k (by omega))⟩
end CONG
/-! the two objects together; x the class's, x + 96 the reference's -/
def LX (S : ST) (P : PT) (x : Nat) : Prop :=
  (sT S x = 9 ∧ P x 0 = x + 1 + 1 ∧ P x 1 = x + 84 + 1 ∧ P x 2 = x + 95 + 1) ∧ LV S P (x + 1) ∧
  (sT S (x + 84) = 5 ∧ P (x + 84) 0 = x + 85 + 1 ∧ P (x + 84) 3 = x + 91 + 1) ∧ LC S P (x + 85) ∧
  ((sT S (x + 91) = 7 ∧ P (x + 91) 0 = x + 2 + 1 ∧ P (x + 91) 1 = x + 92 + 1 ∧ P (x + 91) 2 = x + 93 + 1 ∧ P (x + 91) 3 = x + 94 + 1) ∧ (sT S (x + 92) = 40 ∧ sL S (x + 92) = 301 ∧ sT S (x + 93) = 40 ∧ sL S (x + 93) = 301 ∧ sT S (x + 94) = 40 ∧ sL S (x + 94) = 301)) ∧
  (sT S (x + 95) = 45 ∧ sL S (x + 95) = 3) ∧ LM S P (x + 96) ∧ x + 102 ≤ sN S
/-- a pot's 'cracked' is 0 or 1, also of one that no call tells of -/
def ZB (I : IT) (v : Nat) : Prop := ∀ p, p < 24 → I (pA v p) 6 = 0 ∨ I (pA v p) 6 = 1
def IM (S : ST) (P : PT) (I : IT) (x n k : Nat) : Prop :=
  (P (x + 95) k = 0 ∧ I (x + 96 + 2) k = 0) ∨ ∃ w, P (x + 95) k = w + 1 ∧ I (x + 96 + 2) k = 1 ∧ LV S P w ∧ x + 102 ≤ w ∧ w + 83 ≤ sN S ∧ RV I w (fun j => I (x + 96 + 1) (1020 * (k + 1) + j)) n ∧ ZB I w
def Sim (S : ST) (P : PT) (I : IT) (x n : Nat) : Prop :=
  LX S P x ∧ RV I (x + 1) (I (x + 96 + 1)) n ∧ (ZB I (x + 1) ∧ ∀ k, k < 3 → IM S P I x n k) ∧ ∀ k k' w w', k < 3 → k' < 3 → k ≠ k' → P (x + 95) k = w + 1 → P (x + 95) k' = w' + 1 → w + 83 ≤ w' ∨ w' + 83 ≤ w
theorem Sim.step {S : ST} {P : PT} {I I' : IT} {x n : Nat} (h : Sim S P I x n) (hz : ∀ p, p < 24 → I' (pA (x + 1) p) 6 = I (pA (x + 1) p) 6 ∨ (I' (pA (x + 1) p) 6 = 0 ∨ I' (pA (x + 1) p) 6 = 1)) (h1 : ∀ a j, x + 102 ≤ a → I' a j = I a j) (h2 : ∀ j, 1020 ≤ j → I' (x + 96 + 1) j = I (x + 96 + 1) j) (h3 : ∀ j, I' (x + 96 + 2) j = I (x + 96 + 2) j) (h4 : RV I' (x + 1) (I' (x + 96 + 1)) (n + 1)) : Sim S P I' x (n + 1) := by
  refine ⟨h.1, h4, ⟨fun p hp => (hz p hp).elim (fun z => by rw [z]; exact h.2.2.1.1 p hp) id, fun k hk => ?_⟩, h.2.2.2⟩
  rcases h.2.2.1.2 k hk with ⟨a, b⟩ | ⟨w, a, b, c, d, e, f, q⟩
  · exact Or.inl ⟨a, by rw [h3]; exact b⟩
  · exact Or.inr ⟨w, a, by rw [h3]; exact b, c, d, e, f.cong (Nat.le_succ n) (fun q j g1 _ => h1 q j (by omega)) (fun j hj => h2 _ (by omega)), fun p hp => by rw [h1 _ _ (by unfold pA; omega)]; exact q p hp⟩
theorem Sim.up {S : ST} {P : PT} {I : IT} {x n : Nat} (h : Sim S P I x n) : Sim S P I x (n + 1) :=
  h.step (fun _ _ => Or.inl rfl) (fun _ _ _ => rfl) (fun _ _ => rfl) (fun _ => rfl) (h.2.1.cong (Nat.le_succ n) (fun _ _ _ _ => rfl) (fun _ _ => rfl))
section RVS
variable {I I' : IT} {v n : Nat} {A A' : Nat → Int32}
theorem RV.tw (h : RV I v A n) (hI : ∀ a j, v ≤ a → a < v + 83 → a ≠ v + 1 → a ≠ v + 2 → I' a j = I a j) (hA : ∀ k, k < 720 → k ≠ 7 → A' k = A k) (ht : ∀ tl, RVt I v A tl → ∃ tl', RVt I' v A' tl') : RV I' v A' (n + 1) := by
  obtain ⟨nh, np, nc, nl, tl, h1, h2, h3, h4, h5, h6, h7⟩ := h
  have hp := h1.2.1.2.2
  obtain ⟨tl', h7'⟩ := ht tl h7
  obtain ⟨⟨a1, a2, a3⟩, ⟨b1, b2, b3⟩, ⟨c1, c2, c3⟩, ⟨d1, d2, d3, d4, d5⟩, e, f⟩ := h1
  have hv : ∀ j, I' v j = I v j := fun j => hI v j (by omega) (by omega) (by omega) (by omega)
  have hv13 : ∀ j, I' (v + 13) j = I (v + 13) j := fun j => hI _ j (by omega) (by omega) (by omega) (by omega)
  refine ⟨nh, np, nc, nl, tl', ⟨⟨by rw [hA 0 (by omega) (by omega)]; exact a1, by rw [hv]; exact a2, a3⟩, ⟨by rw [hA 1 (by omega) (by omega)]; exact b1, by rw [hv]; exact b2, b3⟩, ⟨by rw [hA 2 (by omega) (by omega)]; exact c1, by rw [hv13]; exact c2, c3⟩, ⟨by rw [hA 5 (by omega) (by omega), hv]; exact d1, by rw [hA 8 (by omega) (by omega), hv]; exact d2, by rw [hA 9 (by omega) (by omega), hv]; exact d3, by rw [hA 3 (by omega) (by omega), hv13]; exact d4, by rw [hA 4 (by omega) (by omega), hv13]; exact d5⟩, fun s hs => ?_, fun q hq => ?_⟩, h2.cong (Nat.le_succ n) (fun j _ => hI _ _ (by omega) (by omega) (by omega) (by omega)) (fun j _ => hI _ _ (by omega) (by omega) (by omega) (by omega)) (fun k _ hk => hA k (by omega) (by omega)), h3.cong (Nat.le_succ n) (fun a j h1 h2 => hI a j (by omega) (by omega) (by omega) (by omega)) (fun k _ hk => hA k (by omega) (by omega)), h4.cong hp (fun a j h1 h2 => hI a j (by omega) (by omega) (by omega) (by omega)) (fun k _ hk => hA k (by omega) (by omega)), h5.cong hp (fun j _ => hI _ _ (by omega) (by omega) (by omega) (by omega)) (fun p hp2 => hA _ (by omega) (by omega)),
    h6.cong (hI _ _ (by omega) (by omega) (by omega) (by omega)) (fun j _ => hI _ _ (by omega) (by omega) (by omega) (by omega)) (fun j _ => hI _ _ (by omega) (by omega) (by omega) (by omega)) (fun j _ => hI _ _ (by omega) (by omega) (by omega) (by omega)) (fun j _ => hI _ _ (by omega) (by omega) (by omega) (by omega)) (fun j _ => hI _ _ (by omega) (by omega) (by omega) (by omega)) (hA 6 (by omega) (by omega)) (fun k _ hk => hA k (by omega) (by omega)), h7'⟩
  · rw [hA _ (by omega) (by omega), hA _ (by omega) (by omega), hI _ _ (by omega) (by omega) (by omega) (by omega), hI _ _ (by omega) (by omega) (by omega) (by omega)]; exact e s hs
  · rw [hA _ (by omega) (by omega), hI _ _ (by omega) (by omega) (by omega) (by omega)]; exact f q hq
theorem RV.sg (h : RV I v A n) (hI : ∀ a j, v ≤ a → a < v + 83 → a ≠ v + 10 → a ≠ v + 11 → a ≠ v + 12 → I' a j = I a j) (hA : ∀ k, k < 1020 → (k < 40 ∨ 54 ≤ k) → A' k = A k) (h10 : ∀ s, s < 5 → A' (40 + 2 * s) = I' (v + 10) s ∧ A' (41 + 2 * s) = I' (v + 11) s) (h12 : ∀ q, q < 4 → A' (50 + q) = I' (v + 12) q) : RV I' v A' (n + 1) := by
  obtain ⟨nh, np, nc, nl, tl, h1, h2, h3, h4, h5, h6, h7⟩ := h
  have hp := h1.2.1.2.2
  obtain ⟨⟨a1, a2, a3⟩, ⟨b1, b2, b3⟩, ⟨c1, c2, c3⟩, ⟨d1, d2, d3, d4, d5⟩, e, f⟩ := h1
  have hv : ∀ j, I' v j = I v j := fun j => hI v j (by omega) (by omega) (by omega) (by omega) (by omega)
  have hv13 : ∀ j, I' (v + 13) j = I (v + 13) j := fun j => hI _ j (by omega) (by omega) (by omega) (by omega) (by omega)
  exact ⟨nh, np, nc, nl, tl, ⟨⟨by rw [hA 0 (by omega) (by omega)]; exact a1, by rw [hv]; exact a2, a3⟩, ⟨by rw [hA 1 (by omega) (by omega)]; exact b1, by rw [hv]; exact b2, b3⟩, ⟨by rw [hA 2 (by omega) (by omega)]; exact c1, by rw [hv13]; exact c2, c3⟩, ⟨by rw [hA 5 (by omega) (by omega), hv]; exact d1, by rw [hA 8 (by omega) (by omega), hv]; exact d2, by rw [hA 9 (by omega) (by omega), hv]; exact d3, by rw [hA 3 (by omega) (by omega), hv13]; exact d4, by rw [hA 4 (by omega) (by omega), hv13]; exact d5⟩, h10, h12⟩, h2.cong (Nat.le_succ n) (fun j _ => hI _ _ (by omega) (by omega) (by omega) (by omega) (by omega)) (fun j _ => hI _ _ (by omega) (by omega) (by omega) (by omega) (by omega)) (fun k _ hk => hA k (by omega) (by omega)), h3.cong (Nat.le_succ n) (fun a j h1 h2 => hI a j (by omega) (by omega) (by omega) (by omega) (by omega)) (fun k _ hk => hA k (by omega) (by omega)), h4.cong hp (fun a j h1 h2 => hI a j (by omega) (by omega) (by omega) (by omega) (by omega)) (fun k _ hk => hA k (by omega) (by omega)), h5.cong hp (fun j _ => hI _ _ (by omega) (by omega) (by omega) (by omega) (by omega)) (fun p hp2 => hA _ (by omega) (by omega)),
    h6.cong (hI _ _ (by omega) (by omega) (by omega) (by omega) (by omega)) (fun j _ => hI _ _ (by omega) (by omega) (by omega) (by omega) (by omega)) (fun j _ => hI _ _ (by omega) (by omega) (by omega) (by omega) (by omega)) (fun j _ => hI _ _ (by omega) (by omega) (by omega) (by omega) (by omega)) (fun j _ => hI _ _ (by omega) (by omega) (by omega) (by omega) (by omega)) (fun j _ => hI _ _ (by omega) (by omega) (by omega) (by omega) (by omega)) (hA 6 (by omega) (by omega)) (fun k _ hk => hA k (by omega) (by omega)), h7.cong (hI _ _ (by omega) (by omega) (by omega) (by omega) (by omega)) (fun j _ => hI _ _ (by omega) (by omega) (by omega) (by omega) (by omega)) (hA 7 (by omega) (by omega)) (fun k _ hk => hA k (by omega) (by omega))⟩
theorem RV.hw (h : RV I v A n) (hI : ∀ a j, v ≤ a → a < v + 83 → (a < v + 19 ∨ v + 59 ≤ a) → I' a j = I a j) (hA : ∀ k, k < 1020 → (k < 60 ∨ 300 ≤ k) → A' k = A k) (hh : ∀ nh, nh ≤ 8 → A 0 = nI nh → I v 5 = nI nh → RVh I v A nh n → RVh I' v A' nh (n + 1)) : RV I' v A' (n + 1) := by
  obtain ⟨nh, np, nc, nl, tl, h1, h2, h3, h4, h5, h6, h7⟩ := h
  have hp := h1.2.1.2.2
  exact ⟨nh, np, nc, nl, tl, h1.cong (fun j => hI _ _ (by omega) (by omega) (by omega)) (fun j => hI _ _ (by omega) (by omega) (by omega)) (fun j _ => hI _ _ (by omega) (by omega) (by omega)) (fun j _ => hI _ _ (by omega) (by omega) (by omega)) (fun j _ => hI _ _ (by omega) (by omega) (by omega)) (fun k hk => hA k (by omega) (by omega)),
    h2.cong (Nat.le_succ n) (fun j _ => hI _ _ (by omega) (by omega) (by omega)) (fun j _ => hI _ _ (by omega) (by omega) (by omega)) (fun k _ hk => hA k (by omega) (by omega)), hh nh h1.1.2.2 h1.1.1 h1.1.2.1 h3, h4.cong hp (fun a j h1 h2 => hI a j (by omega) (by omega) (by omega)) (fun k _ hk => hA k (by omega) (by omega)), h5.cong hp (fun j _ => hI _ _ (by omega) (by omega) (by omega)) (fun p hp2 => hA _ (by omega) (by omega)),
    h6.cong (hI _ _ (by omega) (by omega) (by omega)) (fun j _ => hI _ _ (by omega) (by omega) (by omega)) (fun j _ => hI _ _ (by omega) (by omega) (by omega)) (fun j _ => hI _ _ (by omega) (by omega) (by omega)) (fun j _ => hI _ _ (by omega) (by omega) (by omega)) (fun j _ => hI _ _ (by omega) (by omega) (by omega)) (hA 6 (by omega) (by omega)) (fun k _ hk => hA k (by omega) (by omega)), h7.cong (hI _ _ (by omega) (by omega) (by omega)) (fun j _ => hI _ _ (by omega) (by omega) (by omega)) (hA 7 (by omega) (by omega)) (fun k _ hk => hA k (by omega) (by omega))⟩
end RVS
def SimT (g : GT) (M8 M9 : MT) (as : List Value) (x n : Nat) (S : ST) (P : PT) (I : IT) : Prop :=
  T g M8 0 0 (.ref x :: as) S P I (fun r S1 P1 I1 => T g M9 0 0 (.ref (x + 96) :: as) S1 P1 I1 (fun r2 S2 P2 I2 => r2 = r ∧ (∃ z : Int32, r = some (.int z)) ∧ Sim S2 P2 I2 x (n + 1)))
