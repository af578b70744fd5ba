/-! the places of a village's parts, of the main object's and of the reference's -/
def LC (S : ST) (P : PT) (c : Nat) : Prop := (sT S c = 1 ∧ sT S (c + 1) = 40 ∧ sT S (c + 2) = 40 ∧ sT S (c + 3) = 40 ∧ sT S (c + 4) = 40 ∧ sT S (c + 5) = 40) ∧ (P c 1 = c + 1 + 1 ∧ P c 2 = c + 2 + 1 ∧ P c 3 = c + 3 + 1 ∧ P c 4 = c + 4 + 1 ∧ P c 5 = c + 5 + 1) ∧ (sL S (c + 1) = 12 ∧ sL S (c + 2) = 12 ∧ sL S (c + 3) = 48 ∧ sL S (c + 4) = 48 ∧ sL S (c + 5) = 48)
def LH (S : ST) (P : PT) (h : Nat) : Prop := (sT S h = 2 ∧ sT S (h + 1) = 40 ∧ sT S (h + 2) = 40 ∧ sT S (h + 3) = 40 ∧ sT S (h + 4) = 40) ∧ (P h 5 = h + 1 + 1 ∧ P h 6 = h + 2 + 1 ∧ P h 7 = h + 3 + 1 ∧ P h 8 = h + 4 + 1) ∧ (sL S (h + 1) = 8 ∧ sL S (h + 2) = 8 ∧ sL S (h + 3) = 8 ∧ sL S (h + 4) = 8)
def LK (S : ST) (P : PT) (k : Nat) : Prop := (sT S k = 3 ∧ sT S (k + 1) = 40 ∧ sT S (k + 2) = 40 ∧ sT S (k + 3) = 40 ∧ sT S (k + 4) = 40) ∧ (P k 3 = k + 1 + 1 ∧ P k 4 = k + 2 + 1 ∧ P k 5 = k + 3 + 1 ∧ P k 6 = k + 4 + 1) ∧ (sL S (k + 1) = 6 ∧ sL S (k + 2) = 6 ∧ sL S (k + 3) = 24 ∧ sL S (k + 4) = 24)
def LT (S : ST) (P : PT) (t : Nat) : Prop := (sT S t = 6 ∧ sT S (t + 1) = 41) ∧ P t 0 = t + 1 + 1 ∧ sL S (t + 1) = 300
def hA (v i : Nat) : Nat := v + 19 + 5 * i
def pA (v i : Nat) : Nat := v + 59 + i
def LV (S : ST) (P : PT) (v : Nat) : Prop :=
  (sT S v = 8 ∧ P v 0 = v + 1 + 1 ∧ P v 1 = v + 3 + 1 ∧ P v 4 = v + 9 + 1 ∧ P v 6 = v + 10 + 1 ∧ P v 7 = v + 11 + 1 ∧ P v 8 = v + 12 + 1 ∧ P v 9 = v + 13 + 1 ∧ P v 10 = v + 18 + 1) ∧
  LT S P (v + 1) ∧ LC S P (v + 3) ∧ LK S P (v + 13) ∧
  (sT S (v + 9) = 43 ∧ sL S (v + 9) = 8 ∧ ∀ i, i < 8 → P (v + 9) i = hA v i + 1 ∧ LH S P (hA v i)) ∧
  (sT S (v + 10) = 40 ∧ sL S (v + 10) = 5 ∧ sT S (v + 11) = 40 ∧ sL S (v + 11) = 5 ∧ sT S (v + 12) = 40 ∧ sL S (v + 12) = 4) ∧
  (sT S (v + 18) = 44 ∧ sL S (v + 18) = 24 ∧ ∀ i, i < 24 → P (v + 18) i = pA v i + 1 ∧ sT S (pA v i) = 4)
def LM (S : ST) (P : PT) (m : Nat) : Prop := (sT S m = 10 ∧ P m 0 = m + 1 + 1 ∧ sT S (m + 1) = 40 ∧ sL S (m + 1) = 4080) ∧ (P m 1 = m + 2 + 1 ∧ sT S (m + 2) = 42 ∧ sL S (m + 2) = 3) ∧ (P m 11 = m + 3 + 1 ∧ sT S (m + 3) = 40 ∧ sL S (m + 3) = 216) ∧ (P m 12 = m + 4 + 1 ∧ sT S (m + 4) = 40 ∧ sL S (m + 4) = 4) ∧ (P m 13 = m + 5 + 1 ∧ sT S (m + 5) = 40 ∧ sL S (m + 5) = 6)
section LAYF
variable {S : ST} {P : PT} {v : Nat}
theorem LV.t (h : LV S P v) : sT S v = 8 := h.1.1
theorem LV.p0 (h : LV S P v) : P v 0 = v + 1 + 1 := h.1.2.1
theorem LV.p1 (h : LV S P v) : P v 1 = v + 3 + 1 := h.1.2.2.1
theorem LV.p4 (h : LV S P v) : P v 4 = v + 9 + 1 := h.1.2.2.2.1
theorem LV.p6 (h : LV S P v) : P v 6 = v + 10 + 1 := h.1.2.2.2.2.1
theorem LV.p7 (h : LV S P v) : P v 7 = v + 11 + 1 := h.1.2.2.2.2.2.1
theorem LV.p8 (h : LV S P v) : P v 8 = v + 12 + 1 := h.1.2.2.2.2.2.2.1
theorem LV.p9 (h : LV S P v) : P v 9 = v + 13 + 1 := h.1.2.2.2.2.2.2.2.1
theorem LV.p10 (h : LV S P v) : P v 10 = v + 18 + 1 := h.1.2.2.2.2.2.2.2.2
theorem LV.tp (h : LV S P v) : LT S P (v + 1) := h.2.1
theorem LV.cu (h : LV S P v) : LC S P (v + 3) := h.2.2.1
theorem LV.ki (h : LV S P v) : LK S P (v + 13) := h.2.2.2.1
theorem LV.t9 (h : LV S P v) : sT S (v + 9) = 43 := h.2.2.2.2.1.1
theorem LV.l9 (h : LV S P v) : sL S (v + 9) = 8 := h.2.2.2.2.1.2.1
theorem LV.ph (h : LV S P v) {i : Nat} (hi : i < 8) : P (v + 9) i = hA v i + 1 := (h.2.2.2.2.1.2.2 i hi).1
theorem LV.ho (h : LV S P v) {i : Nat} (hi : i < 8) : LH S P (hA v i) := (h.2.2.2.2.1.2.2 i hi).2
theorem LV.t10 (h : LV S P v) : sT S (v + 10) = 40 := h.2.2.2.2.2.1.1
theorem LV.l10 (h : LV S P v) : sL S (v + 10) = 5 := h.2.2.2.2.2.1.2.1
theorem LV.t11 (h : LV S P v) : sT S (v + 11) = 40 := h.2.2.2.2.2.1.2.2.1
theorem LV.l11 (h : LV S P v) : sL S (v + 11) = 5 := h.2.2.2.2.2.1.2.2.2.1
theorem LV.t12 (h : LV S P v) : sT S (v + 12) = 40 := h.2.2.2.2.2.1.2.2.2.2.1
theorem LV.l12 (h : LV S P v) : sL S (v + 12) = 4 := h.2.2.2.2.2.1.2.2.2.2.2
theorem LV.t18 (h : LV S P v) : sT S (v + 18) = 44 := h.2.2.2.2.2.2.1
theorem LV.l18 (h : LV S P v) : sL S (v + 18) = 24 := h.2.2.2.2.2.2.2.1
theorem LV.pp (h : LV S P v) {i : Nat} (hi : i < 24) : P (v + 18) i = pA v i + 1 := (h.2.2.2.2.2.2.2.2 i hi).1
theorem LV.po (h : LV S P v) {i : Nat} (hi : i < 24) : sT S (pA v i) = 4 := (h.2.2.2.2.2.2.2.2 i hi).2
theorem LV.kp (h : LV S P v) : sT S (v + 13) = 3 := h.ki.1.1
end LAYF
theorem ixl {j n N : Nat} (hN : N = n) (h : j < n) (hn : n < 2 ^ 31) : ix (nI j) j N := by rw [hN]; exact ix_n h hn
theorem ixe {i : Int32} {j n N : Nat} (hi : i = nI j) (hN : N = n) (h : j < n) (hn : n < 2 ^ 31) : ix i j N := by rw [hi, hN]; exact ix_n h hn
theorem u2_s (I : IT) (a k : Nat) (x : Int32) : u2 I a k x a k = x := by simp [u2]
theorem u2_k {I : IT} {a k b j : Nat} {x : Int32} (h : j ≠ k) : u2 I a k x b j = I b j := by simp [u2, h]
theorem u2_a {I : IT} {a k b j : Nat} {x : Int32} (h : b ≠ a) : u2 I a k x b j = I b j := by simp [u2, h]
theorem u2_same {I : IT} {a k : Nat} {x : Int32} (h : I a k = x) : u2 I a k x = I := by
  funext b j
  by_cases q : b = a ∧ j = k
  · obtain ⟨rfl, rfl⟩ := q; simp [u2, h]
  · simp [u2, q]
theorem u2_u2 (I : IT) (a k : Nat) (x y : Int32) : u2 (u2 I a k x) a k y = u2 I a k y := by
  funext b j
  by_cases q : b = a ∧ j = k <;> simp [u2, q]
/-! numbers -/
theorem lit (n : Nat) : (OfNat.ofNat n : Int32) = nI n := rfl
theorem nI_cle {a b : Nat} (ha : a < 2 ^ 31) (hb : b < 2 ^ 31) : nI a ≤ nI b ↔ a ≤ b := nI_leI ha hb
theorem nI_clt {a b : Nat} (ha : a < 2 ^ 31) (hb : b < 2 ^ 31) : nI a < nI b ↔ a < b := nI_ltI ha hb
theorem nI_inj {a b : Nat} (ha : a < 2 ^ 31) (hb : b < 2 ^ 31) (h : nI a = nI b) : a = b := (nI_eq ha hb).mp h
theorem nI_m1 {a : Nat} (ha : a < 2 ^ 31) : ¬ nI a = -1 := by
  intro h
  have h1 := congrArg Int32.toInt h
  rw [nI_toInt ha] at h1
  have h2 : ((-1 : Int32)).toInt = -1 := by decide
  omega
theorem wi_nI {x : Int32} {a b : Nat} (ha : a < 2 ^ 31) (hb : b < 2 ^ 31) (h : nI a ≤ x ∧ x ≤ nI b) : ∃ j : Nat, a ≤ j ∧ j ≤ b ∧ x = nI j := by
  have h1 := Int32.le_iff_toInt_le.mp h.1
  have h2 := Int32.le_iff_toInt_le.mp h.2
  rw [nI_toInt ha] at h1
  rw [nI_toInt hb] at h2
  exact ⟨x.toInt.toNat, by omega, by omega, toInt_lit (by omega) (by omega)⟩
theorem not_le_nI {a b : Nat} (ha : a < 2 ^ 31) (hb : b < 2 ^ 31) (h : ¬ nI a ≤ nI b) : b < a := by
  rcases Nat.lt_or_ge b a with q | q
  · exact q
  · exact absurd (nI_le q hb) h
theorem LM.t {S : ST} {P : PT} {m : Nat} (h : LM S P m) : sT S m = 10 := h.1.1
theorem LM.p {S : ST} {P : PT} {m : Nat} (h : LM S P m) : P m 0 = m + 1 + 1 := h.1.2.1
theorem LM.a {S : ST} {P : PT} {m : Nat} (h : LM S P m) : sT S (m + 1) = 40 := h.1.2.2.1
theorem LM.l {S : ST} {P : PT} {m : Nat} (h : LM S P m) : sL S (m + 1) = 4080 := h.1.2.2.2
/-- an index of the reference's row -/
theorem LM.ix {S : ST} {P : PT} {m j : Nat} {i : Int32} (h : LM S P m) (hi : i = nI j) (hj : j < 4080) : ix i j (sL S (m + 1)) := ixe hi h.l hj (by decide)
/-- the byte at a place of the reference's tape -/
def byA (I : IT) (m : Nat) (x : Int32) : Int32 := if I m 2 ≤ x then -1 else I (m + 1) (720 + x.toNatClampNeg)
theorem nI_sm {x : Int32} (h : 0 ≤ x) : x = nI x.toNatClampNeg := by
  obtain ⟨j, hj, e⟩ := nI_of (x := x) (Int32.not_lt.mpr h)
  rw [e, nI_clamp hj]
theorem nI_add2 (a b : Nat) : nI a + nI b = nI (a + b) := nI_add a b
