/-! the tokens of a tape, as numbers: f its bytes, n its length, p a place -/
def bkB (x : Int32) : Bool := decide (x = 10 ∨ x = 32)
def ltB (x : Int32) : Bool := decide (97 ≤ x ∧ x ≤ 122)
def dgB (x : Int32) : Bool := decide (48 ≤ x ∧ x ≤ 57)
theorem bk0 {x : Int32} : isBk x = 0 ↔ bkB x = false := by
  unfold isBk bkB
  by_cases h : x = 10 ∨ x = 32
  · rw [if_pos h, decide_eq_true h]; decide
  · rw [if_neg h, decide_eq_false h]; decide
theorem lt0 {x : Int32} : isLt x = 0 ↔ ltB x = false := by
  unfold isLt wi ltB
  by_cases h : 97 ≤ x ∧ x ≤ 122
  · rw [if_pos h, decide_eq_true h]; decide
  · rw [if_neg h, decide_eq_false h]; decide
theorem dg0 {x : Int32} : isDg x = 0 ↔ dgB x = false := by
  unfold isDg wi dgB
  by_cases h : 48 ≤ x ∧ x ≤ 57
  · rw [if_pos h, decide_eq_true h]; decide
  · rw [if_neg h, decide_eq_false h]; decide
theorem bk1 {x : Int32} : ¬ isBk x = 0 ↔ bkB x = true := by rw [bk0]; cases bkB x <;> decide
theorem lt1 {x : Int32} : ¬ isLt x = 0 ↔ ltB x = true := by rw [lt0]; cases ltB x <;> decide
theorem dg1 {x : Int32} : ¬ isDg x = 0 ↔ dgB x = true := by rw [dg0]; cases dgB x <;> decide
/-- the end of the row of bytes that pr takes, from p on -/
def rn (pr : Int32 → Bool) (f : Nat → Int32) (n : Nat) : Nat → Nat → Nat
  | 0, p => p
  | k + 1, p => if p < n ∧ pr (f p) = true then rn pr f n k (p + 1) else p
def rnE (pr : Int32 → Bool) (f : Nat → Int32) (n p : Nat) : Nat := rn pr f n (n - p) p
section RN
variable {pr : Int32 → Bool} {f : Nat → Int32} {n p : Nat}
theorem rnE_step (h1 : p < n) (h2 : pr (f p) = true) : rnE pr f n p = rnE pr f n (p + 1) := by
  unfold rnE
  rw [show n - p = (n - (p + 1)) + 1 by omega, rn, if_pos ⟨h1, h2⟩]
theorem rnE_stop (h : n ≤ p ∨ pr (f p) = false) : rnE pr f n p = p := by
  unfold rnE
  cases hk : n - p with
  | zero => rfl
  | succ k =>
    rw [rn, if_neg]
    intro z
    rcases h with q | q
    · omega
    · rw [q] at z; cases z.2
theorem rn_ge : ∀ k p, p ≤ rn pr f n k p := by
  intro k
  induction k with
  | zero => intro p; exact Nat.le_refl p
  | succ k ih =>
    intro p
    rw [rn]
    split
    · have := ih (p + 1); omega
    · exact Nat.le_refl p
theorem rn_le : ∀ k p, p ≤ n → rn pr f n k p ≤ n := by
  intro k
  induction k with
  | zero => intro p h; exact h
  | succ k ih =>
    intro p h
    rw [rn]
    split
    · rename_i q; exact ih (p + 1) (by omega)
    · exact h
theorem rn_in : ∀ k p j, p ≤ j → j < rn pr f n k p → pr (f j) = true := by
  intro k
  induction k with
  | zero => intro p j h1 h2; rw [rn] at h2; omega
  | succ k ih =>
    intro p j h1 h2
    rw [rn] at h2
    split at h2
    · rename_i q
      by_cases e : j = p
      · subst e; exact q.2
      · exact ih (p + 1) j (by omega) h2
    · omega
theorem rnE_ge : p ≤ rnE pr f n p := rn_ge _ _
theorem rnE_le (h : p ≤ n) : rnE pr f n p ≤ n := rn_le _ _ h
theorem rnE_in {j : Nat} (h1 : p ≤ j) (h2 : j < rnE pr f n p) : pr (f j) = true := rn_in _ _ _ h1 h2
theorem rnE_gt (h1 : p < n) (h2 : pr (f p) = true) : p < rnE pr f n p := by
  rw [rnE_step h1 h2]
  have := rnE_ge (pr := pr) (f := f) (n := n) (p := p + 1)
  omega
/-- the row's end is none that pr takes -/
theorem rnE_end (hp : p ≤ n) : n ≤ rnE pr f n p ∨ pr (f (rnE pr f n p)) = false := by
  have key : ∀ k p, p + k = n → n ≤ rnE pr f n p ∨ pr (f (rnE pr f n p)) = false := by
    intro k
    induction k with
    | zero => intro p h; exact Or.inl (by rw [rnE_stop (Or.inl (by omega))]; omega)
    | succ k ih =>
      intro p h
      cases e : pr (f p) with
      | true => rw [rnE_step (by omega) e]; exact ih (p + 1) (by omega)
      | false => rw [rnE_stop (Or.inr e)]; exact Or.inr e
  exact key (n - p) p (by omega)
end RN
/-! words as numbers of base 32 -/
def dgt (x : Int32) : Nat := x.toNatClampNeg - 96
def vl (f : Nat → Int32) (q : Nat) : Nat → Nat
  | 0 => 0
  | k + 1 => 32 * vl f q k + dgt (f (q + k))
def nb (f : Nat → Int32) (q : Nat) : Nat → Int32
  | 0 => 0
  | k + 1 => ((10 * nb f q k) + f (q + k)) - 48
theorem lt_nI {x : Int32} (h : ltB x = true) : ∃ c : Nat, 97 ≤ c ∧ c ≤ 122 ∧ x = nI c := wi_nI (a := 97) (b := 122) (by decide) (by decide) (of_decide_eq_true h)
theorem dg_nI {x : Int32} (h : dgB x = true) : ∃ c : Nat, 48 ≤ c ∧ c ≤ 57 ∧ x = nI c := wi_nI (a := 48) (b := 57) (by decide) (by decide) (of_decide_eq_true h)
theorem dgt_nI {c : Nat} (h : c < 2 ^ 31) : dgt (nI c) = c - 96 := by unfold dgt; rw [nI_clamp h]
theorem vl_cong {f g : Nat → Int32} {q r : Nat} : ∀ k, (∀ j, j < k → f (q + j) = g (r + j)) → vl f q k = vl g r k := by
  intro k
  induction k with
  | zero => intro _; rfl
  | succ k ih => intro h; rw [vl, vl, ih (fun j hj => h j (by omega)), h k (by omega)]
theorem nb_cong {f g : Nat → Int32} {q r : Nat} : ∀ k, (∀ j, j < k → f (q + j) = g (r + j)) → nb f q k = nb g r k := by
  intro k
  induction k with
  | zero => intro _; rfl
  | succ k ih => intro h; rw [nb, nb, ih (fun j hj => h j (by omega)), h k (by omega)]
theorem vl_inj {f g : Nat → Int32} {q : Nat} : ∀ k k', (∀ j, j < k → ltB (f (q + j)) = true) → (∀ j, j < k' → ltB (g (0 + j)) = true) → vl f q k = vl g 0 k' → k = k' ∧ ∀ j, j < k → f (q + j) = g (0 + j) := by
  intro k
  induction k with
  | zero =>
    intro k' h1 h2 e
    cases k' with
    | zero => exact ⟨rfl, fun j hj => absurd hj (Nat.not_lt_zero j)⟩
    | succ k' =>
      exfalso
      obtain ⟨c, c1, c2, e2⟩ := lt_nI (h2 k' (by omega))
      rw [vl, vl, e2, dgt_nI (by omega)] at e
      omega
  | succ k ih =>
    intro k' h1 h2 e
    obtain ⟨d, d1, d2, e1⟩ := lt_nI (h1 k (by omega))
    cases k' with
    | zero =>
      exfalso
      rw [vl, vl, e1, dgt_nI (by omega)] at e
      omega
    | succ k' =>
      obtain ⟨c, c1, c2, e2⟩ := lt_nI (h2 k' (by omega))
      rw [vl, vl, e1, e2, dgt_nI (by omega), dgt_nI (by omega)] at e
      obtain ⟨i1, i2⟩ := ih k' (fun j hj => h1 j (by omega)) (fun j hj => h2 j (by omega)) (by omega)
      subst i1
      refine ⟨rfl, fun j hj => ?_⟩
      by_cases ej : j = k
      · subst ej; rw [e1, e2, show d = c by omega]
      · exact i2 j (by omega)
theorem vl_lt {f : Nat → Int32} {q : Nat} : ∀ k, (∀ j, j < k → ltB (f (q + j)) = true) → vl f q k < 32 ^ k := by
  intro k
  induction k with
  | zero => intro _; show 0 < 32 ^ 0; decide
  | succ k ih =>
    intro h
    obtain ⟨c, c1, c2, e⟩ := lt_nI (h k (by omega))
    have := ih (fun j hj => h j (by omega))
    rw [vl, e, dgt_nI (by omega), Nat.pow_succ]
    omega
theorem vl_ge {f : Nat → Int32} {q : Nat} : ∀ k, (∀ j, j < k + 1 → ltB (f (q + j)) = true) → 32 ^ k ≤ vl f q (k + 1) := by
  intro k
  induction k with
  | zero =>
    intro h
    obtain ⟨c, c1, c2, e⟩ := lt_nI (h 0 (by omega))
    rw [vl, e, dgt_nI (by omega)]
    omega
  | succ k ih =>
    intro h
    have := ih (fun j hj => h j (by omega))
    rw [vl, Nat.pow_succ]
    omega
def cW (i : Nat) : Nat := [294, 1476, 14836, 70706, 525908, 3491137714, 639476, 20186629, 7735109, 8902245, 23732, 599557].getD i 0
theorem cW_ok {i : Nat} (hi : i < 12) : vl (tch i) 0 (t_ln.getD i 0) = cW i := by
  have : ∀ i, i < 12 → vl (tch i) 0 (t_ln.getD i 0) = cW i := by decide +kernel
  exact this i hi
theorem word_iff {i q e : Nat} {f : Nat → Int32} (hi : i < 12) (hl : ∀ j, q ≤ j → j < e → ltB (f j) = true) : (e - q = t_ln.getD i 0 ∧ ∀ j, j < t_ln.getD i 0 → f (q + j) = tch i j) ↔ vl f q (e - q) = cW i := by
  constructor
  · rintro ⟨a, b⟩
    rw [a, ← cW_ok hi]
    exact vl_cong _ (fun j hj => by rw [Nat.zero_add]; exact b j hj)
  · intro z
    rw [← cW_ok hi] at z
    obtain ⟨a, b⟩ := vl_inj (e - q) (t_ln.getD i 0) (fun j hj => hl _ (by omega) (by omega)) (fun j hj => by rw [Nat.zero_add]; exact decide_eq_true ⟨(tch_ok hi hj).1, (tch_ok hi hj).2.1⟩) z
    exact ⟨a, fun j hj => by rw [b j (by omega), Nat.zero_add]⟩
/-! kinds and meanings -/
def mS (v : Nat) : Int32 := if v = cW 5 then 0 else if v = cW 6 then 1 else if v = cW 7 then 2 else if v = cW 8 then 3 else if v = cW 9 then 4 else if v = cW 10 then 5 else if v = cW 11 then 6 else -1
def kW (v : Nat) : Int32 := if v = cW 0 then 7 else if v = cW 1 then 8 else if v = cW 2 then 9 else if v = cW 3 then 10 else if v = cW 4 then 11 else if mS v = -1 then 1 else 3
def mW (v : Nat) : Int32 := if v = cW 0 then 0 else if v = cW 1 then 0 else if v = cW 2 then 0 else if v = cW 3 then 0 else if v = cW 4 then 0 else mS v
def kS (c : Int32) : Int32 := if c = 58 then 5 else if c = 59 then 6 else if c = 60 then 4 else if c = 61 then 4 else if c = 62 then 4 else 1
def mG (c : Int32) : Int32 := if c = 58 then 0 else if c = 59 then 0 else if c = 60 then 1 else if c = 61 then 2 else if c = 62 then 4 else 0
def tkL (f : Nat → Int32) (n p : Nat) : Nat := rnE bkB f n p
def tqN (f : Nat → Int32) (n q : Nat) : Nat := if n ≤ q then q else if ltB (f q) = true then rnE ltB f n q else if dgB (f q) = true then rnE dgB f n q else q + 1
def tqK (f : Nat → Int32) (n q : Nat) : Int32 := if n ≤ q then 0 else if ltB (f q) = true then kW (vl f q (rnE ltB f n q - q)) else if dgB (f q) = true then (if rnE dgB f n q - q ≤ 3 then 2 else 1) else kS (f q)
def tqM (f : Nat → Int32) (n q : Nat) : Int32 := if n ≤ q then 0 else if ltB (f q) = true then mW (vl f q (rnE ltB f n q - q)) else if dgB (f q) = true then nb f q (rnE dgB f n q - q) else mG (f q)
def tkN (f : Nat → Int32) (n p : Nat) : Nat := tqN f n (tkL f n p)
def ps (f : Nat → Int32) (n : Nat) : Nat → Nat
  | 0 => 0
  | i + 1 => tkN f n (ps f n i)
def KK (f : Nat → Int32) (n i : Nat) : Int32 := tqK f n (tkL f n (ps f n i))
def MM (f : Nat → Int32) (n i : Nat) : Int32 := tqM f n (tkL f n (ps f n i))
def LL (f : Nat → Int32) (n i : Nat) : Int32 := nI (tkL f n (ps f n i))
theorem tqN_le {f : Nat → Int32} {n q : Nat} (hq : q ≤ n) : tqN f n q ≤ n := by
  unfold tqN
  split
  · exact hq
  · split
    · exact rnE_le hq
    · split
      · exact rnE_le hq
      · omega
theorem tqN_gt {f : Nat → Int32} {n q : Nat} (hq : q < n) : q < tqN f n q := by
  unfold tqN
  rw [if_neg (by omega)]
  split
  · rename_i h; exact rnE_gt hq h
  · split
    · rename_i h; exact rnE_gt hq h
    · omega
theorem ps_le {f : Nat → Int32} {n : Nat} : ∀ i, ps f n i ≤ n := by
  intro i
  induction i with
  | zero => exact Nat.zero_le n
  | succ i ih => exact tqN_le (rnE_le ih)
theorem kk_lt {f : Nat → Int32} {n i : Nat} (h : ¬ KK f n i = 0) : tkL f n (ps f n i) < n := by
  rcases Nat.lt_or_ge (tkL f n (ps f n i)) n with q | q
  · exact q
  · exact absurd (by unfold KK tqK; rw [if_pos q]) h
theorem ps_gt {f : Nat → Int32} {n i : Nat} (h : ¬ KK f n i = 0) : ps f n i < ps f n (i + 1) := by
  have h1 := kk_lt h
  have h2 : ps f n i ≤ tkL f n (ps f n i) := rnE_ge
  have h3 := tqN_gt (f := f) h1
  show ps f n i < tqN f n (tkL f n (ps f n i))
  omega
