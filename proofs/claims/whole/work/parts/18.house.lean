/-! orders of a house -/
def obt (x : Int32) (i : Nat) : Bool := decide (¬ ((x >>> (nI i &&& 31)) &&& 1) = 0)
theorem and1 (x : Int32) : (x &&& 1) = 0 ∨ (x &&& 1) = 1 := by
  obtain ⟨j, hj, e⟩ := pk_andE x (m := 1) 1 (by decide)
  rw [e]
  rcases (show j = 0 ∨ j = 1 by omega) with rfl | rfl
  · exact Or.inl rfl
  · exact Or.inr rfl
theorem obt_f {x : Int32} {i : Nat} (h : ((x >>> (nI i &&& 31)) &&& 1) = 0) : obt x i = false := by simp [obt, h]
theorem obt_t {x : Int32} {i : Nat} (h : ¬ ((x >>> (nI i &&& 31)) &&& 1) = 0) : obt x i = true := by simp [obt, h]
def wo (w : Nat → Int32) (x : Int32) : Nat → Int32
  | 0 => 0
  | n + 1 => wo w x n + (if obt x n then w n else 0)
def cdl (D U : Nat → Int32) (x : Int32) : List Nat → Int32 → Bool
  | [], _ => true
  | o :: t, day => if obt x o then (if day + D o ≤ U o then cdl D U x t (day + D o) else false) else cdl D U x t day
def bst (wv : Nat → Int32) (cd : Nat → Bool) : Nat → Nat
  | 0 => 0
  | n + 1 => if wv (bst wv cd n) < wv (n + 1) ∧ cd (n + 1) = true then n + 1 else bst wv cd n
theorem bst_le (wv : Nat → Int32) (cd : Nat → Bool) : ∀ n, bst wv cd n ≤ n
  | 0 => Nat.le_refl 0
  | n + 1 => by
    have ih := bst_le wv cd n
    unfold bst
    split <;> omega
theorem wo_0 (w : Nat → Int32) : ∀ n, n ≤ 8 → wo w 0 n = 0
  | 0, _ => rfl
  | n + 1, h => by
    have e : obt 0 n = false := by
      have : ∀ i, i < 8 → obt 0 i = false := by decide
      exact this n (by omega)
    rw [wo, wo_0 w n (by omega), e]
    rfl
theorem shl1 {n : Nat} (h : n ≤ 8) : (1 : Int32) <<< (nI n &&& 31) = nI (2 ^ n) := by
  have : ∀ i, i < 9 → (1 : Int32) <<< (nI i &&& 31) = nI (2 ^ i) := by decide
  exact this n (by omega)
def insL (l : List Nat) (p x : Nat) : List Nat := l.take p ++ x :: l.drop p
def rkf (uu : Nat → Nat) (un : Nat) (l : List Nat) : Nat → Nat
  | 0 => 0
  | r + 1 => if un < uu (l.getD r 0) then rkf uu un l r else r + 1
theorem rkf_le (uu : Nat → Nat) (un : Nat) (l : List Nat) : ∀ n, rkf uu un l n ≤ n
  | 0 => Nat.le_refl 0
  | n + 1 => by
    have ih := rkf_le uu un l n
    unfold rkf
    split <;> omega
theorem insL_lt {l : List Nat} {p x r : Nat} (hp : p ≤ l.length) (h : r < p) : (insL l p x).getD r 0 = l.getD r 0 := by
  unfold insL
  rw [List.getD_eq_getElem?_getD, List.getD_eq_getElem?_getD, List.getElem?_append_left (by rw [List.length_take]; omega), List.getElem?_take_of_lt h]
theorem insL_eq {l : List Nat} {p x : Nat} (hp : p ≤ l.length) : (insL l p x).getD p 0 = x := by
  unfold insL
  rw [List.getD_eq_getElem?_getD, List.getElem?_append_right (by rw [List.length_take]; omega)]
  have : p - (l.take p).length = 0 := by rw [List.length_take]; omega
  rw [this]; rfl
theorem insL_gt {l : List Nat} {p x r : Nat} (hp : p ≤ l.length) (h : p < r) : (insL l p x).getD r 0 = l.getD (r - 1) 0 := by
  unfold insL
  rw [List.getD_eq_getElem?_getD, List.getD_eq_getElem?_getD, List.getElem?_append_right (by rw [List.length_take]; omega)]
  have : r - (l.take p).length = (r - 1 - p) + 1 := by rw [List.length_take]; omega
  rw [this, List.getElem?_cons_succ, List.getElem?_drop, show p + (r - 1 - p) = r - 1 by omega]
theorem bi_t {c : Prop} [Decidable c] (h : c) : bi c = 1 := if_pos h
theorem bi_f {c : Prop} [Decidable c] (h : ¬ c) : bi c = 0 := if_neg h
section HOUSE
variable {g : GT} {S : ST} {P : PT} {I : IT} {Q : QT} {hh : Nat}
theorem t_worthOf {no : Nat} {x : Int32} (hH : LH S P hh) (hn : I hh 4 = nI no) (h8 : no ≤ 8) (h : Q (some (.int (wo (I (hh + 3)) x no))) S P I) : T g MX1_worthOf 0 0 [.ref hh, .int x] S P I Q := by
  refine T_of rfl (Nat.le_of_ble_eq_true rfl) (s_X1_worthOf_0 ?_)
  have loop : ∀ n i, i + n = no → B g MX1_worthOf 0 0 4 [(0, .ref hh), (1, .int x), (2, .int (wo (I (hh + 3)) x i)), (3, .int (nI i))] [] S P I Q := by
    intro n
    induction n with
    | zero =>
      intro i he
      refine s_X1_worthOf_4 ⟨hH.1.1, fun _ => ?_, fun q => ?_⟩
      · rw [show i = no by omega]; exact h
      · rw [hn] at q; exact absurd (nI_le (by omega) (by omega)) q
    | succ n ih =>
      intro i he
      have hs := ih (i + 1) (by omega)
      rw [wo] at hs
      refine s_X1_worthOf_4 ⟨hH.1.1, fun q => ?_, fun q => ⟨fun q1 => ?_, fun q1 => ⟨_, hH.2.1.2.2.1, hH.1.2.2.2.1, i, ixl hH.2.2.2.2.1 (by omega) (by decide), ?_⟩⟩⟩
      · rw [hn] at q; exact absurd q (nI_ge (by omega) (by omega))
      · rw [obt_f q1] at hs
        have e : wo (I (hh + 3)) x i + (if false = true then I (hh + 3) i else 0) = wo (I (hh + 3)) x i := by simp
        rw [e] at hs
        rw [nI_1]; exact hs
      · rw [obt_t q1, if_pos rfl] at hs
        rw [nI_1]; exact hs
  exact loop no 0 (by omega)
theorem t_canDo {no : Nat} {x : Int32} (hH : LH S P hh) (hn : I hh 4 = nI no) (h8 : no ≤ 8) (l : List Nat) (hl : l.length = no) (hlt : ∀ r, r < no → l.getD r 0 < 8) (hby : ∀ r, r < no → I (hh + 4) r = nI (l.getD r 0))
    (h : Q (some (.int (bi (cdl (I (hh + 1)) (I (hh + 2)) x l 0 = true)))) S P I) : T g MX1_canDo 0 0 [.ref hh, .int x] S P I Q := by
  refine T_of rfl (Nat.le_of_ble_eq_true rfl) (s_X1_canDo_0 ?_)
  have loop : ∀ n i day, i + n = no → cdl (I (hh + 1)) (I (hh + 2)) x (l.drop i) day = cdl (I (hh + 1)) (I (hh + 2)) x l 0 → B g MX1_canDo 0 0 4 [(0, .ref hh), (1, .int x), (2, .int day), (3, .int (nI i))] [] S P I Q := by
    intro n
    induction n with
    | zero =>
      intro i day he hc
      refine s_X1_canDo_4 ⟨hH.1.1, fun _ => ?_, fun q => ?_⟩
      · rw [List.drop_eq_nil_of_le (by omega)] at hc
        rw [← hc] at h
        have e : bi (cdl (I (hh + 1)) (I (hh + 2)) x [] day = true) = 1 := bi_t rfl
        rw [e] at h
        exact h
      · rw [hn] at q; exact absurd (nI_le (by omega) (by omega)) q
    | succ n ih =>
      intro i day he hc
      have hi : i < l.length := by omega
      have ed : l.drop i = l.getD i 0 :: l.drop (i + 1) := by
        rw [List.drop_eq_getElem_cons hi, List.getD_eq_getElem?_getD, List.getElem?_eq_getElem hi]; rfl
      rw [ed, cdl] at hc
      have ho := hlt i (by omega)
      have eb := hby i (by omega)
      generalize l.getD i 0 = o at hc ho eb
      refine s_X1_canDo_4 ⟨hH.1.1, fun q => ?_, fun q => ⟨_, hH.2.1.2.2.2, hH.1.2.2.2.2, i, ixl hH.2.2.2.2.2 (by omega) (by decide), fun q1 => ?_, fun q1 => ⟨_, hH.2.1.1, hH.1.2.1, o, ixe eb hH.2.2.1 ho (by decide), _, hH.2.1.2.1, hH.1.2.2.1, o, ixe eb hH.2.2.2.1 ho (by decide), fun q2 => ?_, fun q2 => ?_⟩⟩⟩
      · rw [hn] at q; exact absurd q (nI_ge (by omega) (by omega))
      · rw [eb] at q1
        rw [obt_f q1] at hc
        rw [nI_1]; exact ih (i + 1) day (by omega) (by simpa using hc)
      · rw [eb] at q1
        rw [obt_t q1, if_pos rfl, if_pos q2] at hc
        rw [nI_1]; exact ih (i + 1) _ (by omega) hc
      · rw [eb] at q1
        rw [obt_t q1, if_pos rfl, if_neg q2] at hc
        rw [← hc, bi_f (by decide)] at h
        exact h
  exact loop no 0 0 (by omega) rfl
theorem t_bestOrders {no : Nat} (hH : LH S P hh) (hn : I hh 4 = nI no) (h8 : no ≤ 8) (l : List Nat) (hl : l.length = no) (hlt : ∀ r, r < no → l.getD r 0 < 8) (hby : ∀ r, r < no → I (hh + 4) r = nI (l.getD r 0))
    (h : Q (some (.int (nI (bst (fun s => wo (I (hh + 3)) (nI s) no) (fun s => cdl (I (hh + 1)) (I (hh + 2)) (nI s) l 0) (2 ^ no - 1))))) S P I) : T g MX1_bestOrders 0 0 [.ref hh] S P I Q := by
  refine T_of rfl (Nat.le_of_ble_eq_true rfl) (s_X1_bestOrders_0 ?_)
  have hp : 2 ^ no ≤ 256 := by
    have : ∀ i, i < 9 → 2 ^ i ≤ 256 := by decide
    exact this no (by omega)
  have hp0 : 0 < 2 ^ no := Nat.pow_pos (by decide)
  generalize hwv : (fun s => wo (I (hh + 3)) (nI s) no) = wv at h
  generalize hcd : (fun s => cdl (I (hh + 1)) (I (hh + 2)) (nI s) l 0) = cd at h
  have ewv : ∀ s, wo (I (hh + 3)) (nI s) no = wv s := fun s => congrFun hwv s
  have ecd : ∀ s, cdl (I (hh + 1)) (I (hh + 2)) (nI s) l 0 = cd s := fun s => congrFun hcd s
  have loop : ∀ n i, 1 ≤ i → i + n = 2 ^ no → B g MX1_bestOrders 0 0 6 [(0, .ref hh), (1, .int (nI (bst wv cd (i - 1)))), (2, .int (wv (bst wv cd (i - 1)))), (3, .int (nI i))] [] S P I Q := by
    intro n
    induction n with
    | zero =>
      intro i h1 he
      refine s_X1_bestOrders_6 ⟨hH.1.1, fun _ => ?_, fun q => ?_⟩
      · rw [show i - 1 = 2 ^ no - 1 by omega]; exact h
      · rw [hn, shl1 h8] at q; exact absurd (nI_le (by omega) (by omega)) q
    | succ n ih =>
      intro i h1 he
      have hs := ih (i + 1) (by omega) (by omega)
      rw [show i + 1 - 1 = (i - 1) + 1 by omega, bst, show i - 1 + 1 = i by omega] at hs
      generalize bst wv cd (i - 1) = b at hs ⊢
      refine s_X1_bestOrders_6 ⟨hH.1.1, fun q => ?_, fun q => t_worthOf hH hn h8 (s_X1_bestOrders_21 ⟨fun q1 => ?_, fun q1 => ⟨hH.1.1, t_canDo hH hn h8 l hl hlt hby (s_X1_bestOrders_34 ⟨fun q2 => ?_, fun q2 => ?_⟩)⟩⟩)⟩
      · rw [hn, shl1 h8] at q; exact absurd q (nI_ge (by omega) (by omega))
      · rw [ewv] at q1
        rw [if_neg (fun z => Int32.not_lt.mpr q1 z.1)] at hs
        rw [nI_1]; exact hs
      · rw [ecd] at q2
        have hcf : ¬ cd i = true := fun z => by rw [bi_t z] at q2; exact absurd q2 (by decide)
        rw [if_neg (fun z => hcf z.2)] at hs
        rw [nI_1]; exact hs
      · rw [ecd] at q2
        rw [ewv] at q1 ⊢
        have hct : cd i = true := Decidable.byContradiction fun z => q2 (bi_f z)
        rw [if_pos ⟨Int32.not_le.mp q1, hct⟩] at hs
        rw [nI_1]; exact hs
  have h0 := loop (2 ^ no - 1) 1 (Nat.le_refl 1) (by omega)
  have e0 : wv 0 = 0 := by rw [← ewv 0]; exact wo_0 _ no h8
  rw [show bst wv cd (1 - 1) = 0 from rfl, e0] at h0
  exact h0
end HOUSE
