section HOUSE2
variable {g : GT} {S : ST} {P : PT} {I : IT} {Q : QT} {hh : Nat}
theorem t_takeOrder {no un : Nat} {d w : Int32} (hH : LH S P hh) (hn : I hh 4 = nI no) (h8 : no < 8) (uu : Nat → Nat) (huu : ∀ i, i < no → I (hh + 2) i = nI (uu i) ∧ uu i < 2 ^ 31) (hun : un < 2 ^ 31) (l : List Nat) (hl : l.length = no) (hlt : ∀ r, r < no → l.getD r 0 < no) (hby : ∀ r, r < no → I (hh + 4) r = nI (l.getD r 0))
    (h : ∀ J : IT, J (hh + 1) no = d → (∀ j, j ≠ no → J (hh + 1) j = I (hh + 1) j) → J (hh + 2) no = nI un → (∀ j, j ≠ no → J (hh + 2) j = I (hh + 2) j) → J (hh + 3) no = w → (∀ j, j ≠ no → J (hh + 3) j = I (hh + 3) j) → (∀ r, r < no + 1 → J (hh + 4) r = nI ((insL l (rkf uu un l no) no).getD r 0)) → J hh 4 = nI (no + 1) → (∀ j, j ≠ 4 → J hh j = I hh j) → (∀ a j, a < hh ∨ hh + 4 < a → J a j = I a j) → Q none S P J) : T g MX1_takeOrder 0 0 [.ref hh, .int d, .int (nI un), .int w] S P I Q := by
  have e8 : I hh 4 < 8 := by rw [hn]; exact nI_lt (b := 8) h8 (by decide)
  refine T_of rfl (Nat.le_of_ble_eq_true rfl) (s_X1_takeOrder_0 ⟨hH.1.1, fun _ => ⟨_, hH.2.1.1, hH.1.2.1, no, ixe hn hH.2.2.1 h8 (by decide), _, hH.2.1.2.1, hH.1.2.2.1, no, ?_, _, hH.2.1.2.2.1, hH.1.2.2.2.1, no, ?_, ?_⟩, fun q => absurd e8 q⟩)
  · rw [u2_a (by omega)]; exact ixe hn hH.2.2.2.1 h8 (by decide)
  · rw [u2_a (by omega), u2_a (by omega)]; exact ixe hn hH.2.2.2.2.1 h8 (by decide)
  generalize hJ0 : u2 (u2 (u2 I (hh + 1) no d) (hh + 2) no (nI un)) (hh + 3) no w = J0
  have c1 : J0 (hh + 1) no = d := by rw [← hJ0, u2_a (by omega), u2_a (by omega), u2_s]
  have c2 : ∀ j, j ≠ no → J0 (hh + 1) j = I (hh + 1) j := fun j hj => by rw [← hJ0, u2_a (by omega), u2_a (by omega), u2_k hj]
  have c3 : J0 (hh + 2) no = nI un := by rw [← hJ0, u2_a (by omega), u2_s]
  have c4 : ∀ j, j ≠ no → J0 (hh + 2) j = I (hh + 2) j := fun j hj => by rw [← hJ0, u2_a (by omega), u2_k hj, u2_a (by omega)]
  have c5 : J0 (hh + 3) no = w := by rw [← hJ0, u2_s]
  have c6 : ∀ j, j ≠ no → J0 (hh + 3) j = I (hh + 3) j := fun j hj => by rw [← hJ0, u2_k hj, u2_a (by omega), u2_a (by omega)]
  have c7 : ∀ a j, a ≠ hh + 1 → a ≠ hh + 2 → a ≠ hh + 3 → J0 a j = I a j := fun a j b1 b2 b3 => by rw [← hJ0, u2_a b3, u2_a b2, u2_a b1]
  rw [c7 hh 4 (by omega) (by omega) (by omega), hn]
  have loop : ∀ r J, r ≤ no → rkf uu un l r = rkf uu un l no → (∀ a j, a ≠ hh + 4 → J a j = J0 a j) → (∀ j, j < r → J (hh + 4) j = nI (l.getD j 0)) → (∀ j, r < j → j < no + 1 → J (hh + 4) j = nI (l.getD (j - 1) 0)) → B g MX1_takeOrder 0 0 46 [(0, .ref hh), (1, .int d), (2, .int (nI un)), (3, .int w), (4, .int (nI r))] [] S P J Q := by
    have fin : ∀ r J, r ≤ no → r = rkf uu un l no → (∀ a j, a ≠ hh + 4 → J a j = J0 a j) → (∀ j, j < r → J (hh + 4) j = nI (l.getD j 0)) → (∀ j, r < j → j < no + 1 → J (hh + 4) j = nI (l.getD (j - 1) 0)) → B g MX1_takeOrder 0 0 91 [(0, .ref hh), (1, .int d), (2, .int (nI un)), (3, .int w), (4, .int (nI r))] [] S P J Q := by
      intro r J hr er d1 d2 d3
      refine s_X1_takeOrder_91 ⟨hH.1.1, _, hH.2.1.2.2.2, hH.1.2.2.2.2, r, ixl hH.2.2.2.2.2 (by omega) (by decide), ?_⟩
      have ej : J hh 4 = nI no := by rw [d1 hh 4 (by omega), c7 hh 4 (by omega) (by omega) (by omega)]; exact hn
      refine h _ ?_ (fun j hj => ?_) ?_ (fun j hj => ?_) ?_ (fun j hj => ?_) (fun j hj => ?_) ?_ (fun j hj => ?_) (fun a j ha => ?_)
      · rw [u2_a (by omega), u2_a (by omega), d1 _ _ (by omega)]; exact c1
      · rw [u2_a (by omega), u2_a (by omega), d1 _ _ (by omega)]; exact c2 j hj
      · rw [u2_a (by omega), u2_a (by omega), d1 _ _ (by omega)]; exact c3
      · rw [u2_a (by omega), u2_a (by omega), d1 _ _ (by omega)]; exact c4 j hj
      · rw [u2_a (by omega), u2_a (by omega), d1 _ _ (by omega)]; exact c5
      · rw [u2_a (by omega), u2_a (by omega), d1 _ _ (by omega)]; exact c6 j hj
      · rw [u2_a (by omega), ← er]
        rcases Nat.lt_trichotomy j r with q | q | q
        · rw [u2_k (by omega), d2 j q, insL_lt (by omega) q]
        · subst q
          rw [u2_s, insL_eq (by omega), ej]
        · rw [u2_k (by omega), d3 j q hj, insL_gt (by omega) q]
      · rw [u2_s, u2_a (by omega), ej, nI_1]
      · rw [u2_k hj, u2_a (by omega), d1 _ _ (by omega)]; exact c7 hh j (by omega) (by omega) (by omega)
      · rw [u2_a (by omega), u2_a (by omega), d1 _ _ (by omega)]; exact c7 a j (by omega) (by omega) (by omega)
    intro r
    induction r with
    | zero =>
      intro J hr er d1 d2 d3
      exact s_X1_takeOrder_46 ⟨fun _ => fin 0 J hr (by rw [← er]; rfl) d1 d2 d3, fun q => absurd (by decide) q⟩
    | succ r ih =>
      intro J hr er d1 d2 d3
      rw [rkf] at er
      have hb := d2 r (by omega)
      have hlr := hlt r (by omega)
      generalize ho : l.getD r 0 = o at er hb hlr
      have hu : J (hh + 2) o = nI (uu o) := by rw [d1 _ _ (by omega), c4 o (by omega)]; exact (huu o hlr).1
      have hu2 := (huu o hlr).2
      refine s_X1_takeOrder_46 ⟨fun q => ?_, fun q => ⟨hH.1.1, _, hH.2.1.2.1, _, hH.2.1.2.2.2, hH.1.2.2.2.2, r, ixe (nI_pred r) hH.2.2.2.2.2 (by omega) (by decide), hH.1.2.2.1, o, ixe hb hH.2.2.2.1 (by omega) (by decide), fun q1 => ?_, fun q1 => ⟨r + 1, ixl hH.2.2.2.2.2 (by omega) (by decide), ?_⟩⟩⟩
      · exact absurd q (nI_nle (by omega) (by omega))
      · rw [hu] at q1
        have q2 : ¬ un < uu o := by
          intro z
          exact nI_ge z hu2 q1
        rw [if_neg q2] at er
        exact fin (r + 1) J hr er d1 d2 d3
      · rw [hu] at q1
        have q2 : un < uu o := by
          rcases Nat.lt_or_ge un (uu o) with z | z
          · exact z
          · exact absurd (nI_le z hun) q1
        rw [if_pos q2] at er
        rw [pk_m1, hb]
        refine ih _ (by omega) er (fun a j ha => ?_) (fun j hj => ?_) (fun j hj hj2 => ?_)
        · rw [u2_a ha]; exact d1 a j ha
        · rw [u2_k (by omega)]; exact d2 j (by omega)
        · by_cases q3 : j = r + 1
          · subst q3
            rw [u2_s, show r + 1 - 1 = r by omega, ho]
          · rw [u2_k q3]; exact d3 j (by omega) hj2
  exact loop no J0 (Nat.le_refl _) rfl (fun _ _ _ => rfl) (fun j hj => by rw [c7 _ _ (by omega) (by omega) (by omega)]; exact hby j hj) (fun j hj hj2 => by omega)
end HOUSE2
/-! the row of the dues: orders put in one by one -/
def sl (uu : Nat → Nat) : Nat → List Nat
  | 0 => []
  | n + 1 => insL (sl uu n) (rkf uu (uu n) (sl uu n) n) n
theorem sl_len (uu : Nat → Nat) : ∀ n, (sl uu n).length = n
  | 0 => rfl
  | n + 1 => by
    have ih := sl_len uu n
    have h1 := rkf_le uu (uu n) (sl uu n) n
    rw [sl, insL, List.length_append, List.length_cons, List.length_take, List.length_drop, ih]
    omega
theorem insL_mem {l : List Nat} {p x y : Nat} : y ∈ insL l p x ↔ y = x ∨ y ∈ l := by
  unfold insL
  constructor
  · intro h
    rcases List.mem_append.mp h with h | h
    · exact Or.inr (List.mem_of_mem_take h)
    · rcases List.mem_cons.mp h with h | h
      · exact Or.inl h
      · exact Or.inr (List.mem_of_mem_drop h)
  · intro h
    rcases h with h | h
    · exact List.mem_append.mpr (Or.inr (List.mem_cons.mpr (Or.inl h)))
    · rw [← List.take_append_drop p l] at h
      rcases List.mem_append.mp h with h | h
      · exact List.mem_append.mpr (Or.inl h)
      · exact List.mem_append.mpr (Or.inr (List.mem_cons.mpr (Or.inr h)))
theorem sl_mem (uu : Nat → Nat) : ∀ n y, y ∈ sl uu n ↔ y < n
  | 0, y => by simp [sl]
  | n + 1, y => by
    rw [sl, insL_mem, sl_mem uu n y]
    omega
theorem sl_lt (uu : Nat → Nat) {n r : Nat} (h : r < n) : (sl uu n).getD r 0 < n := by
  rw [← sl_mem uu n]
  have hl := sl_len uu n
  rw [List.getD_eq_getElem?_getD, List.getElem?_eq_getElem (by omega)]
  exact List.getElem_mem _
theorem rkf_cong {uu vv : Nat → Nat} {un : Nat} {l : List Nat} : ∀ {n}, (∀ r, r < n → uu (l.getD r 0) = vv (l.getD r 0)) → rkf uu un l n = rkf vv un l n
  | 0, _ => rfl
  | n + 1, h => by rw [rkf, rkf, h n (by omega), rkf_cong (fun r hr => h r (by omega))]
theorem sl_cong {uu vv : Nat → Nat} : ∀ {n}, (∀ i, i < n → uu i = vv i) → sl uu n = sl vv n
  | 0, _ => rfl
  | n + 1, h => by
    rw [sl, sl, sl_cong (fun i hi => h i (by omega)), h n (by omega), rkf_cong (fun r hr => h _ (Nat.lt_succ_of_lt (sl_lt vv hr)))]
