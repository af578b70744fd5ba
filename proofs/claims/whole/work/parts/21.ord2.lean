theorem last_of {P : Nat → Prop} [DecidablePred P] : ∀ {l : List Nat}, (∃ y, y ∈ l ∧ P y) → ∃ p o t, l = p ++ o :: t ∧ P o ∧ ∀ z ∈ t, ¬ P z
  | [], h => by obtain ⟨y, hy, _⟩ := h; cases hy
  | a :: l, h => by
    by_cases q : ∃ y, y ∈ l ∧ P y
    · obtain ⟨p, o, t, e, ho, ht⟩ := last_of q
      exact ⟨a :: p, o, t, by rw [e]; rfl, ho, ht⟩
    · obtain ⟨y, hy, hp⟩ := h
      rcases List.mem_cons.mp hy with e | e
      · subst e
        exact ⟨[], y, l, rfl, hp, fun z hz hz2 => q ⟨z, hz, hz2⟩⟩
      · exact absurd ⟨y, e, hp⟩ q
theorem srt_split {uu : Nat → Nat} {p t : List Nat} {o : Nat} (h : srt uu (p ++ o :: t)) : ∀ q ∈ p, uu q ≤ uu o := by
  intro q hq
  obtain ⟨i, hi, e⟩ := List.getElem_of_mem hq
  have h1 := h i p.length hi (by simp)
  have e1 : (p ++ o :: t).getD i 0 = q := by
    rw [List.getD_eq_getElem?_getD, List.getElem?_append_left hi, List.getElem?_eq_getElem hi, e]; rfl
  have e2 : (p ++ o :: t).getD p.length 0 = o := by
    rw [List.getD_eq_getElem?_getD, List.getElem?_append_right (Nat.le_refl _), Nat.sub_self]; rfl
  rw [e1, e2] at h1
  exact h1
section CD
variable {no : Nat} {D U : Nat → Int32} {d u : Nat → Nat} {x : Int32}
def fo (d : Nat → Nat) (x : Int32) (o : Nat) : Nat := if obt x o = true then d o else 0
def fk (d u : Nat → Nat) (x : Int32) (due o : Nat) : Nat := if obt x o = true ∧ u o ≤ due then d o else 0
theorem cdl_iff (hD : ∀ i, i < no → D i = nI (d i) ∧ d i ≤ 30) (hU : ∀ i, i < no → U i = nI (u i) ∧ u i ≤ 200) : ∀ (l : List Nat) (day : Nat), (∀ o ∈ l, o < no) → day + 30 * l.length < 2 ^ 30 →
    (cdl D U x l (nI day) = true ↔ ∀ p o t, l = p ++ o :: t → obt x o = true → day + lsum (fo d x) p + d o ≤ u o)
  | [], day, _, _ => by
    constructor
    · intro _ p o t e
      cases p <;> cases e
    · intro _; rfl
  | a :: l, day, hl, hb => by
    have ha := hl a List.mem_cons_self
    have hl2 : ∀ o ∈ l, o < no := fun o ho => hl o (List.mem_cons_of_mem _ ho)
    rw [List.length_cons] at hb
    have h1 := hD a ha
    have h2 := hU a ha
    cases hob : obt x a with
    | true =>
      have ih := cdl_iff hD hU l (day + d a) hl2 (by omega)
      rw [cdl, hob, if_pos rfl, h1.1, h2.1, nI_add]
      by_cases q : day + d a ≤ u a
      · rw [if_pos (nI_le q (by omega)), ih]
        constructor
        · intro H p o t e ho
          cases p with
          | nil => cases e; simpa [lsum] using q
          | cons b p =>
            cases e
            have := H p o t rfl ho
            rw [lsum, show fo d x a = d a by simp [fo, hob]]
            omega
        · intro H p o t e ho
          have := H (a :: p) o t (by rw [e]; rfl) ho
          rw [lsum, show fo d x a = d a by simp [fo, hob]] at this
          omega
      · rw [if_neg (nI_ge (by omega) (by omega))]
        constructor
        · intro H; cases H
        · intro H
          have := H [] a l rfl hob
          rw [lsum] at this
          omega
    | false =>
      have ih := cdl_iff hD hU l day hl2 (by omega)
      rw [cdl, hob]
      simp only [Bool.false_eq_true, if_false]
      rw [ih]
      constructor
      · intro H p o t e ho
        cases p with
        | nil => cases e; rw [hob] at ho; cases ho
        | cons b p =>
          cases e
          have := H p o t rfl ho
          rw [lsum, show fo d x a = 0 by simp [fo, hob]]
          omega
      · intro H p o t e ho
        have := H (a :: p) o t (by rw [e]; rfl) ho
        rw [lsum, show fo d x a = 0 by simp [fo, hob]] at this
        omega
theorem ms_nat (hD : ∀ i, i < no → D i = nI (d i) ∧ d i ≤ 30) (hU : ∀ i, i < no → U i = nI (u i) ∧ u i ≤ 200) {due : Nat} (hdu : due < 2 ^ 31) : ∀ n, n ≤ no → ms D U x (nI due) n = nI (fb_sm (fk d u x due) n)
  | 0, _ => rfl
  | n + 1, h => by
    have h1 := hD n (by omega)
    have h2 := hU n (by omega)
    rw [ms, ms_nat hD hU hdu n (by omega), fb_sm_succ, h2.1, h1.1, ← nI_add]
    congr 1
    unfold fk
    by_cases q : obt x n = true ∧ u n ≤ due
    · rw [if_pos ⟨q.1, nI_nlt q.2 hdu⟩, if_pos q]
    · rw [if_neg q, if_neg (fun z => q ⟨z.1, by
        rcases Nat.lt_or_ge due (u n) with y | y
        · exact absurd (nI_lt y (by omega)) z.2
        · exact y⟩)]
      rfl
theorem cdl_cmm (h8 : no ≤ 8) (hD : ∀ i, i < no → D i = nI (d i) ∧ d i ≤ 30) (hU : ∀ i, i < no → U i = nI (u i) ∧ u i ≤ 200) : cdl D U x (sl u no) 0 = cmm D U x no := by
  have hlen := sl_len u no
  have hbd : ∀ k, fb_sm (fk d u x k) no ≤ 240 := by
    intro k
    rw [← lsum_sl _ u no]
    have := lsum_bd (f := fk d u x k) (c := 30) (l := sl u no) (fun o ho => by
      have := (hD o ((sl_mem u no o).mp ho)).2
      unfold fk; split <;> omega)
    rw [hlen] at this
    omega
  rw [Bool.eq_iff_iff, cmm_iff]
  have hi := cdl_iff (x := x) hD hU (sl u no) 0 (fun o ho => (sl_mem u no o).mp ho) (by omega)
  rw [show (0 : Int32) = nI 0 from rfl, hi]
  have key : (∀ k, k < no → obt x k = true → ms D U x (U k) no ≤ U k) ↔ ∀ k, k < no → obt x k = true → lsum (fk d u x (u k)) (sl u no) ≤ u k := by
    constructor
    · intro H k hk ho
      have := H k hk ho
      have h2 := hU k hk
      rw [h2.1, ms_nat hD hU (by omega) no (Nat.le_refl _)] at this
      rw [lsum_sl]
      rcases Nat.lt_or_ge (u k) (fb_sm (fk d u x (u k)) no) with q | q
      · exact absurd this (nI_ge q (by have := hbd (u k); omega))
      · exact q
    · intro H k hk ho
      have := H k hk ho
      have h2 := hU k hk
      rw [lsum_sl] at this
      rw [h2.1, ms_nat hD hU (by omega) no (Nat.le_refl _)]
      exact nI_le this (by omega)
  rw [key]
  constructor
  · intro H k hk ho
    obtain ⟨p, o, t, e, hP, ht⟩ := last_of (P := fun o => obt x o = true ∧ u o ≤ u k) (l := sl u no) ⟨k, (sl_mem u no k).mpr hk, ho, Nat.le_refl _⟩
    have h1 := H p o t e hP.1
    rw [e, lsum_app, lsum]
    have h2 : lsum (fk d u x (u k)) p ≤ lsum (fo d x) p := lsum_le (fun z _ => by unfold fk fo; split <;> split <;> simp_all)
    have h3 : lsum (fk d u x (u k)) t = 0 := lsum_0 (fun z hz => by unfold fk; rw [if_neg (ht z hz)])
    have h4 : fk d u x (u k) o = d o := by unfold fk; rw [if_pos hP]
    have h5 := hP.2
    rw [h3, h4]
    omega
  · intro H p o t e ho
    have hs := sl_srt u no
    rw [e] at hs
    have hlt := srt_split hs
    have hmem : o ∈ sl u no := by rw [e]; exact List.mem_append.mpr (Or.inr List.mem_cons_self)
    have h1 := H o ((sl_mem u no o).mp hmem) ho
    rw [e, lsum_app, lsum] at h1
    have h2 : lsum (fk d u x (u o)) p = lsum (fo d x) p := lsum_eq (fun z hz => by unfold fk fo; simp [hlt z hz])
    have h4 : fk d u x (u o) o = d o := by unfold fk; rw [if_pos ⟨ho, Nat.le_refl _⟩]
    rw [h2, h4] at h1
    omega
end CD
