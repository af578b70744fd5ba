theorem all_in {ci : Nat} {r : vw_C} (h : vwCl[ci]? = some r) : ∀ w ∈ u_ws r.1 r.2.1 r.2.2, w ∈ gws := by
  have hl : ci < 10 := (List.getElem?_eq_some_iff.mp h).1
  have key : ∀ i, i < 10 → ∀ r', vwCl[i]? = some r' → ∀ w ∈ u_ws r'.1 r'.2.1 r'.2.2, w ∈ gws := by
    intro i hi
    match i, hi with
    | 0, _ => intro r' h; cases h; decide +kernel
    | 1, _ => intro r' h; cases h; decide +kernel
    | 2, _ => intro r' h; cases h; decide +kernel
    | 3, _ => intro r' h; cases h; decide +kernel
    | 4, _ => intro r' h; cases h; decide +kernel
    | 5, _ => intro r' h; cases h; decide +kernel
    | 6, _ => intro r' h; cases h; decide +kernel
    | 7, _ => intro r' h; cases h; decide +kernel
    | 8, _ => intro r' h; cases h; decide +kernel
    | 9, _ => intro r' h; cases h; decide +kernel
  exact key ci hl r h
theorem all_nm {ci : Nat} {r : vw_C} (h : vwCl[ci]? = some r) : (∀ a, a < r.2.2 → ∀ b, b < r.2.2 → a ≠ b → (r.2.1 a).2.1 ≠ (r.2.1 b).2.1) ∧ ∃ ty : Nat → FieldType, (∀ k, k < r.2.2 → parseFieldDescriptor (r.2.1 k).2.2.1 = some (ty k)) ∧ ∀ k, k < r.2.2 → defaultValue (ty k) = if is_r (r.2.1 k).2.2.1 then .null else .int 0 := by
  have hl : ci < 10 := (List.getElem?_eq_some_iff.mp h).1
  have key : ∀ i, i < 10 → ∀ r', vwCl[i]? = some r' → (∀ a, a < r'.2.2 → ∀ b, b < r'.2.2 → a ≠ b → (r'.2.1 a).2.1 ≠ (r'.2.1 b).2.1) ∧ ∃ ty : Nat → FieldType, (∀ k, k < r'.2.2 → parseFieldDescriptor (r'.2.1 k).2.2.1 = some (ty k)) ∧ ∀ k, k < r'.2.2 → defaultValue (ty k) = if is_r (r'.2.1 k).2.2.1 then .null else .int 0 := by
    intro i hi
    match i, hi with
    | 0, _ => intro r' h; cases h; exact ⟨nmX0, tyX0, tyX0_ok, by decide +kernel⟩
    | 1, _ => intro r' h; cases h; exact ⟨nmX1, tyX1, tyX1_ok, by decide +kernel⟩
    | 2, _ => intro r' h; cases h; exact ⟨nmX2, tyX2, tyX2_ok, by decide +kernel⟩
    | 3, _ => intro r' h; cases h; exact ⟨nmX3, tyX3, tyX3_ok, by decide +kernel⟩
    | 4, _ => intro r' h; cases h; exact ⟨nmX4, tyX4, tyX4_ok, by decide +kernel⟩
    | 5, _ => intro r' h; cases h; exact ⟨nmX5, tyX5, tyX5_ok, by decide +kernel⟩
    | 6, _ => intro r' h; cases h; exact ⟨nmX6, tyX6, tyX6_ok, by decide +kernel⟩
    | 7, _ => intro r' h; cases h; exact ⟨nmX7, tyX7, tyX7_ok, by decide +kernel⟩
    | 8, _ => intro r' h; cases h; exact ⟨nmX8, tyX8, tyX8_ok, by decide +kernel⟩
    | 9, _ => intro r' h; cases h; exact ⟨nmX9, tyX9, tyX9_ok, by decide +kernel⟩
  exact key ci hl r h
def u2 (I : IT) (a k : Nat) (x : Int32) : IT := fun b j => if b = a ∧ j = k then x else I b j
def p2 (P : PT) (a k : Nat) (x : Nat) : PT := fun b j => if b = a ∧ j = k then x else P b j
def zI (I : IT) (a : Nat) : IT := fun b j => if b = a then 0 else I b j
def zP (P : PT) (a : Nat) : PT := fun b j => if b = a then 0 else P b j
def sA (S : ST) (t n : Nat) : ST := (sN S + 1, (fun a => if a = sN S then t else sT S a), (fun a => if a = sN S then n else sL S a))
def ix (i : Int32) (j n : Nat) : Prop := ¬ i < 0 ∧ i.toNatClampNeg = j ∧ j < n
theorem ix_n {j n : Nat} (h : j < n) (hn : n < 2 ^ 31) : ix (nI j) j n := ⟨nI_pos (by omega), nI_clamp (by omega), h⟩
theorem ix.vp {i : Int32} {j n : Nat} (h : ix i j n) : ¬ (i < 0 ∨ n ≤ i.toNatClampNeg) := by
  rintro (q | q)
  · exact h.1 q
  · rw [h.2.1] at q
    exact absurd h.2.2 (Nat.not_lt.mpr q)
theorem Rep.set {g : GT} {S : ST} {P P' : PT} {I I' : IT} {H H' : Heap} {a : Nat} (h : Rep g S P I H) (hsz : H'.size = H.size) (ho : ∀ q : Nat, q ≠ a → H'[q]? = H[q]?) (ha : gB g ≤ a) (hp : ∀ b, b ≠ a → P' b = P b) (hi : ∀ b, b ≠ a → I' b = I b) (hat : rp_at g S P' I' H' a) : Rep g S P' I' H' := by
  refine ⟨hsz.trans h.1, h.2.1, fun q hq => (ho q (by omega)).trans (h.2.2.1 q hq), fun b hb => ?_⟩
  obtain ⟨b1, b2, b3⟩ := h.2.2.2 b hb
  refine ⟨b1, b2, ?_⟩
  by_cases hba : b = a
  · subst hba; exact hat
  · refine ⟨fun ci r ht hr => ?_, fun j ht => ?_⟩
    · refine ((b3.1 ci r ht hr).kept (ho b hba)).to (fun k _ => ?_)
      unfold f_v
      rw [hp b hba, hi b hba]
    · rw [ho b hba, b3.2 j ht]
      unfold e_v
      rw [hp b hba, hi b hba]
section HEAP
variable {g : GT} {M : MT} {rc rs pc : Nat} {lv : List (Nat × Value)} {st : List Value} {S : ST} {P : PT} {I : IT} {Q : QT}
theorem B.getf {x ci k a : Nat} {rf : Bool} (hd : decode (mC M) pc = .ok (.getfield x, 3)) (hL : FL (mY M).cls x ci k rf) (ht : sT S a = ci + 1) (K : B g M rc rs (pc + 3) lv ((if rf then rv (P a k) else .int (I a k)) :: st) S P I Q) : B g M rc rs pc lv (.ref a :: st) S P I Q := by
  intro p e R s m args below meth c Z hC hR H locs cells slots ls h1 h2 h3 h4 hl
  obtain ⟨r, hr, hk, hw, hdec, hrf⟩ := hL
  obtain ⟨b1, b2, hat⟩ := h3.2.2.2 a (by rw [ht]; omega)
  obtain ⟨cell, q1, q2, q3, q4⟩ := hat.1 ci r ht hr
  obtain ⟨hx, hb, hml, hlk, hown, hts, hKn, hF, hLo, hnm⟩ := id hC
  obtain ⟨hS, hfc, kC, hkC, hkind⟩ := hKn.1.1 ci r hr
  obtain ⟨cf, kf, fi, f, hi, hsl⟩ := hS k hk
  rw [hdec] at hi
  refine W.getf hx hb hown (hts _ hw) hi ?_ q1 (by rw [q3]; exact fun h => by cases h) (v := f_v r.2.1 P I a k) (by rw [hsl]; exact q4 k hk) rfl rfl hd ?_
  · exact (u_facts hfc hkC (u_lays hts (all_in hr) hk) (by rw [hdec]; exact hi)).1
  · have : f_v r.2.1 P I a k = (if rf then rv (P a k) else .int (I a k)) := by unfold f_v; rw [hrf]
    rw [this]
    exact K p e R s m args below meth c Z hC hR H locs cells slots ls h1 h2 h3 h4 hl
theorem B.getI {x ci k a : Nat} (hd : decode (mC M) pc = .ok (.getfield x, 3)) (hL : FL (mY M).cls x ci k false) (ht : sT S a = ci + 1) (K : B g M rc rs (pc + 3) lv (.int (I a k) :: st) S P I Q) : B g M rc rs pc lv (.ref a :: st) S P I Q := B.getf hd hL ht K
theorem B.getP {x ci k a : Nat} (hd : decode (mC M) pc = .ok (.getfield x, 3)) (hL : FL (mY M).cls x ci k true) (ht : sT S a = ci + 1) {b : Nat} (hb : P a k = b + 1) (K : B g M rc rs (pc + 3) lv (.ref b :: st) S P I Q) : B g M rc rs pc lv (.ref a :: st) S P I Q := by
  refine B.getf hd hL ht ?_
  rw [hb]
  exact K
theorem upd_OB {k a : Nat} {r : vw_C} {P' : PT} {I' : IT} {v : Value} {cC : ClassId} {iS : Nat → Nat} {H : Heap} {cell : Cell} (q1 : H[a]? = some (cell.setSlot (iS k) v)) (q2 : cell.cls = cC) (q3 : cell.vm = .none) (q4 : ∀ j, j < r.2.2 → cell.slots[iS j]? = some (f_v r.2.1 P I a j)) (hap : ∀ x y, x < r.2.2 → y < r.2.2 → x ≠ y → iS x ≠ iS y) (hk : k < r.2.2) (hv : f_v r.2.1 P' I' a k = v) (hj : ∀ j, j ≠ k → f_v r.2.1 P' I' a j = f_v r.2.1 P I a j) : t_OB a cC r.2.2 iS H (f_v r.2.1 P' I' a) := by
  refine t_OB.to (V := updV (f_v r.2.1 P I a) k v) ⟨_, q1, q2, q3, t_set q4 hap hk v⟩ (fun j _ => ?_)
  by_cases hjk : j = k
  · subst hjk; rw [hv]; simp [updV]
  · rw [hj j hjk]; simp [updV, hjk]
theorem B.putG {x ci k a : Nat} {rf : Bool} {ty : FieldType} {v : Value} {P' : PT} {I' : IT} (hd : decode (mC M) pc = .ok (.putfield x, 3)) (hL : FW (mY M).cls x ci k rf false ty) (ht : sT S a = ci + 1) (hn : narrow ty v = v) (hfit : fits ty v = true)
    (hp : ∀ b, b ≠ a → P' b = P b) (hi' : ∀ b, b ≠ a → I' b = I b) (hpk : ∀ j, j ≠ k → P' a j = P a j) (hik : ∀ j, j ≠ k → I' a j = I a j) (hv : (if rf then rv (P' a k) else .int (I' a k)) = v) (K : B g M rc rs (pc + 3) lv st S P' I' Q) : B g M rc rs pc lv (v :: .ref a :: st) S P I Q := by
  intro p e R s m args below meth c Z hC hR H locs cells slots ls h1 h2 h3 h4 hl
  obtain ⟨r, hr, hk, hw, hdec, hrf, hfin, hpty, -⟩ := hL
  obtain ⟨b1, b2, hat⟩ := h3.2.2.2 a (by rw [ht]; omega)
  obtain ⟨cell, q1, q2, q3, q4⟩ := hat.1 ci r ht hr
  obtain ⟨hx, hb, hml, hlk, hown, hts, hKn, hF, hLo, hnm⟩ := id hC
  obtain ⟨hnms, ty0, hty0, -⟩ := all_nm hr
  have hap := va_apart (own := (mY M).cls) hts (all_in hr) ty0 hty0 hnms hKn.1 hr
  obtain ⟨hS, hfc, kC, hkC, hkind⟩ := hKn.1.1 ci r hr
  obtain ⟨cf, kf, fi, f, hi, hsl⟩ := hS k hk
  have hlay := hts _ (all_in hr _ (u_in_lay hk))
  unfold u_lay at hlay
  rw [if_neg (by rw [hfin]; decide)] at hlay
  have hst := (u_facts hfc hkC (u_lays hts (all_in hr) hk) hi).1
  have h6 := u_store hfc hkC hkind hlay hi hpty hn hfit
  refine W.putK hx hb (f := f) ⟨hown, hts _ hw, ⟨_, _, _, hdec ▸ hi⟩, hst⟩ (by rw [q2]; exact h6) q1 q3 (by rw [hsl]; exact k2_hasslot (q4 k hk)) rfl rfl hd fun H' e1 e2 e3 => ?_
  rw [hsl] at e1 ⊢
  have hci : ci < 10 := (List.getElem?_eq_some_iff.mp hr).1
  refine K p e R s m args below meth c Z hC hR H' _ cells slots ls h1 h2 (h3.set e2 e3 b1 hp hi' ⟨fun ci2 r2 t2 hr2 => ?_, fun j t2 => ?_⟩) (fun q hq => ?_) hl
  · have : ci2 = ci := by rw [ht] at t2; omega
    subst this
    cases hr.symm.trans hr2
    exact upd_OB e1 q2 q3 q4 hap hk (by unfold f_v; rw [hrf]; exact hv) (fun j hj => by unfold f_v; rw [hpk j hj, hik j hj])
  · rw [ht] at t2; omega
  · rcases List.mem_append.mp hq with h | h
    · exact h4 q h
    · cases List.mem_singleton.mp h
      exact b1
theorem B.putI {x ci k a : Nat} {v : Int32} (hd : decode (mC M) pc = .ok (.putfield x, 3)) (hL : FW (mY M).cls x ci k false false .int) (ht : sT S a = ci + 1) (K : B g M rc rs (pc + 3) lv st S P (u2 I a k v) Q) : B g M rc rs pc lv (.int v :: .ref a :: st) S P I Q :=
  B.putG (P' := P) (I' := u2 I a k v) hd hL ht rfl rfl (fun _ _ => rfl) (fun b hb => by funext j; simp [u2, hb]) (fun _ _ => rfl) (fun j hj => by simp [u2, hj]) (by simp [u2]) K
theorem B.putZ {x ci k a : Nat} {v : Int32} (hd : decode (mC M) pc = .ok (.putfield x, 3)) (hL : FW (mY M).cls x ci k false false .boolean) (ht : sT S a = ci + 1) (hv : v = 0 ∨ v = 1) (K : B g M rc rs (pc + 3) lv st S P (u2 I a k v) Q) : B g M rc rs pc lv (.int v :: .ref a :: st) S P I Q :=
  B.putG (P' := P) (I' := u2 I a k v) hd hL ht (by rcases hv with rfl | rfl <;> rfl) (by rcases hv with rfl | rfl <;> rfl) (fun _ _ => rfl) (fun b hb => by funext j; simp [u2, hb]) (fun _ _ => rfl) (fun j hj => by simp [u2, hj]) (by simp [u2]) K
theorem B.putF {x ci k a b : Nat} {ty : FieldType} (hd : decode (mC M) pc = .ok (.putfield x, 3)) (hL : FW (mY M).cls x ci k true true ty) (hin : (mY M).name = "<init>") (ht : sT S a = ci + 1) (hfit : fits ty (.ref b) = true) (hn : narrow ty (.ref b) = .ref b) (K : B g M rc rs (pc + 3) lv st S (p2 P a k (b + 1)) I Q) : B g M rc rs pc lv (.ref b :: .ref a :: st) S P I Q := by
  intro p e R s m args below meth c Z hC hR H locs cells slots ls h1 h2 h3 h4 hl
  obtain ⟨r, hr, hk, hw, hdec, hrf, hfin, hpty, hfo⟩ := hL
  obtain ⟨b1, b2, hat⟩ := h3.2.2.2 a (by rw [ht]; omega)
  obtain ⟨cell, q1, q2, q3, q4⟩ := hat.1 ci r ht hr
  obtain ⟨hx, hb, hml, hlk, hown, hts, hKn, hF, hLo, hnm⟩ := id hC
  obtain ⟨hnms, ty0, hty0, -⟩ := all_nm hr
  have hap := va_apart (own := (mY M).cls) hts (all_in hr) ty0 hty0 hnms hKn.1 hr
  obtain ⟨hS, hfc, kC, hkC, hkind⟩ := hKn.1.1 ci r hr
  obtain ⟨cf, kf, fi, f, hi, hsl⟩ := hS k hk
  have hlay := hts _ (all_in hr _ (u_in_lay hk))
  unfold u_lay at hlay
  rw [if_pos hfin] at hlay
  have hst := (u_facts hfc hkC (Or.inr hlay) hi).1
  have h6 := u_fits hfc hkC hkind (Or.inr hlay) hi hpty hn hfit
  have hcf : m.cls = cf := by
    obtain ⟨_, _, c', _, _, _, -, -, hf', -, -, -, hown2, -⟩ := Cond.laysFinal_spec hlay
    have e1 : c' = cf := by have := hi.symm.trans hf'; simp at this; exact this.1.symm
    rw [hdec, ← hfo rfl] at hown2
    rw [← e1]; exact Option.some.inj (hown.symm.trans hown2)
  refine W.putFinK hx hb hown (hts _ hw) (f := f) (hdec ▸ hi) hst hcf (hnm.trans hin) (by rw [q2]; exact h6) q1 q3 (by rw [hsl]; exact k2_hasslot (q4 k hk)) rfl rfl hd fun H' e1 e2 e3 => ?_
  rw [hsl] at e1 ⊢
  refine K p e R s m args below meth c Z hC hR H' _ cells slots ls h1 h2 (h3.set e2 e3 b1 (fun b' hb' => by funext j; simp [p2, hb']) (fun _ _ => rfl) ⟨fun ci2 r2 t2 hr2 => ?_, fun j t2 => ?_⟩) (fun q hq => ?_) hl
  · have : ci2 = ci := by rw [ht] at t2; omega
    subst this
    cases hr.symm.trans hr2
    exact upd_OB e1 q2 q3 q4 hap hk (by unfold f_v; rw [hrf]; simp [p2, rv]) (fun j hj => by unfold f_v; simp [p2, hj])
  · have hci : ci < 10 := (List.getElem?_eq_some_iff.mp hr).1
    rw [ht] at t2; omega
  · rcases List.mem_append.mp hq with h | h
    · exact h4 q h
    · cases List.mem_singleton.mp h
      exact b1
end HEAP
