theorem sA_t (S : ST) (t n b : Nat) : sT (sA S t n) b = if b = sN S then t else sT S b := rfl
theorem sA_l (S : ST) (t n b : Nat) : sL (sA S t n) b = if b = sN S then n else sL S b := rfl
section ARR
variable {g : GT} {M : MT} {rc rs pc : Nat} {lv : List (Nat × Value)} {st : List Value} {S : ST} {P : PT} {I : IT} {Q : QT}
theorem B.iaload {a j : Nat} {i : Int32} (hd : decode (mC M) pc = .ok (.iaload, 1)) (ht : sT S a = 40) (hi : ix i j (sL S a)) (K : B g M rc rs (pc + 1) lv (.int (I a j) :: st) S P I Q) : B g M rc rs pc lv (.int i :: .ref a :: st) S P I Q := by
  intro p e R s m args below meth c Z hC hR H locs cells slots ls h1 h2 h3 h4 hl
  obtain ⟨b1, b2, hat⟩ := h3.2.2.2 a (by rw [ht]; omega)
  have hc := hat.2 0 ht
  refine W.iald (v := .int (I a j)) hC.1 hC.2.1 hc ((hC.2.2.2.2.2.2.1.2.1 0 (by decide)).1 _ _) (fun q => by cases q) (by rw [arrV_size]; exact hi.vp) (by rw [hi.2.1, arrV_read _ _ hi.2.2]; rfl) rfl rfl hd ?_
  exact K p e R s m args below meth c Z hC hR H locs cells slots ls h1 h2 h3 h4 hl
theorem B.baload {a j : Nat} {i : Int32} (hd : decode (mC M) pc = .ok (.baload, 1)) (ht : sT S a = 41) (hi : ix i j (sL S a)) (K : B g M rc rs (pc + 1) lv (.int (I a j) :: st) S P I Q) : B g M rc rs pc lv (.int i :: .ref a :: st) S P I Q := by
  intro p e R s m args below meth c Z hC hR H locs cells slots ls h1 h2 h3 h4 hl
  obtain ⟨b1, b2, hat⟩ := h3.2.2.2 a (by rw [ht]; omega)
  have hc := hat.2 1 ht
  refine W.bald (v := .int (I a j)) hC.1 hC.2.1 hc ((hC.2.2.2.2.2.2.1.2.1 1 (by decide)).1 _ _) (fun q => by cases q) (by rw [arrV_size]; exact hi.vp) (by rw [hi.2.1, arrV_read _ _ hi.2.2]; rfl) rfl rfl hd ?_
  exact K p e R s m args below meth c Z hC hR H locs cells slots ls h1 h2 h3 h4 hl
theorem B.zaload {a j : Nat} {i : Int32} (hd : decode (mC M) pc = .ok (.baload, 1)) (ht : sT S a = 42) (hi : ix i j (sL S a)) (K : B g M rc rs (pc + 1) lv (.int (I a j) :: st) S P I Q) : B g M rc rs pc lv (.int i :: .ref a :: st) S P I Q := by
  intro p e R s m args below meth c Z hC hR H locs cells slots ls h1 h2 h3 h4 hl
  obtain ⟨b1, b2, hat⟩ := h3.2.2.2 a (by rw [ht]; omega)
  have hc := hat.2 2 ht
  refine W.zald (v := .int (I a j)) hC.1 hC.2.1 hc ((hC.2.2.2.2.2.2.1.2.1 2 (by decide)).1 _ _) (fun q => by cases q) (by rw [arrV_size]; exact hi.vp) (by rw [hi.2.1, arrV_read _ _ hi.2.2]; rfl) rfl rfl hd ?_
  exact K p e R s m args below meth c Z hC hR H locs cells slots ls h1 h2 h3 h4 hl
theorem a_ty_ref {t : Nat} (h : 3 ≤ t) : (a_ty t).isReference = true := by
  match t, h with
  | 3, _ => rfl
  | 4, _ => rfl
  | n + 5, _ => rfl
theorem B.aaloadG {a j t : Nat} {i : Int32} (ht3 : 3 ≤ t) (ht6 : t < 6) (hd : decode (mC M) pc = .ok (.aaload, 1)) (ht : sT S a = 40 + t) (hi : ix i j (sL S a)) (K : B g M rc rs (pc + 1) lv (rv (P a j) :: st) S P I Q) : B g M rc rs pc lv (.int i :: .ref a :: st) S P I Q := by
  intro p e R s m args below meth c Z hC hR H locs cells slots ls h1 h2 h3 h4 hl
  obtain ⟨b1, b2, hat⟩ := h3.2.2.2 a (by rw [ht]; omega)
  have hc := hat.2 t ht
  refine W.aald (v := rv (P a j)) hC.1 hC.2.1 hc ((hC.2.2.2.2.2.2.1.2.1 t ht6).1 _ _) (a_ty_ref ht3) (fun q => by cases q) (by rw [arrV_size]; exact hi.vp) (by rw [hi.2.1, arrV_read _ _ hi.2.2]; unfold e_v; rw [if_neg (by omega)]) rfl rfl hd ?_
  exact K p e R s m args below meth c Z hC hR H locs cells slots ls h1 h2 h3 h4 hl
theorem B.aaload {a j b : Nat} (t : Nat) {i : Int32} (htt : 3 ≤ t ∧ t < 6) (hd : decode (mC M) pc = .ok (.aaload, 1)) (ht : sT S a = 40 + t) (hi : ix i j (sL S a)) (hb : P a j = b + 1) (K : B g M rc rs (pc + 1) lv (.ref b :: st) S P I Q) : B g M rc rs pc lv (.int i :: .ref a :: st) S P I Q := by
  refine B.aaloadG htt.1 htt.2 hd ht hi ?_
  rw [hb]
  exact K
theorem set_arr {a j t n : Nat} {cA : ClassId} {v : Value} {P' : PT} {I' : IT} {H : Heap} (h : H[a]? = some ((arrV cA n (e_v P I a t)).setSlot j v)) (hv : e_v P' I' a t j = v) (hj : ∀ k, k ≠ j → e_v P' I' a t k = e_v P I a t k) : H[a]? = some (arrV cA n (e_v P' I' a t)) := by
  rw [h, arrV_store]
  congr 2
  funext k
  by_cases hk : k = j
  · subst hk; rw [hv]; simp [updV]
  · rw [hj k hk]; simp [updV, hk]
theorem B.iastore {a j : Nat} {i v : Int32} (hd : decode (mC M) pc = .ok (.iastore, 1)) (ht : sT S a = 40) (hi : ix i j (sL S a)) (K : B g M rc rs (pc + 1) lv st S P (u2 I a j v) Q) : B g M rc rs pc lv (.int v :: .int i :: .ref a :: st) S P I Q := by
  intro p e R s m args below meth c Z hC hR H locs cells slots ls h1 h2 h3 h4 hl
  obtain ⟨b1, b2, hat⟩ := h3.2.2.2 a (by rw [ht]; omega)
  have hc := hat.2 0 ht
  refine W.iast hC.1 hC.2.1 hc ((hC.2.2.2.2.2.2.1.2.1 0 (by decide)).1 _ _) (fun q => by cases q) (by rw [arrV_size]; exact hi.vp) rfl rfl hd fun H' e1 e2 e3 => ?_
  rw [hi.2.1] at e1 ⊢
  refine K p e R s m args below meth c Z hC hR H' _ cells slots ls h1 h2 (h3.set e2 e3 b1 (fun _ _ => rfl) (fun b hb => by funext k; simp [u2, hb]) ⟨fun ci r t2 hr => ?_, fun t t2 => ?_⟩) (fun q hq => ?_) hl
  · have hci : ci < 10 := (List.getElem?_eq_some_iff.mp hr).1
    rw [ht] at t2; omega
  · have : t = 0 := by rw [ht] at t2; omega
    subst this
    exact set_arr e1 (by simp [e_v, u2]) (fun k hk => by simp [e_v, u2, hk])
  · rcases List.mem_append.mp hq with h | h
    · exact h4 q h
    · cases List.mem_singleton.mp h
      exact b1
theorem B.bastore {a j : Nat} {i v : Int32} (hd : decode (mC M) pc = .ok (.bastore, 1)) (ht : sT S a = 41) (hi : ix i j (sL S a)) (hv : narrow .byte (.int v) = .int v) (K : B g M rc rs (pc + 1) lv st S P (u2 I a j v) Q) : B g M rc rs pc lv (.int v :: .int i :: .ref a :: st) S P I Q := by
  intro p e R s m args below meth c Z hC hR H locs cells slots ls h1 h2 h3 h4 hl
  obtain ⟨b1, b2, hat⟩ := h3.2.2.2 a (by rw [ht]; omega)
  have hc := hat.2 1 ht
  refine W.bast hC.1 hC.2.1 hc ((hC.2.2.2.2.2.2.1.2.1 1 (by decide)).1 _ _) (fun q => by cases q) (by rw [arrV_size]; exact hi.vp) rfl rfl hd fun H' e1 e2 e3 => ?_
  rw [hi.2.1, hv] at e1
  rw [hi.2.1]
  refine K p e R s m args below meth c Z hC hR H' _ cells slots ls h1 h2 (h3.set e2 e3 b1 (fun _ _ => rfl) (fun b hb => by funext k; simp [u2, hb]) ⟨fun ci r t2 hr => ?_, fun t t2 => ?_⟩) (fun q hq => ?_) hl
  · have hci : ci < 10 := (List.getElem?_eq_some_iff.mp hr).1
    rw [ht] at t2; omega
  · have : t = 1 := by rw [ht] at t2; omega
    subst this
    exact set_arr e1 (by simp [e_v, u2]) (fun k hk => by simp [e_v, u2, hk])
  · rcases List.mem_append.mp hq with h | h
    · exact h4 q h
    · cases List.mem_singleton.mp h
      exact b1
theorem B.zastore {a j : Nat} {i v : Int32} (hd : decode (mC M) pc = .ok (.bastore, 1)) (ht : sT S a = 42) (hi : ix i j (sL S a)) (hv : v = 0 ∨ v = 1) (K : B g M rc rs (pc + 1) lv st S P (u2 I a j v) Q) : B g M rc rs pc lv (.int v :: .int i :: .ref a :: st) S P I Q := by
  intro p e R s m args below meth c Z hC hR H locs cells slots ls h1 h2 h3 h4 hl
  obtain ⟨b1, b2, hat⟩ := h3.2.2.2 a (by rw [ht]; omega)
  have hc := hat.2 2 ht
  refine W.zast hC.1 hC.2.1 hc ((hC.2.2.2.2.2.2.1.2.1 2 (by decide)).1 _ _) (fun q => by cases q) (by rw [arrV_size]; exact hi.vp) rfl rfl hd fun H' e1 e2 e3 => ?_
  rw [hi.2.1, show narrow .boolean (.int v) = .int v by rcases hv with rfl | rfl <;> rfl] at e1
  rw [hi.2.1]
  refine K p e R s m args below meth c Z hC hR H' _ cells slots ls h1 h2 (h3.set e2 e3 b1 (fun _ _ => rfl) (fun b hb => by funext k; simp [u2, hb]) ⟨fun ci r t2 hr => ?_, fun t t2 => ?_⟩) (fun q hq => ?_) hl
  · have hci : ci < 10 := (List.getElem?_eq_some_iff.mp hr).1
    rw [ht] at t2; omega
  · have : t = 2 := by rw [ht] at t2; omega
    subst this
    exact set_arr e1 (by simp [e_v, u2]) (fun k hk => by simp [e_v, u2, hk])
  · rcases List.mem_append.mp hq with h | h
    · exact h4 q h
    · cases List.mem_singleton.mp h
      exact b1
theorem B.aastore {a j v : Nat} (t ci : Nat) (r : vw_C) {i : Int32} (htt : 3 ≤ t ∧ t < 6) (hr : vwCl[ci]? = some r) (hty : a_ty t = .object r.1) (hd : decode (mC M) pc = .ok (.aastore, 1)) (ht : sT S a = 40 + t) (hi : ix i j (sL S a)) (hv : sT S v = ci + 1) (K : B g M rc rs (pc + 1) lv st S (p2 P a j (v + 1)) I Q) : B g M rc rs pc lv (.ref v :: .int i :: .ref a :: st) S P I Q := by
  intro p e R s m args below meth c Z hC hR H locs cells slots ls h1 h2 h3 h4 hl
  obtain ⟨b1, b2, hat⟩ := h3.2.2.2 a (by rw [ht]; omega)
  obtain ⟨d1, d2, hatv⟩ := h3.2.2.2 v (by rw [hv]; omega)
  have hc := hat.2 t ht
  obtain ⟨cellV, g1, g2, g3, -⟩ := hatv.1 ci r hv hr
  have hcls := (hC.2.2.2.2.2.2.1.1.1 ci r hr).2
  have hra := (hC.2.2.2.2.2.2.1.2.1 t htt.2).2
  rw [hty] at hra
  obtain ⟨kA, comp, k1, k2, k3, -⟩ := hra
  have hcomp : comp = g.2.1.1 ci := Option.some.inj (k3.symm.trans hcls.1)
  subst hcomp
  obtain ⟨kC, hkC, -⟩ := hcls.2
  refine W.aast hC.1 hC.2.1 hc (fun q h => by cases h) (fun h => by cases h) k1 k2 rfl hkC ⟨hi.1, by rw [arrV_size, hi.2.1]; exact hi.2.2⟩ g1 (fun q h => by rw [g3] at h; cases h) (by rw [g2]; exact hkC) (by rw [g2]; exact va_assign hcls) rfl rfl hd fun H' e1 e2 e3 => ?_
  rw [hi.2.1] at e1 ⊢
  refine K p e R s m args below meth c Z hC hR H' _ cells slots ls h1 h2 (h3.set e2 e3 b1 (fun b hb => by funext k; simp [p2, hb]) (fun _ _ => rfl) ⟨fun ci r t2 hr => ?_, fun t' t2 => ?_⟩) (fun q hq => ?_) hl
  · have hci : ci < 10 := (List.getElem?_eq_some_iff.mp hr).1
    rw [ht] at t2; omega
  · have : t' = t := by rw [ht] at t2; omega
    subst this
    have h3' : ¬ t' < 3 := by omega
    exact set_arr e1 (by simp [e_v, p2, h3', rv]) (fun k hk => by simp [e_v, p2, hk])
  · rcases List.mem_append.mp hq with h | h
    · exact h4 q h
    · cases List.mem_singleton.mp h
      exact b1
theorem Rep.new {t n : Nat} {H H' : Heap} (h : Rep g S P I H) (hsz : H'.size = sN S + 1) (ho : ∀ q : Nat, q < sN S → H'[q]? = H[q]?) (hat : rp_at g (sA S t n) (zP P (sN S)) (zI I (sN S)) H' (sN S)) : Rep g (sA S t n) (zP P (sN S)) (zI I (sN S)) H' := by
  refine ⟨hsz, Nat.le_succ_of_le h.2.1, fun q hq => (ho q (Nat.lt_of_lt_of_le hq h.2.1)).trans (h.2.2.1 q hq), fun b hb => ?_⟩
  by_cases hbn : b = sN S
  · subst hbn
    exact ⟨h.2.1, Nat.lt_succ_self _, hat⟩
  · have e : sT (sA S t n) b = sT S b := by rw [sA_t, if_neg hbn]
    rw [e] at hb
    obtain ⟨b1, b2, b3⟩ := h.2.2.2 b hb
    refine ⟨b1, Nat.lt_succ_of_lt b2, fun ci r ht hr => ?_, fun j ht => ?_⟩
    · rw [e] at ht
      refine ((b3.1 ci r ht hr).kept (ho b b2)).to (fun k _ => ?_)
      simp [f_v, zP, zI, hbn]
    · rw [e] at ht
      rw [ho b b2, b3.2 j ht]
      have e2 : sL (sA S t n) b = sL S b := by rw [sA_l, if_neg hbn]
      rw [e2]
      congr 2
      funext k
      simp [e_v, zP, zI, hbn]
theorem B.newarr {t N : Nat} {n : Int32} (atype : ArrayType) (htt : t < 3) (hty : newarray.typeOf atype = a_ty t) (hdf : defaultValue (a_ty t) = .int 0) (hw : Cond.arrayClass (newarray.typeOf atype) ∈ gws) (hd : decode (mC M) pc = .ok (.newarray atype, 2)) (hn : ¬ n < 0) (hN : n.toNatClampNeg = N) (hbytes : N * componentBytes (newarray.typeOf atype) ≤ 536870912) (K : B g M rc rs (pc + 2) lv (.ref (sN S) :: st) (sA S (40 + t) N) (zP P (sN S)) (zI I (sN S)) Q) : B g M (rc + 1) (rs + N) pc lv (.int n :: st) S P I Q := by
  intro p e R s m args below meth c Z hC hR H locs cells slots ls h1 h2 h3 h4 hl
  refine va_newaK hC.1 hC.2.1 (hC.2.2.2.2.2.1 _ hw) rfl hd rfl hn hN hbytes (by omega) (by omega) (h := sN S) h3.1 fun H' cA e1 e2 e3 e4 e5 => ?_
  have hcA : cA = g.2.2.1 t := by
    have hra := (hC.2.2.2.2.2.2.1.2.1 t (by omega)).2
    rw [hty] at e5
    have : s.vm.findClass ("[" ++ (a_ty t).toString) = some (g.2.2.1 t) := by
      match t, htt with
      | 0, _ => exact hra
      | 1, _ => exact hra
      | 2, _ => exact hra
    exact Option.some.inj (e5.symm.trans this)
  refine K p e R s m args below meth c Z hC hR H' locs (cells + 1) (slots + N) ls (by omega) (by omega) (h3.new e2 e3 ⟨fun ci r t2 hr => ?_, fun j t2 => ?_⟩) h4 hl
  · have hci : ci < 10 := (List.getElem?_eq_some_iff.mp hr).1
    rw [sA_t, if_pos rfl] at t2; omega
  · have hj : j = t := by rw [sA_t, if_pos rfl] at t2; omega
    subst hj
    rw [e1, hcA, hty, hdf]
    have : sL (sA S (40 + j) N) (sN S) = N := by rw [sA_l, if_pos rfl]
    rw [this]
    congr 2
    funext k
    simp [e_v, htt, zI]
theorem B.newrefs {t N x : Nat} {n : Int32} (ci : Nat) (r : vw_C) (htt : 3 ≤ t ∧ t < 6) (hr0 : vwCl[ci]? = some r) (hty : a_ty t = .object r.1) (hw1 : Cond.classLink (mY M).cls x r.1 ∈ gws) (hw2 : r.1 ∈ [RX1, RX3, RX7]) (hd : decode (mC M) pc = .ok (.anewarray x, 3)) (hn : ¬ n < 0) (hN : n.toNatClampNeg = N) (hbytes : N * 4 ≤ 536870912) (K : B g M rc rs (pc + 3) lv (.ref (sN S) :: st) (sA S (40 + t) N) (zP P (sN S)) (zI I (sN S)) Q) : B g M (rc + 1) (rs + N) pc lv (.int n :: st) S P I Q := by
  intro p e R s m args below meth c Z hC hR H locs cells slots ls h1 h2 h3 h4 hl
  subst hN
  refine W.anew hC.1 hC.2.1 hC.2.2.2.2.1 (hC.2.2.2.2.2.1 _ hw1) (va_AO.use (hC.2.2.2.2.2.2.1.2.2.2.1 _ hw2)) rfl hd rfl hn hbytes (by omega) (by omega) fun cA kA comp e1 e2 e3 e4 => ?_
  have hcA : cA = g.2.2.1 t := by
    have hra := (hC.2.2.2.2.2.2.1.2.1 t (by omega)).2
    rw [hty] at hra
    obtain ⟨_, _, _, _, _, k4⟩ := hra
    exact Option.some.inj (e1.symm.trans k4)
  have hs := h3.1
  have hst : ((.ref H.size : Value) :: st) = .ref (sN S) :: st := by rw [hs]
  show W p g.1 e R s m args below meth c _ _ _ _ _ (F0 m (pc + 3) ls (.ref H.size :: st))
  rw [hst]
  refine K p e R s m args below meth c Z hC hR _ locs (cells + 1) (slots + n.toNatClampNeg) ls (by omega) (by omega) (h3.new (by simp [hs]) (fun q hq => by rw [Array.getElem?_push, if_neg (by omega)]) ⟨fun ci r t2 hr => ?_, fun j t2 => ?_⟩) h4 hl
  · have hci : ci < 10 := (List.getElem?_eq_some_iff.mp hr).1
    rw [sA_t, if_pos rfl] at t2; omega
  · have hj : j = t := by rw [sA_t, if_pos rfl] at t2; omega
    subst hj
    rw [arrV_new, ← hs]
    have : sL (sA S (40 + j) n.toNatClampNeg) H.size = n.toNatClampNeg := by rw [hs, sA_l, if_pos rfl]
    rw [this, ← hcA]
    simp only [Array.getElem?_push_size]
    congr 2
    funext k
    have h3' : ¬ j < 3 := by omega
    simp [e_v, h3', zP, rv]
theorem B.newobj {x : Nat} (ci : Nat) (r : vw_C) (hr0 : vwCl[ci]? = some r) (hw1 : Cond.classLink (mY M).cls x r.1 ∈ gws) (hw2 : Cond.instantiable r.1 r.2.2 ∈ gws) (hw3 : Cond.initialized r.1 ∈ gws) (hd : decode (mC M) pc = .ok (.new x, 3)) (K : B g M rc rs (pc + 3) lv (.ref (sN S) :: st) (sA S (ci + 1) 0) (zP P (sN S)) (zI I (sN S)) Q) : B g M (rc + 1) (rs + r.2.2) pc lv st S P I Q := by
  intro p e R s m args below meth c Z hC hR H locs cells slots ls h1 h2 h3 h4 hl
  have hKn := hC.2.2.2.2.2.2.1.1.1 ci r hr0
  have hts := hC.2.2.2.2.2.1
  refine W.newcK hC.1 hC.2.1 hC.2.2.2.2.1 (hts _ hw1) (hts _ hw2) (hts _ hw3) rfl hd (by omega) (by omega) (cC := g.2.1.1 ci) hKn.2.1 (h := sN S) h3.1 fun H' kC e1 e2 e3 e4 => ?_
  obtain ⟨-, ty0, hty0, hdf⟩ := all_nm hr0
  refine K p e R s m args below meth c Z hC hR H' locs (cells + 1) (slots + r.2.2) ls (by omega) (by omega) (h3.new e3 e4 ⟨fun ci2 r2 t2 hr => ?_, fun j t2 => ?_⟩) h4 hl
  · have : ci2 = ci := by rw [sA_t, if_pos rfl] at t2; omega
    subst this
    cases hr0.symm.trans hr
    refine (u_born ty0 hts (all_in hr0) hKn e1 e2 hty0).to (fun k hk => ?_)
    rw [hdf k hk]
    simp [f_v, zP, zI, rv]
  · have hci : ci < 10 := (List.getElem?_eq_some_iff.mp hr0).1
    rw [sA_t, if_pos rfl] at t2; omega
end ARR
