section CALLS
variable {g : GT} {M : MT} {rc rs pc : Nat} {lv : List (Nat × Value)} {st : List Value} {S : ST} {P : PT} {I : IT} {Q : QT} {M' : MT} {mc ms : Nat}
theorem cg_b {p : Program} {R : Room} {s : State} {m : MethodId} {args : Array Value} {meth : Method} {c : Code} {n x : Nat} (hC : Cx g M p R s m args meth c) (hM : MG M' n) (hR : RM M M') (hl : Cond.methodLink (mY M).cls x (mY M') ∈ gws) : CallB R s args (mY M).cls x (mY M') (mC M') (mX M') (mR M') (wsM M') (rmM M' mc ms) mc ms n := by
  obtain ⟨hx, hb, hml, hlk, hown, hts, hKn, hF, hLo, hnm⟩ := hC
  have hG : GoodIn gws (wsM M') := fun w hw => by
    rcases List.mem_cons.mp hw with h | h
    · rw [h]; exact ⟨hM.1, gws_good hM.1⟩
    · exact ⟨h, gws_good h⟩
  have h1 := hR.1
  have h2 := hR.2
  exact callB_of n hts hG rfl rfl rfl (hts _ hM.2.1) (hts _ hl) ⟨hM.2.2.1.1, hM.2.2.1.2, hM.2.2.2⟩ ⟨by show mF M' + 1 ≤ _; omega, by show 8 + (mX M' + 11) + mL M' ≤ _; omega⟩
theorem cg_n {p : Program} {R : Room} {s : State} {m : MethodId} {args : Array Value} {meth : Method} {c : Code} {n x : Nat} {host : String} (hC : Cx g M p R s m args meth c) (hM : MG M' n) (hR : RM M M') (hl : ∃ i, (i, (mY M).cls, x, mY M', host) ∈ nst) : va_CN R s args (mY M).cls x (mY M') host (mC M') (mX M') (mR M') (wsM M') (rmM M' mc ms) mc ms n := by
  obtain ⟨hx, hb, hml, hlk, hown, hts, hKn, hF, hLo, hnm⟩ := hC
  have hG : GoodIn gws (wsM M') := fun w hw => by
    rcases List.mem_cons.mp hw with h | h
    · rw [h]; exact ⟨hM.1, gws_good hM.1⟩
    · exact ⟨h, gws_good h⟩
  have h1 := hR.1
  have h2 := hR.2
  obtain ⟨iN, hiN⟩ := hl
  exact va_cnB n hts hG rfl rfl rfl (hKn.2.2.1 _ hiN) (hts _ hM.2.1) ⟨hM.2.2.1.1, hM.2.2.1.2, hM.2.2.2⟩ ⟨by show mF M' + 1 ≤ _; omega, by show 8 + (mX M' + 11) + mL M' ≤ _; omega⟩
theorem pre_blind {as : List Value} : FrameBlind (va_Pc as (fun U => Rep g S P I U.heap ∧ Kn g U)) := fun a U gg mk q => ⟨q.1, q.2.1, Kn.same (u := U) (U := U.calling gg mk a) rfl q.2.2⟩
theorem run_on {p : Program} {e : Env} {R : Room} {s : State} {m : MethodId} {args : Array Value} {below : List Frame} {meth : Method} {c : Code} {Z : State → Prop} {H : Heap} {locs : List Loc} {cells slots : Nat} {ls : Array Slot} {st0 : List Value}
    (hC : Cx g M p R s m args meth c) (hR : RO g M p e R s m args below meth c Q Z) (h1 : cells + (rc + mc) ≤ R.cells) (h2 : slots + (rs + ms) ≤ R.slots) (h4 : ∀ q ∈ locs, gB g ≤ q.base) (hl : lv_has ls (mX M) lv)
    (hr : va_Run p g.1 e R s m args below meth c H locs cells slots mc ms (F0 m pc ls st0) st (fun _ o t => ∃ (r : Option Value) (S' : ST) (P' : PT) (I' : IT), o = .returned r ∧ Rep g S' P' I' t.heap ∧ B g M rc rs (pc + 3) lv (r.toList ++ st) S' P' I' Q) (fun q => gB g ≤ q)) : W p g.1 e R s m args below meth c H locs cells slots Z (F0 m pc ls st0) := by
  intro T0 hT X
  obtain ⟨v, st₀, t, T', L, h0, X', hL, e1, e2, ⟨r, S', P', I', hv, hRep, hB⟩, go⟩ := hr T0 hT X
  cases hv
  obtain ⟨t2, a1, b1⟩ := hB p e R s m args below meth c Z hC hR T'.heap (locs ++ L) (cells + mc) (slots + ms) ls (by omega) (by omega) (by rw [e1]; exact hRep) (fun q hq => by
    rcases List.mem_append.mp hq with h | h
    · exact h4 q h
    · exact hL q h) hl T' rfl X'
  exact ⟨t2, go t2 a1, b1⟩
theorem B.callV {x n ci b : Nat} {st0 : List Value} (As : List Value) (hd : decode (mC M) pc = .ok (.invokevirtual x, 3)) (hM : MV M' n ci) (hlk : Cond.methodLink (mY M).cls x (mY M') ∈ gws) (hRM : RM M M') (hn : As.length = n) (hs : st0 = As.reverse ++ .ref b :: st) (hc8 : (st.map fun v => v.category).sum ≤ 8) (ht : sT S b = ci + 1)
    (K : T g M' mc ms (.ref b :: As) S P I (fun r S' P' I' => B g M rc rs (pc + 3) lv (r.toList ++ st) S' P' I' Q)) : B g M (rc + mc) (rs + ms) pc lv st0 S P I Q := by
  intro p e R s m args below meth c Z hC hR H locs cells slots ls h1 h2 h3 h4 hl
  obtain ⟨r, hr, hrc⟩ := hM.2.2.2
  obtain ⟨b1, b2, hat⟩ := h3.2.2.2 b (by rw [ht]; omega)
  obtain ⟨cell, q1, q2, q3, q4⟩ := hat.1 ci r ht hr
  have hts := hC.2.2.2.2.2.1
  have hfc := (hC.2.2.2.2.2.2.1.1.1 ci r hr).2.1
  subst hs
  exact run_on hC hR h1 h2 h4 hl (va_runV (C := (mY M').cls) (Ts := gws) (cc := mC M) (nL := mX M) ⟨hC.1, hC.2.1, hC.2.2.1, hC.2.2.2.2.1, hts⟩ K ⟨cg_b hC hM.1 hRM hlk, hts _ hM.2.1, hts _ hM.2.2.1⟩ ⟨pre_blind, ⟨cell, q1, by rw [q3]; rfl, by rw [q2, ← hrc]; exact hfc⟩, fun U hU hW => ⟨rfl, by rw [hU]; exact h3, Kn.warm hW hC.2.2.2.2.2.2.1⟩⟩ rfl hn hl.1 rfl (lv_room hc8) hd ⟨by omega, by omega⟩)
theorem B.callS {x n : Nat} {st0 : List Value} (As : List Value) (hd : decode (mC M) pc = .ok (.invokestatic x, 3)) (hM : MS M' n) (hlk : Cond.methodLink (mY M).cls x (mY M') ∈ gws) (hRM : RM M M') (hn : As.length = n) (hs : st0 = As.reverse ++ st) (hc8 : (st.map fun v => v.category).sum ≤ 8)
    (K : T g M' mc ms As S P I (fun r S' P' I' => B g M rc rs (pc + 3) lv (r.toList ++ st) S' P' I' Q)) : B g M (rc + mc) (rs + ms) pc lv st0 S P I Q := by
  intro p e R s m args below meth c Z hC hR H locs cells slots ls h1 h2 h3 h4 hl
  have hts := hC.2.2.2.2.2.1
  subst hs
  exact run_on hC hR h1 h2 h4 hl (va_runS (Ts := gws) (cc := mC M) (nL := mX M) ⟨hC.1, hC.2.1, hC.2.2.1, hC.2.2.2.2.1, hts⟩ K ⟨cg_b hC hM.1 hRM hlk, hts _ hM.2⟩ ⟨pre_blind, fun U hU hW => ⟨rfl, by rw [hU]; exact h3, Kn.warm hW hC.2.2.2.2.2.2.1⟩⟩ rfl hn hl.1 rfl (lv_room hc8) hd ⟨by omega, by omega⟩)
theorem B.callSN {x n : Nat} {st0 : List Value} (As : List Value) (host : String) (hd : decode (mC M) pc = .ok (.invokestatic x, 3)) (hM : MS M' n) (hlk : ∃ i, (i, (mY M).cls, x, mY M', host) ∈ nst) (hRM : RM M M') (hn : As.length = n) (hs : st0 = As.reverse ++ st) (hc8 : (st.map fun v => v.category).sum ≤ 8)
    (K : T g M' mc ms As S P I (fun r S' P' I' => B g M rc rs (pc + 3) lv (r.toList ++ st) S' P' I' Q)) : B g M (rc + mc) (rs + ms) pc lv st0 S P I Q := by
  intro p e R s m args below meth c Z hC hR H locs cells slots ls h1 h2 h3 h4 hl
  have hts := hC.2.2.2.2.2.1
  subst hs
  exact run_on hC hR h1 h2 h4 hl (va_runSN (Ts := gws) (cc := mC M) (nL := mX M) ⟨hC.1, hC.2.1, hC.2.2.1, hC.2.2.2.2.1, hts⟩ K ⟨cg_n hC hM.1 hRM hlk, hts _ hM.2, trivial⟩ ⟨pre_blind, fun U hU hW => ⟨rfl, by rw [hU]; exact h3, Kn.warm hW hC.2.2.2.2.2.2.1⟩⟩ rfl hn hl.1 rfl (lv_room hc8) hd ⟨by omega, by omega⟩)
theorem B.callI {x n b : Nat} {st0 : List Value} (As : List Value) (hd : decode (mC M) pc = .ok (.invokespecial x, 3)) (hM : MI M' n) (hlk : Cond.methodLink (mY M).cls x (mY M') ∈ gws) (hRM : RM M M') (hn : As.length = n) (hs : st0 = As.reverse ++ .ref b :: st) (hc8 : (st.map fun v => v.category).sum ≤ 8)
    (K : T g M' mc ms (.ref b :: As) S P I (fun r S' P' I' => B g M rc rs (pc + 3) lv (r.toList ++ st) S' P' I' Q)) : B g M (rc + mc) (rs + ms) pc lv st0 S P I Q := by
  intro p e R s m args below meth c Z hC hR H locs cells slots ls h1 h2 h3 h4 hl
  have hts := hC.2.2.2.2.2.1
  subst hs
  have hcb := cg_b (mc := mc) (ms := ms) hC hM.1 hRM hlk
  rw [hM.2.2.2] at hcb
  exact run_on hC hR h1 h2 h4 hl (va_runI (Ts := gws) (cc := mC M) (nL := mX M) ⟨hC.1, hC.2.1, hC.2.2.1, hC.2.2.2.2.1, hts⟩ K ⟨hcb, hM.2.2.1, hts _ hM.2.1⟩ ⟨pre_blind, fun U hU hW => ⟨rfl, by rw [hU]; exact h3, Kn.warm hW hC.2.2.2.2.2.2.1⟩⟩ rfl hn hl.1 rfl (lv_room hc8) hd ⟨by omega, by omega⟩)
theorem B.callIN {x n b : Nat} {st0 : List Value} (As : List Value) (host : String) (hd : decode (mC M) pc = .ok (.invokespecial x, 3)) (hM : MI M' n) (hlk : ∃ i, (i, (mY M).cls, x, mY M', host) ∈ nst) (hRM : RM M M') (hn : As.length = n) (hs : st0 = As.reverse ++ .ref b :: st) (hc8 : (st.map fun v => v.category).sum ≤ 8)
    (K : T g M' mc ms (.ref b :: As) S P I (fun r S' P' I' => B g M rc rs (pc + 3) lv (r.toList ++ st) S' P' I' Q)) : B g M (rc + mc) (rs + ms) pc lv st0 S P I Q := by
  intro p e R s m args below meth c Z hC hR H locs cells slots ls h1 h2 h3 h4 hl
  have hts := hC.2.2.2.2.2.1
  subst hs
  have hcb := cg_n (mc := mc) (ms := ms) hC hM.1 hRM hlk
  rw [hM.2.2.2] at hcb
  exact run_on hC hR h1 h2 h4 hl (va_runIN (Ts := gws) (cc := mC M) (nL := mX M) ⟨hC.1, hC.2.1, hC.2.2.1, hC.2.2.2.2.1, hts⟩ K ⟨hcb, hM.2.2.1, hts _ hM.2.1⟩ ⟨pre_blind, fun U hU hW => ⟨rfl, by rw [hU]; exact h3, Kn.warm hW hC.2.2.2.2.2.2.1⟩⟩ rfl hn hl.1 rfl (lv_room hc8) hd ⟨by omega, by omega⟩)
theorem oi_1 : Cond.instanceMethod objectInit ∈ gws := by decide +kernel
theorem oi_2 : Cond.code objectInit ⟨#[0xb1]⟩ 1 none ∈ gws := by decide +kernel
theorem B.objInit {x a : Nat} (hd : decode (mC M) pc = .ok (.invokespecial x, 3)) (hlk : Cond.methodLink (mY M).cls x objectInit ∈ gws) (hF : 1 ≤ mF M) (hL : 20 ≤ mL M) (hc8 : (st.map fun v => v.category).sum ≤ 8) (K : B g M rc rs (pc + 3) lv st S P I Q) : B g M rc rs pc lv (.ref a :: st) S P I Q := by
  intro p e R s m args below meth c Z hC hR H locs cells slots ls h1 h2 h3 h4 hl
  have hts := hC.2.2.2.2.2.1
  have q1 := hC.2.2.2.2.2.2.2.1
  have q2 := hC.2.2.2.2.2.2.2.2.1
  have q3 := lv_room (m := m) (pc := pc) (ls := ls) (rest := .ref a :: st) hc8
  refine W.objInit hC.1 hC.2.1 hC.2.2.2.2.1 (hts _ hlk) (hts _ oi_1) (hts _ oi_2) rfl (by rw [hC.2.2.1]; exact hl.1) rfl hd (by omega) (by omega) ?_
  exact K p e R s m args below meth c Z hC hR H locs cells slots ls h1 h2 h3 h4 hl
def cpI (I : IT) (a b n : Nat) : IT := fun q k => if q = b ∧ k < n then I a k else I q k
theorem ac_1 : Cond.native arraycopyName ∈ gws := by decide +kernel
theorem ac_2 : Cond.static arraycopyName ∈ gws := by decide +kernel
theorem ac_3 : Cond.initialized "java/lang/System" ∈ gws := by decide +kernel
theorem B.copy {x a b t n : Nat} {nn : Int32} (htt : t < 3) (hfit : ∀ k, k < n → fits (a_ty t) (.int (I a k)) = true) (hrk : refKind (a_ty t) = false) (hd : decode (mC M) pc = .ok (.invokestatic x, 3)) (hlk : Cond.methodLink (mY M).cls x arraycopyName ∈ gws) (hF : 1 ≤ mF M) (hL : 8 + (nativeFrameWords "java/lang/System" "arraycopy" 5 + 11) ≤ mL M) (hc8 : (st.map fun v => v.category).sum ≤ 8) (hta : sT S a = 40 + t) (htb : sT S b = 40 + t) (hn : ¬ nn < 0) (hnn : nn.toNatClampNeg = n) (hla : n ≤ sL S a) (hlb : n ≤ sL S b)
    (K : B g M rc rs (pc + 3) lv st S P (cpI I a b n) Q) : B g M rc rs pc lv (.int nn :: .int 0 :: .ref b :: .int 0 :: .ref a :: st) S P I Q := by
  intro p e R s m args below meth c Z hC hR H locs cells slots ls h1 h2 h3 h4 hl
  have hts := hC.2.2.2.2.2.1
  obtain ⟨b1, b2, hata⟩ := h3.2.2.2 a (by rw [hta]; omega)
  obtain ⟨d1, d2, hatb⟩ := h3.2.2.2 b (by rw [htb]; omega)
  have ca := hata.2 t hta
  have cb := hatb.2 t htb
  have q1 := hC.2.2.2.2.2.2.2.1
  have q2 := hC.2.2.2.2.2.2.2.2.1
  have hz : ¬ (0 : Int32) < 0 := by decide
  have hz2 : (0 : Int32).toNatClampNeg = 0 := rfl
  have nnI : nn.toInt = (n : Int) := by
    have hz0 : (0 : Int) ≤ nn.toInt := by
      have := Int32.not_lt.mp hn
      simpa using Int32.le_iff_toInt_le.mp this
    rw [← hnn]
    show nn.toInt = ((nn.toInt.toNat : Nat) : Int)
    omega
  intro T0 hT X
  obtain ⟨-, k0, hk0, cm0, hkk0⟩ := (hC.2.2.2.2.2.2.1.2.1 t (by omega)).1 (sL S a) (e_v P I a t)
  obtain ⟨-, k1, hk1, cm1, hkk1⟩ := (hC.2.2.2.2.2.2.1.2.1 t (by omega)).1 (sL S b) (e_v P I b t)
  obtain ⟨vm', X', step⟩ := X.arraycopy hC.1 hC.2.2.2.2.1 (hts _ hlk) (hts _ ac_1) (hts _ ac_2) (hts _ ac_3) (src := a) (dst := b) (cs := arrV (g.2.2.1 t) (sL S a) (e_v P I a t)) (cd := arrV (g.2.2.1 t) (sL S b) (e_v P I b t)) (srcPos := 0) (destPos := 0) (n := nn) (by rw [hT]; exact ca) (by rw [hT]; exact cb)
    (fun _ h => by cases h) (fun _ h => by cases h) (fun h => by cases h) (fun h => by cases h) hk0 hk1 hkk0 hkk1 (by simp [hrk]) hz hz hn
    (by rw [arrV_size, nnI]; show ¬ ((0 : Int) + _ > _); omega)
    (by rw [arrV_size, nnI]; show ¬ ((0 : Int) + _ > _); omega)
    (fun vm₁ _ i hi => by
      rw [hnn] at hi
      have e : (arrV (g.2.2.1 t) (sL S a) (e_v P I a t)).slots.getD ((0 : Int32).toNatClampNeg + i) .null = .int (I a i) := by
        rw [Array.getD_eq_getD_getElem?, hz2, Nat.zero_add, arrV_read _ _ (by omega)]
        simp [e_v, htt]
      refine ⟨?_, ?_⟩
      · rw [e]
        exact hfit i hi
      · rw [e]
        exact trivial)
    (g := F0 m pc ls (.int nn :: .int 0 :: .ref b :: .int 0 :: .ref a :: st)) rfl (by rw [hC.2.2.1]; exact hl.1) (rest := st) rfl (by rw [hC.2.1]; exact hd) (by omega) (by show 2 * 0 + _ + _ ≤ _; omega)
  have ea : arrV (g.2.2.1 t) (sL S a) (e_v P I a t) = arrV (g.2.2.1 t) (sL S a) (fun j => .int (I a j)) := by congr 1; funext j; simp [e_v, htt]
  have eb : arrV (g.2.2.1 t) (sL S b) (e_v P I b t) = arrV (g.2.2.1 t) (sL S b) (fun j => .int (I b j)) := by congr 1; funext j; simp [e_v, htt]
  have e1 : copied (arrV (g.2.2.1 t) (sL S a) (e_v P I a t)) (arrV (g.2.2.1 t) (sL S b) (e_v P I b t)) 0 0 nn = arrV (g.2.2.1 t) (sL S b) (fun j => .int (va_cpy (I a) (I b) 0 0 n j)) := by
    rw [ea, eb, ← hnn]
    exact va_copied (fun z => .int z) _ _ (I a) (I b) (by omega)
  rw [e1] at X' step
  have hl2 : b < H.size := (Array.getElem?_eq_some_iff.mp cb).1
  have hheap : ((T0.setVm vm').setCell b (arrV (g.2.2.1 t) (sL S b) (fun j => .int (va_cpy (I a) (I b) 0 0 n j)))).heap = H.setIfInBounds b (arrV (g.2.2.1 t) (sL S b) (fun j => .int (va_cpy (I a) (I b) 0 0 n j))) := by rw [← hT]; rfl
  have oq : ∀ q : Nat, q ≠ b → (H.setIfInBounds b (arrV (g.2.2.1 t) (sL S b) (fun j => .int (va_cpy (I a) (I b) 0 0 n j))))[q]? = H[q]? := fun q hq => by simp [Array.getElem?_setIfInBounds, Ne.symm hq]
  have hnew : Rep g S P (cpI I a b n) (H.setIfInBounds b (arrV (g.2.2.1 t) (sL S b) (fun j => .int (va_cpy (I a) (I b) 0 0 n j)))) := by
    refine h3.set (by simp) oq d1 (fun _ _ => rfl) (fun b' hb' => by funext k; simp [cpI, hb']) ⟨fun ci r t2 hr => ?_, fun t' t2 => ?_⟩
    · have hci : ci < 10 := (List.getElem?_eq_some_iff.mp hr).1
      rw [htb] at t2; omega
    · have : t' = t := by rw [htb] at t2; omega
      subst this
      simp only [Array.getElem?_setIfInBounds_self]
      rw [if_pos hl2]
      congr 2
      funext k
      simp only [e_v, htt, if_true, va_cpy, cpI, Nat.zero_le, true_and, Nat.zero_add, Nat.sub_zero]
  obtain ⟨t2, a1, b1'⟩ := K p e R s m args below meth c Z hC hR _ _ cells slots ls h1 h2 hnew (fun q hq => by
      rcases List.mem_append.mp hq with h | h
      · exact h4 q h
      · obtain ⟨z, -, hz⟩ := List.mem_map.mp h
        rw [← hz]
        exact d1) hl _ hheap X'
  exact ⟨t2, step t2 a1, b1'⟩
end CALLS
