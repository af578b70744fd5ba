section FIRE2
variable {g : GT} {S : ST} {P : PT} {I I' J K : IT} {Q : QT} {x n m v p np nc nh nl c j ch : Nat} {z lg : Int32} {A A' : Nat → Int32} {sd : Nat → Bool} {cp sh : Nat → Nat} {tg : Nat → Int32} {s : HS}
theorem sim_fire (hS : Sim S P I x n) (hn : n < 1000000) (y z : Int32) : SimT g MX8_fire MX9_fire [.int y, .int z] x n S P I := by
  obtain ⟨hX, hR, hI, hd⟩ := id hS
  have hV := hX.v
  have hM := hX.m
  obtain ⟨nh, np, nc, nl, tl, rm, rk, rh, rp, rs, rc, rt⟩ := id hR
  have hnp := rm.2.1.2.2
  have h2 := rm.2.2.1.2.2.1
  have h6 := rm.2.2.1.2.2.2
  have ea : I (x + 1 + 13) 0 = nI nc := rm.2.2.1.2.1
  have eb : I (x + 96 + 1) 2 = nI nc := rm.2.2.1.1
  refine T_of rfl (Nat.le_of_ble_eq_true rfl) (s_X8_fire_0 ⟨hX.1.1, _, hX.1.2.1, hV.t, _, hV.p9, hV.kp, fun q => ?_, fun q => ⟨fun q2 => ?_, fun q2 => ?_⟩⟩)
  · rw [ea] at q
    exact T_of rfl (Nat.le_of_ble_eq_true rfl) (s_X9_fire_0 ⟨hM.t, _, hM.p, hM.a, 2, hM.ix rfl (by decide), fun _ => ⟨rfl, ⟨_, rfl⟩, hS.up⟩, fun e => absurd (by rw [eb]; exact q) e⟩)
  · rw [ea] at q
    obtain ⟨ch, hch, rfl⟩ := wi_dec (by omega) q
    obtain ⟨l, hl0, hl, rfl⟩ := wi_nI (a := 0) (b := 9) (by decide) (by decide) (wi_ne q2)
    have hb := HB_0 rk rp
    have hab := hab_of (nc := nc) (ch := ch) (l := l) (by omega) hl h6 hb
    refine t_passHour hV rm.2.1.2.1 hnp ea h2 h6 hch aC_0 (PFc_0 rp h6) hab (fun J c1 c2 => s_X8_fire_35 ⟨hX.1.1, _, hX.1.2.1, hV.t, _, hV.p9, hV.kp, _, hV.ki.2.1.1, hV.ki.1.2.1, ch, ixl hV.ki.2.2.1 (by omega) (by decide), ?_⟩)
    have ej : ∀ k, J (x + 96 + 1) k = I (x + 96 + 1) k := fun k => c2 _ _ (by omega) (by omega) (by omega) (by omega)
    have eJ : J (x + 96 + 1) = I (x + 96 + 1) := funext ej
    refine T_of rfl (Nat.le_of_ble_eq_true rfl) (s_X9_fire_0 ⟨hM.t, _, hM.p, hM.a, 2, hM.ix rfl (by decide), fun e => absurd e (by rw [eJ, eb]; exact q), fun _ => ⟨fun _ => t9_hour hM (by rw [eJ]; exact rm.2.1.1) hnp (by rw [eJ]; exact eb) h2 h6 hch (by rw [eJ]; exact aM_0 (tl := 0) rm rk rp) (by rw [eJ]; exact PFm_0 rm rp h6) (fun K d1 d2 => s_X9_fire_34 ⟨hM.t, _, hM.p, hM.a, 10 + ch, hM.ix (nI_add 10 ch) (by omega), ?_, ⟨_, rfl⟩, ?_⟩), fun e => absurd e q2⟩⟩)
    · rw [d1.1 ch (by omega)]
      have := c1.1 ch (by omega)
      rw [← this]
    · refine hour_end hS ⟨rm, rk, rh, rp, rs, ⟨nl, rc⟩, tl, rt⟩ c2 d2 c1 d1 ?_
      have := HB_step (nc := nc) (sd := sd0 I (x + 1)) (cp := cp0 I (x + 1)) (tg := tg0 I (x + 1)) (ch := ch) (l := l) (by omega) hl h6 hb
      exact ⟨fun j hj => by have := this.1 j hj; omega, this.2⟩
  · rw [ea] at q
    exact T_of rfl (Nat.le_of_ble_eq_true rfl) (s_X9_fire_0 ⟨hM.t, _, hM.p, hM.a, 2, hM.ix rfl (by decide), fun _ => ⟨rfl, ⟨_, rfl⟩, hS.up⟩, fun _ => ⟨fun e => absurd q2 e, fun _ => ⟨rfl, ⟨_, rfl⟩, hS.up⟩⟩⟩)
def hit (nc : Nat) (sd : Nat → Bool) (cp : Nat → Nat) (tg : Nat → Int32) (s : HS) : Nat → HS
  | 0 => s
  | k + 1 => hrf nc sd cp tg 0 (nI 0) (hit nc sd cp tg s k)
theorem hit_bd {M : Int} (hM : M < 1073741824) (h6 : nc ≤ 6) (h : HB np s M) : ∀ k, HB np (hit nc sd cp tg s k) M
  | 0 => h
  | k + 1 => by
    have := HB_step (nc := nc) (sd := sd) (cp := cp) (tg := tg) (ch := 0) (l := 0) hM (by omega) h6 (hit_bd hM h6 h k)
    exact ⟨fun j hj => ⟨(this.1 j hj).1, Int.le_trans (this.1 j hj).2 (by omega)⟩, this.2⟩
theorem frC_0 : frC v np I I := fun _ _ _ _ _ _ => rfl
theorem frM_0 : frM m np I I := ⟨fun _ _ _ _ _ => rfl, fun _ _ _ _ => rfl⟩
theorem t_rest_loop {M : Int} {k0 : Nat} (hX : LX S P x) (hL : LV S P (x + 1)) (hk : k0 ≤ 60) (hM : M < 1073741824) (hb : HB np s M) (hnp : I (x + 1) 11 = nI np) (h24 : np ≤ 24) (hc : I (x + 1 + 13) 0 = nI nc) (h2 : 2 ≤ nc) (h6 : nc ≤ 6) (hs : aC I (x + 1) np s) (hF : PFc I (x + 1) np nc sd cp sh tg)
    (h : ∀ J : IT, aC J (x + 1) np (hit nc sd cp tg s k0) → frC (x + 1) np I J → Q (some (.int (gm (J (x + 1 + 14)) (nc - 1)))) S P J) : B g MX8_rest 0 0 14 [(0, .ref x), (1, .int (nI k0)), (2, .int 0)] [] S P I Q := by
  have loop : ∀ k i J, i + k = k0 → aC J (x + 1) np (hit nc sd cp tg s i) → frC (x + 1) np I J → B g MX8_rest 0 0 14 [(0, .ref x), (1, .int (nI k0)), (2, .int (nI i))] [] S P J Q := by
    intro k
    induction k with
    | zero =>
      intro i J he a1 a2
      have ei : i = k0 := by omega
      subst ei
      refine s_X8_rest_14 ⟨fun _ => ⟨hX.1.1, _, hX.1.2.1, hL.t, _, hL.p9, hL.kp, t_greatestHeat hL.ki (by rw [a2 _ _ (by omega) (by omega) (by omega) (by omega)]; exact hc) (by omega) h6 (s_X8_rest_44 (h J a1 a2))⟩, fun q => absurd (nI_le (Nat.le_refl _) (by omega)) q⟩
    | succ k ih =>
      intro i J he a1 a2
      refine s_X8_rest_14 ⟨fun q => absurd q (nI_ge (by omega) (by omega)), fun q => ⟨hX.1.1, _, hX.1.2.1, hL.t, ?_⟩⟩
      refine t_passHour (ch := 0) (lg := nI 0) hL (by rw [a2 _ _ (by omega) (by omega) (by omega) (by omega)]; exact hnp) h24 (by rw [a2 _ _ (by omega) (by omega) (by omega) (by omega)]; exact hc) h2 h6 (by omega) a1 (hF.fr h24 a2) (hab_of (l := 0) hM (by omega) h6 (hit_bd hM h6 hb i)) (fun K b1 b2 => s_X8_rest_28 ?_)
      rw [nI_1]
      exact ih (i + 1) K (by omega) b1 (a2.trans b2)
  exact loop k0 0 I (by omega) hs frC_0
theorem t9_rest_loop {k0 : Nat} (hL : LM S P m) (hk : k0 ≤ 60) (hnp : I (m + 1) 1 = nI np) (h24 : np ≤ 24) (hc : I (m + 1) 2 = nI nc) (h2 : 2 ≤ nc) (h6 : nc ≤ 6) (hs : aM (I (m + 1)) np s) (hF : PFm (I (m + 1)) np nc sd cp sh tg)
    (h : ∀ J : IT, aM (J (m + 1)) np (hit nc sd cp tg s k0) → frM m np I J → Q (some (.int (gm (fun c => J (m + 1) (10 + c)) (nc - 1)))) S P J) : B g MX9_rest 0 0 14 [(0, .ref m), (1, .int (nI k0)), (2, .int 0)] [] S P I Q := by
  have loop : ∀ k i J, i + k = k0 → aM (J (m + 1)) np (hit nc sd cp tg s i) → frM m np I J → B g MX9_rest 0 0 14 [(0, .ref m), (1, .int (nI k0)), (2, .int (nI i))] [] S P J Q := by
    intro k
    induction k with
    | zero =>
      intro i J he a1 a2
      have ei : i = k0 := by omega
      subst ei
      refine s_X9_rest_14 ⟨fun _ => ⟨hL.t, t9_greatestHeat hL (by rw [a2.1 2 (by omega) (by omega) (by omega) (fun p hp => by omega)]; exact hc) (by omega) h6 (s_X9_rest_35 (h J a1 a2))⟩, fun q => absurd (nI_le (Nat.le_refl _) (by omega)) q⟩
    | succ k ih =>
      intro i J he a1 a2
      refine s_X9_rest_14 ⟨fun q => absurd q (nI_ge (by omega) (by omega)), fun q => ⟨hL.t, ?_⟩⟩
      refine t9_hour (ch := 0) (lg := nI 0) hL (by rw [a2.1 1 (by omega) (by omega) (by omega) (fun p hp => by omega)]; exact hnp) h24 (by rw [a2.1 2 (by omega) (by omega) (by omega) (fun p hp => by omega)]; exact hc) h2 h6 (by omega) a1 (hF.fr h24 a2) (fun K b1 b2 => s_X9_rest_25 ?_)
      rw [nI_1]
      exact ih (i + 1) K (by omega) b1 (a2.trans b2)
  exact loop k0 0 I (by omega) hs frM_0
theorem sim_rest (hS : Sim S P I x n) (hn : n < 1000000) (z : Int32) : SimT g MX8_rest MX9_rest [.int z] x n S P I := by
  obtain ⟨hX, hR, hI, hd⟩ := id hS
  have hV := hX.v
  have hM := hX.m
  obtain ⟨nh, np, nc, nl, tl, rm, rk, rh, rp, rs, rc, rt⟩ := id hR
  have hnp := rm.2.1.2.2
  have h2 := rm.2.2.1.2.2.1
  have h6 := rm.2.2.1.2.2.2
  have ea : I (x + 1 + 13) 0 = nI nc := rm.2.2.1.2.1
  have eb : I (x + 96 + 1) 2 = nI nc := rm.2.2.1.1
  have hb := HB_0 rk rp
  refine T_of rfl (Nat.le_of_ble_eq_true rfl) (s_X8_rest_0 ⟨fun q => ?_, fun q => T_of rfl (Nat.le_of_ble_eq_true rfl) (s_X9_rest_0 ⟨fun e => absurd q e, fun _ => ⟨rfl, ⟨_, rfl⟩, hS.up⟩⟩)⟩)
  obtain ⟨k0, hk1, hk2, rfl⟩ := wi_nI (a := 1) (b := 60) (by decide) (by decide) (wi_ne q)
  refine t_rest_loop (M := 20 + 540 * n) hX hV hk2 (by omega) hb rm.2.1.2.1 hnp ea h2 h6 aC_0 (PFc_0 rp h6) (fun J c1 c2 => ?_)
  have eJ : J (x + 96 + 1) = I (x + 96 + 1) := funext fun k => c2 _ _ (by omega) (by omega) (by omega) (by omega)
  refine T_of rfl (Nat.le_of_ble_eq_true rfl) (s_X9_rest_0 ⟨fun _ => t9_rest_loop hM hk2 (by rw [eJ]; exact rm.2.1.1) hnp (by rw [eJ]; exact eb) h2 h6 (by rw [eJ]; exact aM_0 (tl := 0) rm rk rp) (by rw [eJ]; exact PFm_0 rm rp h6) (fun K d1 d2 => ⟨?_, ⟨_, rfl⟩, ?_⟩), fun e => absurd e q⟩)
  · congr 2
    refine gm_cong (fun i hi => ?_)
    rw [d1.1 i (by omega), c1.1 i (by omega)]
  · refine hour_end hS ⟨rm, rk, rh, rp, rs, ⟨nl, rc⟩, tl, rt⟩ c2 d2 c1 d1 ?_
    have := hit_bd (nc := nc) (sd := sd0 I (x + 1)) (cp := cp0 I (x + 1)) (tg := tg0 I (x + 1)) (by omega) h6 hb k0
    exact ⟨fun j hj => by have := this.1 j hj; omega, this.2⟩
end FIRE2
