/-! the parser, over kinds K, meanings M, places L of the tokens; F: the fault that is noted, and its place -/
def bI : Bool → Int32
  | true => 1
  | false => 0
def nt1 (F : Int32 × Int32) (k p : Int32) : Int32 × Int32 := if F.1 = 0 then (k, p) else F
def tA (K : Nat → Int32) (a : Nat) : Nat := if K a = 9 then a + 1 else a
abbrev tO (K : Nat → Int32) (a : Nat) : Prop := K (tA K a) = 3 ∧ K (tA K a + 1) = 4 ∧ K (tA K a + 2) = 2
def tF (K : Nat → Int32) (a : Nat) : Nat := if K (tA K a) = 3 then (if K (tA K a + 1) = 4 then tA K a + 2 else tA K a + 1) else tA K a
def f4 (L : Nat → Int32) (a t : Nat) (F : Int32 × Int32) : Int32 × Int32 := if 4 ≤ t then nt1 F 3 (L a) else F
def cn (K L : Nat → Int32) : Nat → Nat → Nat → Int32 × Int32 → Bool × Nat × Nat × Int32 × Int32
  | 0, a, t, F => (false, a, t, F)
  | k + 1, a, t, F => if tO K a then (if K (tA K a + 3) = 8 then cn K L k (tA K a + 3 + 1) (t + 1) (f4 L a t F) else if K (tA K a + 3) = 5 then (true, tA K a + 3 + 1, t + 1, f4 L a t F) else (false, tA K a + 3, t + 1, f4 L a t F)) else (false, tF K a, t, f4 L a t F)
def f2 (M L : Nat → Int32) (a : Nat) (F : Int32 × Int32) : Int32 × Int32 := if M a ≤ 100 then F else nt1 F 2 (L a)
/-- a duty from a on: whether, where, faults -/
def dq1 (K M L : Nat → Int32) (a : Nat) (F : Int32 × Int32) : Bool × Nat × Int32 × Int32 :=
  if K a = 11 then (if K (a + 1) = 2 then (true, a + 1 + 1, f2 M L (a + 1) F) else (false, a + 1, F)) else if K a = 10 then (true, a + 1, F) else (false, a, F)
def dn (K M : Nat → Int32) (a : Nat) : Int32 := if K a = 11 then M (a + 1) else 0
def dq2 (K : Nat → Int32) (r : Bool × Nat × Int32 × Int32) : Bool × Nat × Int32 × Int32 := if r.1 = true then (if K r.2.1 = 6 then (true, r.2.1 + 1, r.2.2) else (false, r.2.1, r.2.2)) else r
def lc (K L : Nat → Int32) (l a : Nat) (F : Int32 × Int32) : Bool × Nat × Nat × Int32 × Int32 :=
  if K a = 7 then cn K L 301 (a + 1) 0 (if 12 ≤ l then nt1 F 3 (L a) else F) else (true, a, 0, (if 12 ≤ l then nt1 F 3 (L a) else F))
/-- a line from a on: whether, where, faults -/
def ln (K M L : Nat → Int32) (l a : Nat) (F : Int32 × Int32) : Bool × Nat × Int32 × Int32 :=
  if (lc K L l a F).1 = true then dq2 K (dq1 K M L (lc K L l a F).2.1 (lc K L l a F).2.2.2) else (false, (lc K L l a F).2.1, (lc K L l a F).2.2.2)
abbrev AT : Type := Nat → Nat × Nat × Int32
def aset (A : AT) (l : Nat) (v : Nat × Nat × Int32) : AT := fun i => if i = l then v else A i
def la (K M L : Nat → Int32) (l a : Nat) (F : Int32 × Int32) : Nat × Nat × Int32 := (a, (lc K L l a F).2.2.1, dn K M (lc K L l a F).2.1)
def tx (K M L : Nat → Int32) : Nat → Nat → Nat → Int32 × Int32 → AT → Bool × Nat × Nat × (Int32 × Int32) × AT
  | 0, l, a, F, A => (false, l, a, F, A)
  | k + 1, l, a, F, A => if K a = 0 then (true, l, a, F, A) else if (ln K M L l a F).1 = true then tx K M L k (l + 1) (ln K M L l a F).2.1 (ln K M L l a F).2.2 (aset A l (la K M L l a F)) else (false, l, (ln K M L l a F).2.1, (ln K M L l a F).2.2, A)
def tp (K : Nat → Int32) (a : Nat) : Nat → Nat
  | 0 => a
  | t + 1 => tA K (tp K a t) + 3 + 1
theorem tA_ge (K : Nat → Int32) (a : Nat) : a ≤ tA K a ∧ tA K a ≤ a + 1 := by unfold tA; split <;> omega
theorem tF_ge (K : Nat → Int32) (a : Nat) : a ≤ tF K a := by
  have := tA_ge K a
  unfold tF
  split
  · split <;> omega
  · omega
theorem cn_ge {K L : Nat → Int32} : ∀ k a t F, a ≤ (cn K L k a t F).2.1 := by
  intro k
  induction k with
  | zero => intro a t F; exact Nat.le_refl a
  | succ k ih =>
    intro a t F
    have h := tA_ge K a
    rw [cn]
    split
    · split
      · have := ih (tA K a + 3 + 1) (t + 1) (f4 L a t F); omega
      · split
        · show a ≤ tA K a + 3 + 1; omega
        · show a ≤ tA K a + 3; omega
    · exact tF_ge K a
theorem lc_ge {K L : Nat → Int32} {l a : Nat} {F : Int32 × Int32} : a ≤ (lc K L l a F).2.1 := by
  unfold lc
  split
  · have := cn_ge (K := K) (L := L) 301 (a + 1) 0 (if 12 ≤ l then nt1 F 3 (L a) else F); omega
  · exact Nat.le_refl a
theorem dq1_ge {K M L : Nat → Int32} {a : Nat} {F : Int32 × Int32} (h : (dq1 K M L a F).1 = true) : a + 1 ≤ (dq1 K M L a F).2.1 := by
  unfold dq1 at h ⊢
  split at h
  · rename_i q
    rw [if_pos q]
    split at h
    · rename_i q2; rw [if_pos q2]; show a + 1 ≤ a + 1 + 1; omega
    · cases h
  · rename_i q
    rw [if_neg q]
    split at h
    · rename_i q2; rw [if_pos q2]; exact Nat.le_refl _
    · cases h
theorem dq2_ge {K : Nat → Int32} {r : Bool × Nat × Int32 × Int32} (h : (dq2 K r).1 = true) : r.1 = true ∧ r.2.1 + 1 ≤ (dq2 K r).2.1 := by
  unfold dq2 at h ⊢
  split at h
  · rename_i q
    rw [if_pos q]
    split at h
    · rename_i q2; rw [if_pos q2]; exact ⟨q, Nat.le_refl _⟩
    · cases h
  · rename_i q; exact absurd h q
theorem ln_ge {K M L : Nat → Int32} {l a : Nat} {F : Int32 × Int32} (h : (ln K M L l a F).1 = true) : a + 2 ≤ (ln K M L l a F).2.1 := by
  unfold ln at h ⊢
  split at h
  · rename_i q
    rw [if_pos q]
    obtain ⟨h1, h2⟩ := dq2_ge h
    have h3 := dq1_ge h1
    have h4 := lc_ge (K := K) (L := L) (l := l) (a := a) (F := F)
    omega
  · cases h
/-! faults stay -/
theorem nt1_0 {F : Int32 × Int32} {k p : Int32} (hk : ¬ k = 0) : ¬ (nt1 F k p).1 = 0 := by
  unfold nt1
  split
  · exact hk
  · rename_i q; exact q
theorem f4_0 {L : Nat → Int32} {a t : Nat} {F : Int32 × Int32} (h : (f4 L a t F).1 = 0) : t < 4 ∧ F.1 = 0 := by
  unfold f4 at h
  split at h
  · exact absurd h (nt1_0 (by decide))
  · exact ⟨by omega, h⟩
theorem f2_0 {M L : Nat → Int32} {a : Nat} {F : Int32 × Int32} (h : (f2 M L a F).1 = 0) : F.1 = 0 := by
  unfold f2 at h
  split at h
  · exact h
  · exact absurd h (nt1_0 (by decide))
theorem cn_0 {K L : Nat → Int32} : ∀ k a t F, (cn K L k a t F).1 = true → (cn K L k a t F).2.2.2.1 = 0 → (cn K L k a t F).2.2.1 ≤ 4 ∧ F.1 = 0 := by
  intro k
  induction k with
  | zero => intro a t F h; cases h
  | succ k ih =>
    intro a t F h1 h2
    rw [cn] at h1 h2 ⊢
    split at h1
    · rename_i q
      rw [if_pos q] at h2 ⊢
      split at h1
      · rename_i q2
        rw [if_pos q2] at h2 ⊢
        obtain ⟨i1, i2⟩ := ih _ _ _ h1 h2
        exact ⟨i1, (f4_0 i2).2⟩
      · rename_i q2
        rw [if_neg q2] at h2 ⊢
        split at h1
        · rename_i q3
          rw [if_pos q3] at h2 ⊢
          obtain ⟨j1, j2⟩ := f4_0 h2
          exact ⟨by show t + 1 ≤ 4; omega, j2⟩
        · cases h1
    · cases h1
theorem lc_0 {K L : Nat → Int32} {l a : Nat} {F : Int32 × Int32} (h1 : (lc K L l a F).1 = true) (h2 : (lc K L l a F).2.2.2.1 = 0) : l < 12 ∧ (lc K L l a F).2.2.1 ≤ 4 ∧ F.1 = 0 := by
  have key : (if 12 ≤ l then nt1 F 3 (L a) else F).1 = 0 → l < 12 ∧ F.1 = 0 := by
    intro h
    split at h
    · exact absurd h (nt1_0 (by decide))
    · exact ⟨by omega, h⟩
  unfold lc at h1 h2 ⊢
  split at h1
  · rename_i q
    rw [if_pos q] at h2 ⊢
    obtain ⟨i1, i2⟩ := cn_0 _ _ _ _ h1 h2
    exact ⟨(key i2).1, i1, (key i2).2⟩
  · rename_i q
    rw [if_neg q] at h2 ⊢
    exact ⟨(key h2).1, Nat.zero_le _, (key h2).2⟩
theorem dq1_0 {K M L : Nat → Int32} {a : Nat} {F : Int32 × Int32} (h : (dq1 K M L a F).2.2.1 = 0) : F.1 = 0 := by
  unfold dq1 at h
  split at h
  · split at h
    · exact f2_0 h
    · exact h
  · split at h
    · exact h
    · exact h
theorem dq2_0 {K : Nat → Int32} {r : Bool × Nat × Int32 × Int32} (h : (dq2 K r).2.2.1 = 0) : r.2.2.1 = 0 := by
  unfold dq2 at h
  split at h
  · split at h
    · exact h
    · exact h
  · exact h
theorem ln_0 {K M L : Nat → Int32} {l a : Nat} {F : Int32 × Int32} (h1 : (ln K M L l a F).1 = true) (h2 : (ln K M L l a F).2.2.1 = 0) : (lc K L l a F).1 = true ∧ l < 12 ∧ (lc K L l a F).2.2.1 ≤ 4 ∧ F.1 = 0 := by
  unfold ln at h1 h2
  split at h1
  · rename_i q
    rw [if_pos q] at h2
    exact ⟨q, lc_0 q (dq1_0 (dq2_0 h2))⟩
  · cases h1
/-! the class's side -/
def LRd (S : ST) (P : PT) (r t : Nat) : Prop := (sT S r = 5 ∧ P r 0 = r + 1 + 1 ∧ P r 3 = r + 7 + 1) ∧ LC S P (r + 1) ∧ LZ S P (r + 7) t
def TK (I : IT) (k : Nat) (K M L : Nat → Int32) (E : Nat) : Prop := E ≤ 300 ∧ (∀ i, i ≤ E → I (k + 1) i = K i ∧ I (k + 2) i = M i ∧ I (k + 3) i = L i) ∧ (K E = 0 ∨ K E = 1)
def RS1 (I : IT) (r a : Nat) (F : Int32 × Int32) : Prop := I r 4 = nI a ∧ I r 1 = F.1 ∧ I r 2 = F.2
theorem TK.mv {I J : IT} {r E : Nat} {K M L : Nat → Int32} (h : TK I (r + 7) K M L E) (hJ : ∀ b j, r + 7 ≤ b → J b j = I b j) : TK J (r + 7) K M L E :=
  ⟨h.1, fun i hi => by rw [hJ _ _ (by omega), hJ _ _ (by omega), hJ _ _ (by omega)]; exact h.2.1 i hi, h.2.2⟩
theorem TK.nx {I : IT} {k E a : Nat} {K M L : Nat → Int32} (h : TK I k K M L E) (ha : a ≤ E) (h0 : ¬ K a = 0) (h1 : ¬ K a = 1) : a + 1 ≤ E := by
  rcases Nat.lt_or_ge a E with q | q
  · exact q
  · have : a = E := by omega
    subst this
    exact h.2.2.elim (fun z => absurd z h0) (fun z => absurd z h1)
theorem TK.nk {I : IT} {k E a : Nat} {K M L : Nat → Int32} {kd : Int32} (h : TK I k K M L E) (ha : a ≤ E) (hk : K a = kd) (h0 : ¬ kd = 0) (h1 : ¬ kd = 1) : a + 1 ≤ E := h.nx ha (by rw [hk]; exact h0) (by rw [hk]; exact h1)
section PARSE
variable {g : GT} {S : ST} {P : PT} {I : IT} {Q : QT} {r t E a l tt : Nat} {K M L : Nat → Int32} {F : Int32 × Int32}
theorem t_take {kd : Int32} (hL : LRd S P r t) (hT : TK I (r + 7) K M L E) (h4 : I r 4 = nI a) (ha : a ≤ E) (h0 : ¬ kd = 0) (h1 : ¬ kd = 1) (hy : K a = kd → a + 1 ≤ E → Q (some (.int 1)) S P (u2 I r 4 (nI (a + 1)))) (hn : ¬ K a = kd → Q (some (.int 0)) S P I) : T g MX4_take 0 0 [.ref r, .int kd] S P I Q := by
  obtain ⟨-, -, p1, p2, p3⟩ := hL.2.2.1.1
  obtain ⟨t1, l1, t2, l2, t3, l3⟩ := hL.2.2.1.2
  have hE := hT.1
  have eK := (hT.2.1 a ha).1
  refine T_of rfl (Nat.le_of_ble_eq_true rfl) (s_X4_take_0 ⟨hL.1.1, _, hL.1.2.2, hL.2.2.1.1.1, _, p1, t1, a, ixe h4 l1 (by omega) (by decide), fun z => hn ?_, fun z => ?_⟩)
  · rw [eK] at z; exact z
  · rw [eK] at z
    have hlt := hT.nk ha z h0 h1
    rw [h4, nI_1]
    exact ⟨fun _ => hy z hlt, fun q => absurd (nI_lt (a := a) (b := 300) (by omega) (by decide)) q⟩
/-- what keepTest, and a test, leaves as it was -/
def FT (I J : IT) (r l t : Nat) : Prop := ∀ b j, b ≠ r → (b ≠ r + 3 ∨ j ≠ l) → (b < r + 4 ∨ r + 6 < b ∨ j ≠ 4 * l + t) → J b j = I b j
def CT (J : IT) (K M : Nat → Int32) (r l p t : Nat) : Prop := tO K p ∧ J (r + 4) (4 * l + t) = M (tA K p) ∧ J (r + 5) (4 * l + t) = (if K p = 9 then 7 - M (tA K p + 1) else M (tA K p + 1)) ∧ J (r + 6) (4 * l + t) = M (tA K p + 2)
theorem t_keepTest {b : Nat} {z : Int32} (hL : LRd S P r t) (hT : TK I (r + 7) K M L E) (hl : l < 12) (ht : tt < 4) (hb : b + 2 ≤ E) (h : ∀ J : IT, J (r + 4) (4 * l + tt) = M b → J (r + 5) (4 * l + tt) = (if z = 0 then M (b + 1) else 7 - M (b + 1)) → J (r + 6) (4 * l + tt) = M (b + 2) → J (r + 3) l = nI (tt + 1) → (∀ b j, (b ≠ r + 3 ∨ j ≠ l) → (b < r + 4 ∨ r + 6 < b ∨ j ≠ 4 * l + tt) → J b j = I b j) → Q none S P J) : T g MX4_keepTest 0 0 [.ref r, .int (nI l), .int (nI tt), .int (nI b), .int z] S P I Q := by
  obtain ⟨-, -, p1, p2, p3⟩ := hL.2.2.1.1
  obtain ⟨t1, l1, t2, l2, t3, l3⟩ := hL.2.2.1.2
  obtain ⟨⟨c0, c1, c2, c3, c4, c5⟩, ⟨q1, q2, q3, q4, q5⟩, ⟨w1, w2, w3, w4, w5⟩⟩ := hL.2.1
  have hE := hT.1
  have e1 := (hT.2.1 b (by omega)).2.1
  have e2 := (hT.2.1 (b + 1) (by omega)).2.1
  have e3 := (hT.2.1 (b + 2) (by omega)).2.1
  have ei : nI l * 4 + nI tt = nI (4 * l + tt) := by
    have : nI l * 4 = nI (l * 4) := pk_mul l 4
    rw [this, nI_add, Nat.mul_comm]
  have key : ∀ w : Int32, w = (if z = 0 then M (b + 1) else 7 - M (b + 1)) → B g MX4_keepTest 0 0 63 [(0, .ref r), (1, .int (nI l)), (2, .int (nI tt)), (3, .int (nI b)), (4, .int z), (5, .int (nI l * 4 + nI tt)), (6, .int (I (r + 7 + 2) (b + 1)))] [.int w, .int (nI l * 4 + nI tt), .ref (r + 1 + 4)] S P (u2 I (r + 1 + 3) (4 * l + tt) (I (r + 7 + 2) b)) Q := by
    intro w hw
    refine s_X4_keepTest_63 ⟨c4, 4 * l + tt, ixe ei w4 (by omega) (by decide), hL.1.1, _, hL.1.2.1, c0, _, q5, _, hL.1.2.2, hL.2.2.1.1.1, _, p2, t2, b + 2, ixe (nI_add b 2) l2 (by omega) (by decide), c5, 4 * l + tt, ixe ei w5 (by omega) (by decide), _, q2, c2, l, ixl w2 (by omega) (by decide), ?_⟩
    rw [nI_1, e1]
    refine h _ ?_ ?_ ?_ ?_ (fun y j h1 h2 => ?_)
    · rw [u2_a (by omega), u2_a (by omega), u2_a (by omega)]; exact u2_s _ _ _ _
    · rw [u2_a (by omega), u2_a (by omega), show r + 5 = r + 1 + 4 from rfl, u2_s]; exact hw
    · rw [u2_a (by omega), show r + 6 = r + 1 + 5 from rfl, u2_s, u2_a (by omega), u2_a (by omega)]; exact e3
    · exact u2_s _ _ _ _
    · rw [show ∀ (I0 : IT) (s : Int32), u2 I0 (r + 1 + 2) l s y j = I0 y j from fun I0 s => h1.elim (fun z => u2_a z) (fun z => u2_k z)]
      by_cases ej : j = 4 * l + tt
      · rw [u2_a (by omega), u2_a (by omega), u2_a (by omega)]
      · rw [u2_k ej, u2_k ej, u2_k ej]
  refine T_of rfl (Nat.le_of_ble_eq_true rfl) (s_X4_keepTest_0 ⟨hL.1.1, _, hL.1.2.2, hL.2.2.1.1.1, _, p2, t2, b + 1, ixe (nI_1 b) l2 (by omega) (by decide), _, hL.1.2.1, c0, _, q3, b, ixl l2 (by omega) (by decide), c3, 4 * l + tt, ixe ei w3 (by omega) (by decide), _, q4, fun y => key _ ?_, fun y => key _ ?_⟩)
  · rw [if_pos y]; exact e2
  · rw [if_neg y, e2]
theorem t_readTest (hL : LRd S P r t) (hT : TK I (r + 7) K M L E) (hs : RS1 I r a F) (ha : a ≤ E) (hl : l ≤ 300) (ht : tt ≤ 300)
    (hy : ∀ J : IT, tO K a → tA K a + 3 ≤ E → RS1 J r (tA K a + 3) (f4 L a tt F) → FT I J r l tt → (l < 12 → tt < 4 → CT J K M r l a tt ∧ J (r + 3) l = nI (tt + 1)) → Q (some (.int 1)) S P J)
    (hn : ∀ J : IT, ¬ tO K a → tF K a ≤ E → RS1 J r (tF K a) (f4 L a tt F) → (∀ b j, b ≠ r → J b j = I b j) → Q (some (.int 0)) S P J) : T g MX4_readTest 0 0 [.ref r, .int (nI l), .int (nI tt)] S P I Q := by
  obtain ⟨-, -, p1, p2, p3⟩ := hL.2.2.1.1
  obtain ⟨t1, l1, t2, l2, t3, l3⟩ := hL.2.2.1.2
  have hE := hT.1
  have kp : ∀ J : IT, (∀ b j, b ≠ r → J b j = I b j) → TK J (r + 7) K M L E := fun J hJ => hT.mv (fun b j hb => hJ b j (by omega))
  -- behind 'not': at b, the flag z
  have s3 : ∀ (J : IT) (b : Nat) (z : Int32), tA K a = b → b ≤ E → (z = 0 ↔ ¬ K a = 9) → RS1 J r b (f4 L a tt F) → (∀ b j, b ≠ r → J b j = I b j) → T g MX4_take 0 0 [.ref r, .int 3] S P J (fun r2 S' P' I' => B g MX4_readTest 0 0 28 [(0, .ref r), (1, .int (nI l)), (2, .int (nI tt)), (3, .int z), (4, .int (J r 4))] (r2.toList ++ []) S' P' I' Q) := by
    intro J b z eb hb hz hJ fJ
    have bad : ∀ (W : IT) (c : Nat), ¬ tO K a → tF K a = c → c ≤ E → RS1 W r c (f4 L a tt F) → (∀ b j, b ≠ r → W b j = I b j) → B g MX4_readTest 0 0 51 [(0, .ref r), (1, .int (nI l)), (2, .int (nI tt)), (3, .int z), (4, .int (J r 4))] [] S P W Q := by
      intro W c c1 c2 c3 c4 c5
      exact s_X4_readTest_51 (s_X4_readTest_52 ⟨fun _ => s_X4_readTest_79 ⟨Or.inl rfl, hn W c1 (by omega) (by rw [c2]; exact c4) c5⟩, fun q => absurd rfl q⟩)
    have fu : ∀ (W : IT) (s : Int32), (∀ b j, b ≠ r → W b j = I b j) → ∀ b j, b ≠ r → u2 W r 4 s b j = I b j := fun W s hW b j hb => (u2_a hb).trans (hW b j hb)
    have ru : ∀ (W : IT) (c d : Nat), RS1 W r c (f4 L a tt F) → RS1 (u2 W r 4 (nI d)) r d (f4 L a tt F) := fun W c d hW => ⟨u2_s _ _ _ _, (u2_k (by decide)).trans hW.2.1, (u2_k (by decide)).trans hW.2.2⟩
    refine t_take hL (kp J fJ) hJ.1 hb (by decide) (by decide) (fun k3 hb1 => ?_) (fun k3 => s_X4_readTest_28 ⟨fun _ => bad J b (fun q => k3 (by rw [← eb]; exact q.1)) (by unfold tF; rw [eb, if_neg k3]) hb hJ fJ, fun q => absurd rfl q⟩)
    have J1 := ru J b (b + 1) hJ
    have F1 := fu J (nI (b + 1)) fJ
    refine s_X4_readTest_28 ⟨fun q => absurd q (by decide), fun _ => ⟨hL.1.1, t_take hL (kp _ F1) J1.1 hb1 (by decide) (by decide) (fun k4 hb2 => ?_) (fun k4 => s_X4_readTest_36 ⟨fun _ => bad _ (b + 1) (fun q => k4 (by rw [← eb]; exact q.2.1)) (by unfold tF; rw [eb, if_pos k3, if_neg k4]) hb1 J1 F1, fun q => absurd rfl q⟩)⟩⟩
    have J2 := ru _ (b + 1) (b + 1 + 1) J1
    have F2 := fu _ (nI (b + 1 + 1)) F1
    refine s_X4_readTest_36 ⟨fun q => absurd q (by decide), fun _ => ⟨hL.1.1, t_take hL (kp _ F2) J2.1 hb2 (by decide) (by decide) (fun k5 hb3 => ?_) (fun k5 => s_X4_readTest_44 ⟨fun _ => bad _ (b + 1 + 1) (fun q => k5 (by rw [← eb]; exact q.2.2)) (by unfold tF; rw [eb, if_pos k3, if_pos k4]) hb2 J2 F2, fun q => absurd rfl q⟩)⟩⟩
    have J3 := ru _ (b + 1 + 1) (b + 1 + 1 + 1) J2
    have F3 := fu _ (nI (b + 1 + 1 + 1)) F2
    have ho : tO K a := by rw [tO, eb]; exact ⟨k3, k4, k5⟩
    have go : ∀ W : IT, RS1 W r (b + 1 + 1 + 1) (f4 L a tt F) → FT I W r l tt → (l < 12 → tt < 4 → CT W K M r l a tt ∧ W (r + 3) l = nI (tt + 1)) → B g MX4_readTest 0 0 79 [(0, .ref r), (1, .int (nI l)), (2, .int (nI tt)), (3, .int z), (4, .int (J r 4)), (5, .int 1)] [] S P W Q := fun W h1 h2 h3 => s_X4_readTest_79 ⟨Or.inr rfl, hy W ho (by rw [eb]; exact hb3) (by rw [eb]; exact h1) h2 h3⟩
    refine s_X4_readTest_44 ⟨fun q => absurd q (by decide), fun _ => s_X4_readTest_52 ⟨fun q => absurd q (by decide), fun _ => ⟨fun q => go _ J3 (fun y j h1 _ _ => F3 y j h1) (fun h => absurd q (nI_ge (b := 12) h (by decide))), fun q => ⟨fun q2 => go _ J3 (fun y j h1 _ _ => F3 y j h1) (fun _ h => absurd q2 (nI_ge (b := 4) h (by decide))), fun q2 => ⟨hL.1.1, ?_⟩⟩⟩⟩⟩
    have hl12 : l < 12 := not_le_nI (a := 12) (b := l) (by decide) (by omega) q
    have ht4 : tt < 4 := not_le_nI (a := 4) (b := tt) (by decide) (by omega) q2
    rw [hJ.1]
    rw [hJ.1] at go
    refine t_keepTest hL (kp _ F3) hl12 ht4 (b := b) (by omega) (fun W g1 g2 g3 g4 g5 => go W ⟨(g5 _ _ (by omega) (by omega)).trans J3.1, (g5 _ _ (by omega) (by omega)).trans J3.2.1, (g5 _ _ (by omega) (by omega)).trans J3.2.2⟩ (fun y j h1 h2 h3 => (g5 y j h2 h3).trans (F3 y j h1)) (fun _ _ => ⟨⟨ho, by rw [eb]; exact g1, ?_, by rw [eb]; exact g3⟩, g4⟩))
    rw [eb, g2]
    by_cases e9 : K a = 9
    · rw [if_pos e9, if_neg (fun q => hz.mp q e9)]
    · rw [if_neg e9, if_pos (hz.mpr e9)]
  have s9 : ∀ J : IT, RS1 J r a (f4 L a tt F) → (∀ b j, b ≠ r → J b j = I b j) → T g MX4_take 0 0 [.ref r, .int 9] S P J (fun r2 S' P' I' => B g MX4_readTest 0 0 16 [(0, .ref r), (1, .int (nI l)), (2, .int (nI tt))] (r2.toList ++ []) S' P' I' Q) := by
    intro J hJ fJ
    refine t_take hL (kp J fJ) hJ.1 ha (by decide) (by decide) (fun k9 ha1 => s_X4_readTest_16 ⟨hL.1.1, ?_⟩) (fun k9 => s_X4_readTest_16 ⟨hL.1.1, ?_⟩)
    · refine s3 _ (a + 1) 1 (by unfold tA; rw [if_pos k9]) ha1 ⟨fun q => absurd q (by decide), fun q => absurd k9 q⟩ ⟨u2_s _ _ _ _, (u2_k (by decide)).trans hJ.2.1, (u2_k (by decide)).trans hJ.2.2⟩ (fun b j hb => (u2_a hb).trans (fJ b j hb))
    · exact s3 J a 0 (by unfold tA; rw [if_neg k9]) ha ⟨fun _ => k9, fun _ => rfl⟩ hJ fJ
  refine T_of rfl (Nat.le_of_ble_eq_true rfl) (s_X4_readTest_0 ⟨fun q => ⟨hL.1.1, s9 I ?_ (fun _ _ _ => rfl)⟩, fun q => ⟨hL.1.1, fun z => s9 I ?_ (fun _ _ _ => rfl), fun z => ⟨_, hL.1.2.2, hL.2.2.1.1.1, _, p3, t3, a, ixe hs.1 l3 (by omega) (by decide), s9 _ ?_ (fun b j hb => by rw [u2_a hb, u2_a hb])⟩⟩⟩)
  · have : ¬ 4 ≤ tt := fun h => nI_nlt (a := tt) (b := 4) h (by omega) q
    unfold f4; rw [if_neg this]; exact hs
  · have h4 : 4 ≤ tt := by
      rcases Nat.lt_or_ge tt 4 with y | y
      · exact absurd (nI_lt (b := 4) y (by decide)) q
      · exact y
    rw [hs.2.1] at z
    unfold f4 nt1; rw [if_pos h4, if_neg z]; exact hs
  · have h4 : 4 ≤ tt := by
      rcases Nat.lt_or_ge tt 4 with y | y
      · exact absurd (nI_lt (b := 4) y (by decide)) q
      · exact y
    rw [hs.2.1] at z
    unfold f4 nt1; rw [if_pos h4, if_pos z]
    refine ⟨?_, ?_, ?_⟩
    · rw [u2_k (by decide), u2_k (by decide)]; exact hs.1
    · rw [u2_k (by decide), u2_s]
    · rw [u2_s, u2_a (by omega)]; exact (hT.2.1 a ha).2.2
end PARSE
