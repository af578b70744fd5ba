/-! orders: the reference's words, and both the same -/
def ms (D U : Nat → Int32) (x due : Int32) : Nat → Int32
  | 0 => 0
  | n + 1 => ms D U x due n + (if obt x n = true ∧ ¬ due < U n then D n else 0)
def cmm (D U : Nat → Int32) (x : Int32) (no : Nat) : Bool := (List.range no).all (fun k => !obt x k || decide (ms D U x (U k) no ≤ U k))
theorem cmm_iff {D U : Nat → Int32} {x : Int32} {no : Nat} : cmm D U x no = true ↔ ∀ k, k < no → obt x k = true → ms D U x (U k) no ≤ U k := by
  unfold cmm
  rw [List.all_eq_true]
  constructor
  · intro h k hk ho
    have := h k (List.mem_range.mpr hk)
    simpa [ho] using this
  · intro h k hk
    have hk' := List.mem_range.mp hk
    cases ho : obt x k with
    | false => simp
    | true => simp [h k hk' ho]
theorem n60 (h w : Nat) : (60 + 30 * nI h) + nI w = nI (60 + 30 * h + w) := by
  show (nI 60 + nI 30 * nI h) + nI w = _
  rw [pk_mul, nI_add, nI_add]
theorem n60b (h c i : Nat) : (60 + 30 * nI h) + (nI c + 3 * nI i) = nI (60 + 30 * h + (c + 3 * i)) := by
  show (nI 60 + nI 30 * nI h) + (nI c + nI 3 * nI i) = _
  rw [pk_mul, nI_add, pk_mul, nI_add, nI_add]
theorem n300 (p w : Nat) : (300 + 8 * nI p) + nI w = nI (300 + 8 * p + w) := by
  show (nI 300 + nI 8 * nI p) + nI w = _
  rw [pk_mul, nI_add, nI_add]
theorem bit1 {x : Int32} {i : Nat} : ((x >>> (nI i &&& 31)) &&& 1) = 1 ↔ obt x i = true := by
  rcases and1 (x >>> (nI i &&& 31)) with h | h
  · rw [h, obt_f h]; decide
  · rw [h, obt_t (by rw [h]; decide)]; decide
theorem bit0 {x : Int32} {i : Nat} : ((x >>> (nI i &&& 31)) &&& 1) = 0 ↔ obt x i = false := by
  rcases and1 (x >>> (nI i &&& 31)) with h | h
  · rw [h, obt_f h]; decide
  · rw [h, obt_t (by rw [h]; decide)]; decide
section ORD9
variable {g : GT} {S : ST} {P : PT} {I : IT} {Q : QT} {m h no : Nat}
theorem t9_can {x : Int32} (hL : LM S P m) (hno : I (m + 1) (60 + 30 * h + 4) = nI no) (h8 : no ≤ 8) (hh : h < 8) (hq : Q (some (.int (bi (cmm (fun i => I (m + 1) (60 + 30 * h + (5 + 3 * i))) (fun i => I (m + 1) (60 + 30 * h + (6 + 3 * i))) x no = true)))) S P I) : T g MX9_can 0 0 [.ref m, .int (nI h), .int x] S P I Q := by
  refine T_of rfl (Nat.le_of_ble_eq_true rfl) (s_X9_can_0 ?_)
  generalize hD : (fun i => I (m + 1) (60 + 30 * h + (5 + 3 * i))) = D at hq
  generalize hU : (fun i => I (m + 1) (60 + 30 * h + (6 + 3 * i))) = U at hq
  have eD : ∀ i, I (m + 1) (60 + 30 * h + (5 + 3 * i)) = D i := fun i => congrFun hD i
  have eU : ∀ i, I (m + 1) (60 + 30 * h + (6 + 3 * i)) = U i := fun i => congrFun hU i
  have outer : ∀ n k, k + n = no → (∀ j, j < k → obt x j = true → ms D U x (U j) no ≤ U j) → B g MX9_can 0 0 2 [(0, .ref m), (1, .int (nI h)), (2, .int x), (3, .int (nI k))] [] S P I Q := by
    intro n
    induction n with
    | zero =>
      intro k he hk
      refine s_X9_can_2 ⟨hL.t, _, hL.p, hL.a, 60 + 30 * h + 4, hL.ix (n60 h 4) (by omega), fun _ => ?_, fun q => ?_⟩
      · rw [bi_t (cmm_iff.mpr (fun j hj => hk j (by omega)))] at hq; exact hq
      · rw [hno] at q; exact absurd (nI_le (by omega) (by omega)) q
    | succ n ih =>
      intro k he hk
      have inner : ∀ n2 i, i + n2 = no → obt x k = true → B g MX9_can 0 0 42 [(0, .ref m), (1, .int (nI h)), (2, .int x), (3, .int (nI k)), (4, .int (U k)), (5, .int (ms D U x (U k) i)), (6, .int (nI i))] [] S P I Q := by
        intro n2
        induction n2 with
        | zero =>
          intro i hi ho
          have ei : i = no := by omega
          subst ei
          refine s_X9_can_42 ⟨hL.t, _, hL.p, hL.a, 60 + 30 * h + 4, hL.ix (n60 h 4) (by omega), fun _ => ⟨fun q => ?_, fun q => ?_⟩, fun q => ?_⟩
          · rw [nI_1]
            refine ih (k + 1) (by omega) (fun j hj => ?_)
            by_cases ej : j = k
            · subst ej; exact fun _ => q
            · exact hk j (by omega)
          · rw [bi_f (fun z => q (cmm_iff.mp z k (by omega) ho))] at hq; exact hq
          · rw [hno] at q; exact absurd (nI_le (by omega) (by omega)) q
        | succ n2 ih2 =>
          intro i hi ho
          have hs := ih2 (i + 1) (by omega) ho
          rw [ms] at hs
          refine s_X9_can_42 ⟨hL.t, _, hL.p, hL.a, 60 + 30 * h + 4, hL.ix (n60 h 4) (by omega), fun q => ?_, fun q => ⟨fun q1 => ?_, fun q1 => ⟨60 + 30 * h + (6 + 3 * i), hL.ix (n60b h 6 i) (by omega), fun q2 => ?_, fun q2 => ⟨60 + 30 * h + (5 + 3 * i), hL.ix (n60b h 5 i) (by omega), ?_⟩⟩⟩⟩
          · rw [hno] at q; exact absurd q (nI_ge (by omega) (by omega))
          · rw [if_neg (fun z => q1 (bit1.mpr z.1)), Int32.add_zero] at hs
            rw [nI_1]; exact hs
          · rw [eU] at q2
            rw [if_neg (fun z => z.2 q2), Int32.add_zero] at hs
            rw [nI_1]; exact hs
          · rw [eU] at q2
            rw [if_pos ⟨bit1.mp q1, q2⟩] at hs
            rw [nI_1, eD]; exact hs
      refine s_X9_can_2 ⟨hL.t, _, hL.p, hL.a, 60 + 30 * h + 4, hL.ix (n60 h 4) (by omega), fun q => ?_, fun q => ⟨fun q1 => ⟨60 + 30 * h + (6 + 3 * k), hL.ix (n60b h 6 k) (by omega), ?_⟩, fun q1 => ?_⟩⟩
      · rw [hno] at q; exact absurd q (nI_ge (by omega) (by omega))
      · rw [eU]
        exact inner no 0 (by omega) (obt_t q1)
      · rw [nI_1]
        refine ih (k + 1) (by omega) (fun j hj ho => ?_)
        by_cases ej : j = k
        · subst ej; rw [obt_f q1] at ho; cases ho
        · exact hk j (by omega) ho
  exact outer no 0 (by omega) (fun j hj => absurd hj (Nat.not_lt_zero j))
theorem t9_worthOf {x : Int32} (hL : LM S P m) (hno : I (m + 1) (60 + 30 * h + 4) = nI no) (h8 : no ≤ 8) (hh : h < 8) (hq : Q (some (.int (wo (fun i => I (m + 1) (60 + 30 * h + (7 + 3 * i))) x no))) S P I) : T g MX9_worthOf 0 0 [.ref m, .int (nI h), .int x] S P I Q := by
  refine T_of rfl (Nat.le_of_ble_eq_true rfl) (s_X9_worthOf_0 ?_)
  generalize hW : (fun i => I (m + 1) (60 + 30 * h + (7 + 3 * i))) = W at hq
  have eW : ∀ i, I (m + 1) (60 + 30 * h + (7 + 3 * i)) = W i := fun i => congrFun hW i
  have loop : ∀ n i, i + n = no → B g MX9_worthOf 0 0 5 [(0, .ref m), (1, .int (nI h)), (2, .int x), (3, .int (wo W x i)), (4, .int (nI i))] [] S P I Q := by
    intro n
    induction n with
    | zero =>
      intro i he
      refine s_X9_worthOf_5 ⟨hL.t, _, hL.p, hL.a, 60 + 30 * h + 4, hL.ix (n60 h 4) (by omega), fun _ => ?_, fun q => ?_⟩
      · rw [show i = no by omega]; exact hq
      · rw [hno] at q; exact absurd (nI_le (by omega) (by omega)) q
    | succ n ih =>
      intro i he
      have hs := ih (i + 1) (by omega)
      rw [wo] at hs
      refine s_X9_worthOf_5 ⟨hL.t, _, hL.p, hL.a, 60 + 30 * h + 4, hL.ix (n60 h 4) (by omega), fun q => ?_, fun q => ⟨60 + 30 * h + (7 + 3 * i), hL.ix (n60b h 7 i) (by omega), ?_⟩⟩
      · rw [hno] at q; exact absurd q (nI_ge (by omega) (by omega))
      · rw [nI_1, eW]
        have e : ((x >>> (nI i &&& 31)) &&& 1) * W i = if obt x i = true then W i else 0 := by
          rcases and1 (x >>> (nI i &&& 31)) with z | z
          · rw [z, obt_f z]; simp
          · rw [z, obt_t (by rw [z]; decide)]; simp
        rw [e]
        exact hs
  exact loop no 0 (by omega)
theorem t9_best (hL : LM S P m) (hno : I (m + 1) (60 + 30 * h + 4) = nI no) (h8 : no ≤ 8) (hh : h < 8) (hq : Q (some (.int (nI (bst (fun s => wo (fun i => I (m + 1) (60 + 30 * h + (7 + 3 * i))) (nI s) no) (fun s => cmm (fun i => I (m + 1) (60 + 30 * h + (5 + 3 * i))) (fun i => I (m + 1) (60 + 30 * h + (6 + 3 * i))) (nI s) no) (2 ^ no - 1))))) S P I) : T g MX9_best 0 0 [.ref m, .int (nI h)] S P I Q := by
  refine T_of rfl (Nat.le_of_ble_eq_true rfl) (s_X9_best_0 ?_)
  have hp : 2 ^ no ≤ 256 := by
    have : ∀ i, i < 9 → 2 ^ i ≤ 256 := by decide
    exact this no (by omega)
  have hp0 : 0 < 2 ^ no := Nat.pow_pos (by decide)
  generalize hwv : (fun s => wo (fun i => I (m + 1) (60 + 30 * h + (7 + 3 * i))) (nI s) no) = wv at hq
  generalize hcd : (fun s => cmm (fun i => I (m + 1) (60 + 30 * h + (5 + 3 * i))) (fun i => I (m + 1) (60 + 30 * h + (6 + 3 * i))) (nI s) no) = cd at hq
  have ewv : ∀ s, wo (fun i => I (m + 1) (60 + 30 * h + (7 + 3 * i))) (nI s) no = wv s := fun s => congrFun hwv s
  have ecd : ∀ s, cmm (fun i => I (m + 1) (60 + 30 * h + (5 + 3 * i))) (fun i => I (m + 1) (60 + 30 * h + (6 + 3 * i))) (nI s) no = cd s := fun s => congrFun hcd s
  have loop : ∀ n i, 1 ≤ i → i + n = 2 ^ no → B g MX9_best 0 0 4 [(0, .ref m), (1, .int (nI h)), (2, .int (nI (bst wv cd (i - 1)))), (3, .int (nI i))] [] S P I Q := by
    intro n
    induction n with
    | zero =>
      intro i h1 he
      refine s_X9_best_4 ⟨hL.t, _, hL.p, hL.a, 60 + 30 * h + 4, hL.ix (n60 h 4) (by omega), fun _ => ?_, fun q => ?_⟩
      · rw [show i - 1 = 2 ^ no - 1 by omega]; exact hq
      · rw [hno, shl1 h8] at q; exact absurd (nI_le (by omega) (by omega)) q
    | succ n ih =>
      intro i h1 he
      have hs := ih (i + 1) (by omega) (by omega)
      rw [show i + 1 - 1 = (i - 1) + 1 by omega, bst, show i - 1 + 1 = i by omega] at hs
      generalize bst wv cd (i - 1) = b at hs ⊢
      refine s_X9_best_4 ⟨hL.t, _, hL.p, hL.a, 60 + 30 * h + 4, hL.ix (n60 h 4) (by omega), fun q => ?_, fun q => t9_worthOf hL hno h8 hh (s_X9_best_22 ⟨hL.t, t9_worthOf hL hno h8 hh (s_X9_best_28 ⟨fun q1 => ?_, fun q1 => ⟨hL.t, t9_can hL hno h8 hh (s_X9_best_37 ⟨fun q2 => ?_, fun q2 => ?_⟩)⟩⟩)⟩)⟩
      · rw [hno, shl1 h8] at q; exact absurd q (nI_ge (by omega) (by omega))
      · rw [ewv, ewv] at q1
        rw [if_neg (fun z => Int32.not_lt.mpr q1 z.1)] at hs
        rw [nI_1]; exact hs
      · rw [ecd] at q2
        have hcf : ¬ cd i = true := fun z => by rw [bi_t z] at q2; exact absurd q2 (by decide)
        rw [if_neg (fun z => hcf z.2)] at hs
        rw [nI_1]; exact hs
      · rw [ecd] at q2
        rw [ewv, ewv] at q1
        have hct : cd i = true := Decidable.byContradiction fun z => q2 (bi_f z)
        rw [if_pos ⟨Int32.not_le.mp q1, hct⟩] at hs
        rw [nI_1]; exact hs
  exact loop (2 ^ no - 1) 1 (Nat.le_refl 1) (by omega)
end ORD9
/-! both ways of looking at a set of orders -/
def lsum (f : Nat → Nat) : List Nat → Nat
  | [] => 0
  | o :: t => f o + lsum f t
theorem lsum_app (f : Nat → Nat) : ∀ (a b : List Nat), lsum f (a ++ b) = lsum f a + lsum f b
  | [], b => by simp [lsum]
  | x :: a, b => by rw [List.cons_append, lsum, lsum_app f a b, lsum]; omega
theorem lsum_ins (f : Nat → Nat) (l : List Nat) (p x : Nat) : lsum f (insL l p x) = f x + lsum f l := by
  have h : lsum f l = lsum f (l.take p) + lsum f (l.drop p) := by rw [← lsum_app, List.take_append_drop]
  rw [insL, lsum_app, lsum, h]; omega
theorem lsum_sl (f : Nat → Nat) (uu : Nat → Nat) : ∀ n, lsum f (sl uu n) = fb_sm f n
  | 0 => rfl
  | n + 1 => by rw [sl, lsum_ins, lsum_sl f uu n, fb_sm_succ]; omega
theorem lsum_le {f f' : Nat → Nat} : ∀ {l : List Nat}, (∀ o ∈ l, f o ≤ f' o) → lsum f l ≤ lsum f' l
  | [], _ => Nat.le_refl _
  | o :: t, h => by
    have h1 := h o List.mem_cons_self
    have h2 := lsum_le (fun z hz => h z (List.mem_cons_of_mem _ hz))
    rw [lsum, lsum]; omega
theorem lsum_eq {f f' : Nat → Nat} {l : List Nat} (h : ∀ o ∈ l, f o = f' o) : lsum f l = lsum f' l := Nat.le_antisymm (lsum_le fun o ho => Nat.le_of_eq (h o ho)) (lsum_le fun o ho => Nat.le_of_eq (h o ho).symm)
theorem lsum_0 {f : Nat → Nat} {l : List Nat} (h : ∀ o ∈ l, f o = 0) : lsum f l = 0 := by
  induction l with
  | nil => rfl
  | cons o t ih => rw [lsum, h o List.mem_cons_self, ih (fun z hz => h z (List.mem_cons_of_mem _ hz))]
theorem lsum_bd {f : Nat → Nat} {c : Nat} : ∀ {l : List Nat}, (∀ o ∈ l, f o ≤ c) → lsum f l ≤ l.length * c
  | [], _ => Nat.zero_le _
  | o :: t, h => by
    have h1 := h o List.mem_cons_self
    have h2 := lsum_bd (fun z hz => h z (List.mem_cons_of_mem _ hz))
    rw [lsum, List.length_cons, Nat.succ_mul]; omega
theorem rkf_gt (uu : Nat → Nat) (un : Nat) (l : List Nat) : ∀ n r, rkf uu un l n ≤ r → r < n → un < uu (l.getD r 0)
  | 0, r, _, h => absurd h (Nat.not_lt_zero r)
  | n + 1, r, h1, h2 => by
    unfold rkf at h1
    split at h1
    · rename_i q
      by_cases e : r = n
      · subst e; exact q
      · exact rkf_gt uu un l n r h1 (by omega)
    · omega
theorem rkf_at (uu : Nat → Nat) (un : Nat) (l : List Nat) : ∀ n, 0 < rkf uu un l n → uu (l.getD (rkf uu un l n - 1) 0) ≤ un
  | 0, h => absurd h (Nat.lt_irrefl 0)
  | n + 1, h => by
    unfold rkf at h ⊢
    split at h
    · rename_i q
      rw [if_pos q]
      exact rkf_at uu un l n h
    · rename_i q
      rw [if_neg q]
      simp only [Nat.add_sub_cancel]
      omega
def srt (uu : Nat → Nat) (l : List Nat) : Prop := ∀ i j, i < j → j < l.length → uu (l.getD i 0) ≤ uu (l.getD j 0)
theorem sl_srt (uu : Nat → Nat) : ∀ n, srt uu (sl uu n)
  | 0 => fun i j _ h => absurd h (by simp [sl])
  | n + 1 => by
    have ih := sl_srt uu n
    have hl := sl_len uu n
    have h1 := rkf_le uu (uu n) (sl uu n) n
    have hg := rkf_gt uu (uu n) (sl uu n) n
    have ha := rkf_at uu (uu n) (sl uu n) n
    intro i j hij hj
    rw [sl_len] at hj
    rw [sl]
    unfold srt at ih
    rw [hl] at ih
    generalize sl uu n = l at *
    generalize rkf uu (uu n) l n = p at *
    rcases Nat.lt_trichotomy j p with q | q | q
    · rw [insL_lt (by omega) (by omega), insL_lt (by omega) q]; exact ih i j hij (by omega)
    · subst q
      rw [insL_lt (by omega) (by omega), insL_eq (by omega)]
      have := ha (by omega)
      by_cases e : i = j - 1
      · subst e; exact this
      · exact Nat.le_trans (ih i (j - 1) (by omega) (by omega)) this
    · rw [insL_gt (by omega) q]
      rcases Nat.lt_trichotomy i p with r | r | r
      · rw [insL_lt (by omega) r]; exact ih i (j - 1) (by omega) (by omega)
      · subst r
        rw [insL_eq (by omega)]; exact Nat.le_of_lt (hg (j - 1) (by omega) (by omega))
      · rw [insL_gt (by omega) r]; exact ih (i - 1) (j - 1) (by omega) (by omega)
